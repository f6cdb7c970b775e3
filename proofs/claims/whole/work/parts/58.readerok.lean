/-! reader: both sides -/
section RK
variable {n : Nat} {A B ow : Nat → Nat} {h : Hpx} {M M' : Msx} {k r : Nat} {x : Int32}
theorem okI_D (hR : nR M' = nR M) (hD : nD M' = nD M + 1) (hs : ∀ q, sL M' q = sL M q) (hk : ∀ i, i ≠ nD M → kD M' i = kD M i) {f i : Nat} (hok : okI M' f i) : okI M f i ∨ ((f = 11 ∨ f = 16 ∨ f = 18 ∨ f = 19 ∨ f = 20 ∨ f = 21 ∨ f = 22 ∨ f = 25 ∨ f = 26 ∨ f = 28 ∨ f = 55 ∨ f = 56 ∨ f = 58) ∧ i = nD M) ∨ (f = 15 ∧ i / 4 = nD M) ∨ (f = 54 ∧ i / 8 = nD M) ∨ ((f = 57 ∨ f = 61 ∨ f = 62 ∨ f = 63) ∧ i / 32 = nD M ∧ kD M' (nD M) = 4) := by
  unfold okI at hok ⊢
  split at hok
  all_goals (try simp only [hR, hD, hs] at hok)
  all_goals first
    | exact Or.inl hok
    | (by_cases e : i = nD M
       · exact Or.inr (Or.inl ⟨by omega, e⟩)
       · exact Or.inl (show i < nD M by omega))
    | (by_cases e : i / 4 = nD M
       · exact Or.inr (Or.inr (Or.inl ⟨rfl, e⟩))
       · exact Or.inl (show i / 4 < nD M by omega))
    | (by_cases e : i / 8 = nD M
       · exact Or.inr (Or.inr (Or.inr (Or.inl ⟨rfl, e⟩)))
       · exact Or.inl (show i / 8 < nD M by omega))
    | (by_cases e : i / 32 = nD M
       · exact Or.inr (Or.inr (Or.inr (Or.inr ⟨by omega, e, by rw [e] at hok; exact hok.2⟩)))
       · exact Or.inl ⟨by omega, by rw [hk _ e] at hok; exact hok.2⟩)
theorem okJ_D (hR : nR M' = nR M) (hD : nD M' = nD M + 1) (hs : ∀ q, sL M' q = sL M q) (hk : ∀ i, i ≠ nD M → kD M' i = kD M i) {f i : Nat} (hok : okJ M' f i) : okJ M f i ∨ (f = 24 ∧ i = nD M) ∨ (f = 27 ∧ i / 8 = nD M) ∨ (f = 64 ∧ i / 32 = nD M ∧ kD M' (nD M) = 4) ∨ (f = 65 ∧ i / 256 = nD M ∧ kD M' (nD M) = 4) := by
  unfold okJ at hok ⊢
  split at hok
  all_goals (try simp only [hR, hD, hs] at hok)
  all_goals first
    | exact Or.inl hok
    | (by_cases e : i = nD M
       · exact Or.inr (Or.inl ⟨rfl, e⟩)
       · exact Or.inl (show i < nD M by omega))
    | (by_cases e : i / 8 = nD M
       · exact Or.inr (Or.inr (Or.inl ⟨rfl, e⟩))
       · exact Or.inl (show i / 8 < nD M by omega))
    | (by_cases e : i / 32 = nD M
       · exact Or.inr (Or.inr (Or.inr (Or.inl ⟨rfl, e, by rw [e] at hok; exact hok.2⟩)))
       · exact Or.inl ⟨by omega, by rw [hk _ e] at hok; exact hok.2⟩)
    | (by_cases e : i / 256 = nD M
       · exact Or.inr (Or.inr (Or.inr (Or.inr ⟨rfl, e, by rw [e] at hok; exact hok.2⟩)))
       · exact Or.inl ⟨by omega, by rw [hk _ e] at hok; exact hok.2⟩)
/-- a field that stood before -/
theorem rd_old {f i : Nat} (hok : okI M f i) (h10 : f ≠ 10) (h35 : f ≠ 35) : m_I (rdM (nD M) k r x M) f i = m_I M f i := by
  refine rd_n (fun z => h10 z.1) (fun z => h35 z.1) ?_ ?_ ?_ ?_
  · rintro ⟨hf, e⟩
    rcases hf with rfl | rfl | rfl | rfl | rfl | rfl | rfl | rfl | rfl
    all_goals first
      | (have : i < nD M := hok; omega)
      | exact hok
  · rintro ⟨hf, e⟩
    rcases hf with rfl | rfl
    · exact hok
    · have : i / 4 < nD M := hok
      omega
  · rintro ⟨rfl, e⟩
    have : i / 8 < nD M := hok
    omega
  · rintro ⟨hf, e⟩
    rcases hf with rfl | rfl | rfl | rfl | rfl
    all_goals first
      | (have : i / 32 < nD M ∧ kD M (i / 32) = 4 := hok; omega)
      | exact hok
theorem rd_oldJ {f i : Nat} (hok : okJ M f i) : m_J (rdM (nD M) k r x M) f i = m_J M f i := by
  rw [rd_J, if_neg, if_neg]
  · rintro ⟨rfl, e⟩
    have : i / 256 < nD M ∧ kD M (i / 256) = 4 := hok
    omega
  · rintro ⟨rfl, e⟩
    have : i / 32 < nD M ∧ kD M (i / 32) = 4 := hok
    omega
theorem reader_C (C : Cn_ n A B ow h M) (Z : Zf_ M) (hj : nD M < 16) (hk1 : 1 ≤ k) (hk : k < 8) (hr : r < nR M) (X : Ox_ k r x M) {h1 : Hpx} (R : Rn_ (h_z h) k (some (A r)) (if k = 7 then some (A x.toNatClampNeg) else none) (if k = 4 then 32 else 0) (plK k r x) (pcK k) (nmK k x) (ncK k) (nbK k x) h h1) : Cn_ n A (fun i => if i = nD M then h_z h else B i) (fun a => if h_z h ≤ a then 9 + nD M else ow a) (s_I (s_I (s_R h1 2 (nD M) (some (h_z h))) 0 5 (nI (nD M + 1))) 0 6 (m_I M 35 0 + (if k = 4 then 33 else 1))) (rdM (nD M) k r x M) := by
  obtain ⟨O, S, RI, RJ, W⟩ := C
  have W' := rd_W W Z hj hk1 hk hr X
  have eK := rd_kj (j := nD M) (r := r) (x := x) (M := M) hk
  have eKi : ∀ i, i ≠ nD M → kD (rdM (nD M) k r x M) i = kD M i := fun i hi => rd_ki hi
  have eR := rd_Rn (j := nD M) (k := k) (r := r) (x := x) (M := M)
  have eD := rd_Dn (k := k) (r := r) (x := x) (M := M) hj
  have es : ∀ q, sL (rdM (nD M) k r x M) q = sL M q := fun q => rd_sl
  obtain ⟨z1, z2, z3, z4⟩ := Z
  obtain ⟨o, ⟨c1, c2, c3, c4, c5, c6, c7⟩, i1, m1, ⟨p1, p2, p3⟩, ⟨n1, n2, n3⟩, w1, w2, w3, w4, w5⟩ := R
  have z41 : 41 ≤ h_z h := S.2.2.2.2.2.1.1
  have hB : ∀ i, i < nD M → (fun i => if i = nD M then h_z h else B i) i = B i := fun i hi => if_neg (by omega)
  have hBj : (fun i => if i = nD M then h_z h else B i) (nD M) = h_z h := if_pos rfl
  have lb : ∀ i, i ≠ nD M → lB (rdM (nD M) k r x M) i = lB M i := fun i hi => by unfold lB; rw [eKi i hi]
  have lbj : lB (rdM (nD M) k r x M) (nD M) = if k = 4 then 70 else 6 := by unfold lB; rw [eK]
  have l6 : ∀ j, 6 ≤ lB M j := fun j => by unfold lB; split <;> omega
  have zz : h_z h1 = h_z h + 4 + 2 + 2 * (if k = 4 then 32 else 0) := w5
  have iR : ∀ a p, h_R (s_I (s_I (s_R h1 2 (nD M) (some (h_z h))) 0 5 (nI (nD M + 1))) 0 6 (m_I M 35 0 + (if k = 4 then 33 else 1))) a p = if a = 2 ∧ p = nD M then some (h_z h) else h_R h1 a p := fun a p => by rw [RsI, RsI, sR_at]
  have iI : ∀ a p, h_I (s_I (s_I (s_R h1 2 (nD M) (some (h_z h))) 0 5 (nI (nD M + 1))) 0 6 (m_I M 35 0 + (if k = 4 then 33 else 1))) a p = if a = 0 ∧ p = 6 then m_I M 35 0 + (if k = 4 then 33 else 1) else if a = 0 ∧ p = 5 then nI (nD M + 1) else h_I h1 a p := fun a p => by rw [sI_at, sI_at, IsR]
  refine ⟨⟨fun a ha => ?_, fun q hq => ?_, fun j hj' => ?_, by rw [eR]; exact O.2.2.2⟩, ⟨?_, fun q hq => ?_, fun j hj' => ?_, fun q hq => ?_, fun j hj' => ?_, ?_, fun q hq => ?_, fun j hj' => ?_⟩, fun f i hok => ?_, fun f i hok => ?_, W'⟩
  · show (if h_z h ≤ a then 9 + nD M else ow a) = 0
    rw [if_neg (by omega)]
    exact O.1 a ha
  · rw [eR] at hq
    rw [es]
    have zq := S.2.2.2.2.2.2.1 q hq
    refine ⟨(O.2.1 q hq).1, fun y hy => ?_⟩
    show (if h_z h ≤ A q + y then 9 + nD M else ow (A q + y)) = 1 + q
    rw [if_neg (by omega)]
    exact (O.2.1 q hq).2 y hy
  · by_cases e : j = nD M
    · subst e
      rw [hBj]
      exact ⟨z41, fun y hy => if_pos (by omega)⟩
    · have hi : j < nD M := by omega
      rw [hB j hi, lb j e]
      have zj := S.2.2.2.2.2.2.2 j hi
      refine ⟨(O.2.2.1 j hi).1, fun y hy => ?_⟩
      show (if h_z h ≤ B j + y then 9 + nD M else ow (B j + y)) = 9 + j
      rw [if_neg (by omega)]
      exact (O.2.2.1 j hi).2 y hy
  · obtain ⟨q0, q1, q2, q3, q4, q5, q6, q7, q8, q9, q10, q11, q12⟩ := S.1
    obtain ⟨a1, a2, a3, a4, a5⟩ := o 0 (by omega)
    obtain ⟨b1, b2, -⟩ := o 1 (by omega)
    obtain ⟨d1, d2, -⟩ := o 2 (by omega)
    obtain ⟨e1, e2, -⟩ := o 3 (by omega)
    obtain ⟨f1, f2, -⟩ := o 4 (by omega)
    refine ⟨a1.trans q0, ?_, ?_, ?_, ?_, b1.trans q5, b2.trans q6, d1.trans q7, d2.trans q8, e1.trans q9, e2.trans q10, f1.trans q11, f2.trans q12⟩
    · rw [iR, if_neg (by omega), a5]; exact q1
    · rw [iR, if_neg (by omega), a5]; exact q2
    · rw [iR, if_neg (by omega), a5]; exact q3
    · rw [iR, if_neg (by omega), a5]; exact q4
  · rw [iR, eR, if_neg (by omega), (o 1 (by omega)).2.2.2.2]
    exact S.2.1 q hq
  · rw [iR, eD, (o 2 (by omega)).2.2.2.2, S.2.2.1 j hj']
    by_cases e : j = nD M
    · rw [if_pos ⟨rfl, e⟩, if_pos (by omega), e, hBj]
    · rw [if_neg (fun z => e z.2)]
      by_cases e2 : j < nD M
      · rw [if_pos e2, if_pos (by omega), hB j e2]
      · rw [if_neg e2, if_neg (by omega)]
  · rw [eR] at hq
    have zq := S.2.2.2.2.2.2.1 q hq
    have aq := (O.2.1 q hq).1
    obtain ⟨q1, q2, q3, q4, q5⟩ := S.2.2.2.1 q hq
    unfold Sr_
    rw [es]
    obtain ⟨a1, a2, a3, a4, a5⟩ := o (A q) (by omega)
    obtain ⟨b1, b2, b3, b4, b5⟩ := o (A q + 1) (by omega)
    refine ⟨a1.trans q1, ?_, b1.trans q3, b2.trans q4, fun t ht => ?_⟩
    · rw [iR, if_neg (by omega), a5]; exact q2
    · obtain ⟨u1, u2, u3, u4, u5⟩ := q5 t ht
      obtain ⟨d1, d2, d3, d4, d5⟩ := o (A q + 2 + 2 * t) (by omega)
      obtain ⟨e1, e2, e3, e4, e5⟩ := o (A q + 3 + 2 * t) (by omega)
      refine ⟨?_, d1.trans u2, ?_, e1.trans u4, e2.trans u5⟩
      · rw [iR, if_neg (by omega), b5]; exact u1
      · rw [iR, if_neg (by omega), d5]; exact u3
  · by_cases ej : j = nD M
    · subst ej
      have er : rG (rdM (nD M) k r x M) (nD M) 0 = r := by
        show (m_I (rdM (nD M) k r x M) 12 (4 * nD M + 0)).toNatClampNeg = _
        rw [Nat.add_zero, rd_12, cl_nI (by have := O.2.2.2; omega)]
      have et : tG (rdM (nD M) k r x M) (nD M) = x.toNatClampNeg := by
        show (m_I (rdM (nD M) k r x M) 17 (nD M)).toNatClampNeg = _
        rw [rd_17]
      obtain ⟨u1, u2, u3, u4, -⟩ := m1
      have Rz : ∀ p, h_R (s_I (s_I (s_R h1 2 (nD M) (some (h_z h))) 0 5 (nI (nD M + 1))) 0 6 (m_I M 35 0 + (if k = 4 then 33 else 1))) (h_z h) p = h_R h1 (h_z h) p := fun p => by rw [iR, if_neg (by omega)]
      unfold Sd_
      rw [hBj, eK, er, et]
      refine ⟨c1, by rw [Rz]; exact c2, by rw [Rz]; exact c3, by rw [Rz]; exact c4, u1, by rw [iR, if_neg (by omega)]; exact u2, u3, u4, by rw [Rz]; exact c5, p1, p2, by rw [Rz]; exact c6, n1, n2, by rw [Rz]; exact c7, w1, w2, fun k4 e he => ?_, fun k4 p hp => ?_⟩
      · have eg : sG (rdM (nD M) k r x M) (nD M) e = e := by
          show (m_I (rdM (nD M) k r x M) 66 (32 * nD M + e)).toNatClampNeg = _
          rw [rd_66 he, cl_nI (by omega)]
        rw [iR, if_neg (by omega), eg]
        exact w3 e (by rw [if_pos k4]; exact he)
      · obtain ⟨v1, v2, v3, v4, -⟩ := w4 p (by rw [if_pos k4]; exact hp)
        rw [show h_z h + 4 + 2 + 2 * p = h_z h + 6 + 2 * p by omega] at v1 v2 v3 v4
        rw [show h_z h + 6 + 2 * p + 1 = h_z h + 7 + 2 * p by omega] at v2 v3 v4
        exact ⟨v1, by rw [iR, if_neg (by omega)]; exact v2, v3, v4⟩
    · have hi : j < nD M := by omega
      have zj := S.2.2.2.2.2.2.2 j hi
      have bj := (O.2.2.1 j hi).1
      have := l6 j
      have wd := W.2.2.1 j hi
      have er : rG (rdM (nD M) k r x M) j 0 = rG M j 0 := by
        show (m_I (rdM (nD M) k r x M) 12 (4 * j + 0)).toNatClampNeg = _
        rw [rd_n (by omega) (by omega) (by omega) (by omega) (by omega) (by omega)]
        rfl
      have et : tG (rdM (nD M) k r x M) j = tG M j := by
        show (m_I (rdM (nD M) k r x M) 17 j).toNatClampNeg = _
        rw [rd_n (by omega) (by omega) (by omega) (by omega) (by omega) (by omega)]
        rfl
      have eg : ∀ e, e < 32 → sG (rdM (nD M) k r x M) j e = sG M j e := fun e he => by
        show (m_I (rdM (nD M) k r x M) 66 (32 * j + e)).toNatClampNeg = _
        rw [rd_n (by omega) (by omega) (by omega) (by omega) (by omega) (by omega)]
        rfl
      obtain ⟨q1, q2, q3, q4, q5, q6, q7, q8, q9, q10, q11, q12, q13, q14, q15, q16, q17, q18, q19⟩ := S.2.2.2.2.1 j hi
      have x0 := o (B j) (by omega)
      have x1 := o (B j + 1) (by omega)
      have x2 := o (B j + 2) (by omega)
      have x3 := o (B j + 3) (by omega)
      have x4 := o (B j + 4) (by omega)
      have x5 := o (B j + 5) (by omega)
      have R0 : ∀ p, h_R (s_I (s_I (s_R h1 2 (nD M) (some (h_z h))) 0 5 (nI (nD M + 1))) 0 6 (m_I M 35 0 + (if k = 4 then 33 else 1))) (B j) p = h_R h (B j) p := fun p => by rw [iR, if_neg (by omega), x0.2.2.2.2]
      unfold Sd_
      rw [hB j hi, eKi j ej, er, et]
      refine ⟨x0.1.trans q1, by rw [R0]; exact q2, by rw [R0]; exact q3, by rw [R0]; exact q4, x1.1.trans q5, by rw [iR, if_neg (by omega), x1.2.2.2.2]; exact q6, x2.1.trans q7, x2.2.1.trans q8, by rw [R0]; exact q9, x3.1.trans q10, x3.2.1.trans q11, by rw [R0]; exact q12, x4.1.trans q13, x4.2.1.trans q14, by rw [R0]; exact q15, x5.1.trans q16, x5.2.1.trans q17, fun k4 e he => ?_, fun k4 p hp => ?_⟩
      · rw [iR, if_neg (by omega), x5.2.2.2.2, eg e he]
        exact q18 k4 e he
      · have lj := lB4 k4
        obtain ⟨v1, v2, v3, v4⟩ := q19 k4 p hp
        have y1 := o (B j + 6 + 2 * p) (by omega)
        have y2 := o (B j + 7 + 2 * p) (by omega)
        exact ⟨y1.1.trans v1, by rw [iR, if_neg (by omega), y1.2.2.2.2]; exact v2, y2.1.trans v3, y2.2.1.trans v4⟩
  · obtain ⟨u1, u2⟩ := S.2.2.2.2.2.1
    refine ⟨?_, fun a h1 h2 => (o a (by omega)).1.trans (u2 a h1 h2)⟩
    show 41 ≤ h_z h1
    omega
  · rw [eR] at hq
    show _ ≤ h_z h1
    have zq := S.2.2.2.2.2.2.1 q hq
    rw [es]
    omega
  · show _ ≤ h_z h1
    by_cases e : j = nD M
    · subst e
      rw [hBj, lbj, zz]
      split <;> omega
    · have hi : j < nD M := by omega
      have zj := S.2.2.2.2.2.2.2 j hi
      rw [hB j hi, lb j e]
      omega
  · rcases okI_D eR eD es eKi hok with h2 | ⟨hf, e⟩ | ⟨rfl, e⟩ | ⟨rfl, e⟩ | ⟨hf, e, k4⟩
    · rw [adI_c (fun _ _ => rfl) hB h2, iI]
      have lt := ad_ltI O S h2
      have eo := (o _ lt).2.2.1 (plI f i)
      by_cases f10 : f = 10
      · subst f10
        have : i = 0 := h2
        subst this
        rw [if_neg (by simp [plI]), if_pos ⟨rfl, rfl⟩, rd_10]
      · by_cases f35 : f = 35
        · subst f35
          have : i = 0 := h2
          subst this
          rw [if_pos ⟨rfl, rfl⟩, rd_35]
        · rw [rd_old h2 f10 f35, if_neg (fun z => f35 (inj_I O h2 (f' := 35) (i' := 0) rfl z.1 z.2).1), if_neg (fun z => f10 (inj_I O h2 (f' := 10) (i' := 0) rfl z.1 z.2).1), eo]
          exact RI f i h2
    · subst e
      rw [iI]
      obtain ⟨u1, u2, u3, u4, u5, -⟩ := m1
      rcases hf with rfl | rfl | rfl | rfl | rfl | rfl | rfl | rfl | rfl | rfl | rfl | rfl | rfl
      all_goals simp only [adI, plI, if_pos]
      all_goals rw [if_neg (by omega), if_neg (by omega)]
      · rw [i1, if_pos rfl, rd_11]
      · rw [i1, if_neg (by omega), if_neg (by omega), if_pos rfl, rd_16, z3 _ (Nat.le_refl _)]
        rfl
      · rw [i1, if_neg (by omega), if_neg (by omega), if_neg (by omega), if_neg (by omega), if_neg (by omega), rd_o (by omega), z1 18 (by omega)]
      · rw [i1, if_neg (by omega), if_neg (by omega), if_neg (by omega), if_neg (by omega), if_pos (by omega), rd_19 (by omega)]
      · rw [i1, if_neg (by omega), if_neg (by omega), if_neg (by omega), if_neg (by omega), if_pos (by omega), rd_19 (by omega)]
      · rw [i1, if_neg (by omega), if_neg (by omega), if_neg (by omega), if_neg (by omega), if_neg (by omega), rd_o (by omega), z1 21 (by omega)]
      · rw [u5, if_neg (by omega), rd_o (by omega), z1 22 (by omega)]
      · rw [u5, if_neg (by omega), rd_o (by omega), z1 25 (by omega)]
      · rw [u5, if_neg (by omega), rd_o (by omega), z1 26 (by omega)]
      · rw [i1, if_neg (by omega), if_neg (by omega), if_neg (by omega), if_neg (by omega), if_neg (by omega), rd_o (by omega), z1 28 (by omega)]
      · rw [i1, if_neg (by omega), if_pos rfl, rd_55]
      · rw [i1, if_neg (by omega), if_neg (by omega), if_neg (by omega), if_pos rfl, rd_56]
      · rw [u5, if_pos rfl, rd_58]
    · rw [iI]
      simp only [adI, plI, e, if_pos]
      rw [if_neg (by omega), if_neg (by omega), n3 _ (by omega)]
      have ei : i = 4 * nD M + i % 4 := by omega
      conv => rhs; rw [ei]
      rw [rd_15 (by omega), z4 _ (by omega)]
      rfl
    · rw [iI]
      simp only [adI, plI, e, if_pos]
      rw [if_neg (by omega), if_neg (by omega), p3 _ (by omega)]
      have ei : i = 8 * nD M + i % 8 := by omega
      conv => rhs; rw [ei]
      rw [rd_54 (by omega)]
    · rw [eK] at k4
      have lt : i % 32 < (if k = 4 then 32 else 0) := by rw [if_pos k4]; omega
      obtain ⟨v1, v2, v3, v4, v5, -⟩ := w4 _ lt
      rw [show h_z h + 4 + 2 + 2 * (i % 32) = h_z h + 6 + 2 * (i % 32) by omega] at v5
      rw [iI]
      rcases hf with rfl | rfl | rfl | rfl
      all_goals simp only [adI, plI, e, if_pos]
      all_goals rw [if_neg (by omega), if_neg (by omega), v5]
      · rw [if_neg (by omega), rd_I, if_neg (by omega), if_neg (by omega), if_neg (by omega), if_neg (by omega), if_pos (by omega)]
      · rw [if_pos rfl, rd_I, if_neg (by omega), if_neg (by omega), if_neg (by omega), if_neg (by omega), if_neg (by omega), if_pos (by omega)]
      · rw [if_neg (by omega), rd_I, if_neg (by omega), if_neg (by omega), if_neg (by omega), if_neg (by omega), if_pos (by omega)]
      · rw [if_neg (by omega), rd_I, if_neg (by omega), if_neg (by omega), if_neg (by omega), if_neg (by omega), if_pos (by omega)]
  · rw [JsI, JsI, JsR]
    rcases okJ_D eR eD es eKi hok with h2 | ⟨rfl, e⟩ | ⟨rfl, e⟩ | ⟨rfl, e, k4⟩ | ⟨rfl, e, k4⟩
    · rw [adJ_c (fun _ _ => rfl) hB h2, (o _ (ad_ltJ O S h2)).2.2.2.1, rd_oldJ h2]
      exact RJ f i h2
    · subst e
      obtain ⟨u1, u2, u3, u4, u5, u6, -⟩ := m1
      simp only [adJ, plJ, if_pos]
      rw [u6, rd_J, if_neg (by omega), if_neg (by omega), z2 24 (by omega)]
    · obtain ⟨u1, u2, u3, u4, u5, u6, u7⟩ := m1
      simp only [adJ, plJ, e, if_pos]
      rw [rd_J, if_neg (by omega), if_neg (by omega), z2 27 (by omega)]
      exact u7 _
    · rw [eK] at k4
      have lt : i % 32 < (if k = 4 then 32 else 0) := by rw [if_pos k4]; omega
      obtain ⟨v1, v2, v3, v4, v5, v6, -⟩ := w4 _ lt
      rw [show h_z h + 4 + 2 + 2 * (i % 32) = h_z h + 6 + 2 * (i % 32) by omega] at v6
      simp only [adJ, plJ, e, if_pos]
      rw [v6, rd_J, if_pos ⟨rfl, e⟩]
    · rw [eK] at k4
      have lt : i / 8 % 32 < (if k = 4 then 32 else 0) := by rw [if_pos k4]; omega
      obtain ⟨v1, v2, v3, v4, v5, v6, v7⟩ := w4 _ lt
      simp only [adJ, plJ, e, if_pos]
      rw [rd_J, if_neg (by omega), if_pos ⟨rfl, e⟩, show h_z h + 7 + 2 * (i / 8 % 32) = h_z h + 4 + 2 + 2 * (i / 8 % 32) + 1 by omega]
      exact v7 _
theorem Rn_cg {z k N : Nat} {ra tg : Option Nat} {pl nm pl' nm' : Nat → Int32} {pc nc nb pc' nc' nb' : Int32} {h0 h : Hpx} (R : Rn_ z k ra tg N pl pc nm nc nb h0 h) (e1 : ∀ q, q < 8 → pl q = pl' q) (e2 : pc = pc') (e3 : ∀ q, q < 4 → nm q = nm' q) (e4 : nc = nc') (e5 : nb = nb') : Rn_ z k ra tg N pl' pc' nm' nc' nb' h0 h := by
  subst e2
  subst e4
  subst e5
  obtain ⟨o, c, i1, m1, ⟨p1, p2, p3⟩, ⟨n1, n2, n3⟩, w⟩ := R
  exact ⟨o, c, i1, m1, ⟨p1, p2, fun q hq => (p3 q hq).trans (e1 q hq)⟩, ⟨n1, n2, fun q hq => (n3 q hq).trans (e3 q hq)⟩, w⟩
theorem newR_c (C : Cn_ n A B ow h M) (hk1 : 1 ≤ k) (hk : k < 8) (hr : r < nR M) (X : Ox_ k r x M) : ∃ h1, f_X3_newReader h 0 (nI k) (some (A r)) x = some (h1, some (h_z h)) ∧ Rn_ (h_z h) k (some (A r)) (if k = 7 then some (A x.toNatClampNeg) else none) (if k = 4 then 32 else 0) (plK k r x) (pcK k) (nmK k x) (ncK k) (nbK k x) h h1 := by
  have W := C.2.2.2.2
  have h8 := W.1.2.1
  obtain ⟨k0, r0, -, -, -, k1, n1, -⟩ := C.2.1.1
  have z41 : 41 ≤ h_z h := C.2.1.2.2.2.2.2.1.1
  have zr := C.2.1.2.2.2.2.2.2.1 r hr
  have on : Old_ (h_z h) h (h_new h 2 0) := Old_new
  have k0' : h_k (h_new h 2 0) 0 = 4 := (on 0 (by omega)).1.trans k0
  have e21 : f_X3_newReader h 0 (nI k) (some (A r)) x = j_X3_newReader_21 0 (h_new h 2 0) (nI k) (some (A r)) x (some (h_z h)) (some (h_z h)) (nI k) (some (A r)) (if k = 7 then some (A x.toNatClampNeg) else none) := by
    unfold f_X3_newReader
    simp only [b_d_eq]
    by_cases c7 : k = 7
    · obtain ⟨o, ho, hor, ex⟩ := X.1 (Or.inr c7)
      have ra : f_X3_ringAt (h_new h 2 0) 0 (nI o) = some (some (A o)) := by
        have := ringAt_nI C (j := o) (by omega)
        rw [if_pos ho] at this
        rw [← this]
        unfold f_X3_ringAt
        rw [k0', k0, (on 0 (by omega)).2.2.2.2, r0]
        simp only [Option.bind_some, (on 1 (by omega)).1, (on 1 (by omega)).2.1, (on 1 (by omega)).2.2.2.2]
      rw [if_pos (by rw [c7]; rfl), if_pos k0', if_pos c7, ex, ra, cl_nI (by omega)]
      rfl
    · rw [if_neg (by rw [eqlit (n := 7) rfl (by omega)]; exact c7), if_neg c7]
  obtain ⟨h1, f1, R1⟩ := rd_new (h := h) (k := k) (ra := some (A r)) (tg := if k = 7 then some (A x.toNatClampNeg) else none) hk
  rw [e21]
  unfold j_X3_newReader_21
  simp only [Option.bind_some, f1]
  -- behind the home
  have tail : ∀ (h2 : Hpx) (pl : Nat → Int32) (pc : Int32), Rn_ (h_z h) k (some (A r)) (if k = 7 then some (A x.toNatClampNeg) else none) (if k = 4 then 32 else 0) pl pc (fun _ => 0) 0 0 h h2 → (∀ q, q < 8 → (if k = 5 ∧ nI q = x then 0 else pl q) = plK k r x q) → (if k = 5 then pc + 1 else pc) = pcK k → ∃ h1, j_X3_newReader_45 0 h2 (nI k) x (some (h_z h)) = some (h1, some (h_z h)) ∧ Rn_ (h_z h) k (some (A r)) (if k = 7 then some (A x.toNatClampNeg) else none) (if k = 4 then 32 else 0) (plK k r x) (pcK k) (nmK k x) (ncK k) (nbK k x) h h1 := by
    intro h2 pl pc R2 hpl hpc
    unfold j_X3_newReader_45 j_X3_newReader_56
    by_cases c5 : k = 5
    · obtain ⟨o, ho, hor, ex⟩ := X.1 (Or.inl c5)
      obtain ⟨h3, f3, R3⟩ := Rn_stand R2 (r := o) (by omega)
      rw [if_pos (show nI k = 5 by rw [c5]; rfl)]
      rw [if_pos c5] at hpc
      refine ⟨h3, ?_, Rn_cg R3 (fun q hq => ?_) hpc (fun q hq => ?_) ?_ ?_⟩
      · rw [ex]
        simp only [Option.bind_some, R2.2.1.1, if_true, f3]
        rw [if_neg (by rw [c5]; decide)]
      · rw [← hpl q hq]
        show (if q = o then 0 else pl q) = _
        by_cases e : q = o
        · rw [if_pos e, if_pos ⟨c5, by rw [e, ex]⟩]
        · rw [if_neg e, if_neg]
          rintro ⟨-, z⟩
          rw [ex, nI_eq (by omega) (by omega)] at z
          exact e z
      · unfold nmK
        rw [if_neg (by omega)]
      · unfold ncK
        rw [if_neg (by omega)]
      · unfold nbK
        rw [if_neg (by omega)]
    · have hpl' : ∀ q, q < 8 → pl q = plK k r x q := fun q hq => by
        rw [← hpl q hq, if_neg (fun z => c5 z.1)]
      rw [if_neg c5] at hpc
      rw [if_neg (show ¬ nI k = 5 by rw [eqlit (n := 5) rfl (by omega)]; exact c5)]
      by_cases c6 : k = 6
      · obtain ⟨o, ho, ex⟩ := X.2 c6
        obtain ⟨h3, f3, R3⟩ := Rn_name R2 (o := o)
        rw [if_pos (show nI k = 6 by rw [c6]; rfl)]
        refine ⟨h3, ?_, Rn_cg R3 hpl' hpc (fun q hq => ?_) ?_ ?_⟩
        · rw [ex]
          simp only [Option.bind_some, R2.2.1.1, if_true, f3]
        · unfold nmK
          show (if q = 0 then nI o else 0) = _
          by_cases e : q = 0
          · rw [if_pos e, if_pos ⟨c6, e⟩, ex]
          · rw [if_neg e, if_neg (fun z => e z.2)]
        · unfold ncK
          rw [if_pos c6]
        · unfold nbK
          rw [if_pos c6, ex]
      · rw [if_neg (show ¬ nI k = 6 by rw [eqlit (n := 6) rfl (by omega)]; exact c6)]
        refine ⟨h2, rfl, Rn_cg R2 hpl' hpc (fun q hq => ?_) ?_ ?_⟩
        · unfold nmK
          rw [if_neg (fun z => c6 z.1)]
        · unfold ncK
          rw [if_neg c6]
        · unfold nbK
          rw [if_neg c6]
  by_cases c14 : k = 1 ∨ k = 4
  · have t := tail h1 _ _ R1 (fun q hq => by
      unfold plK
      rw [if_pos c14, if_neg (by omega)]) (by
      unfold pcK
      rw [if_pos c14, if_neg (by omega)])
    rcases c14 with c | c
    · rw [if_pos (show nI k = 1 by rw [c]; rfl)]
      exact t
    · rw [if_neg (show ¬ nI k = 1 by rw [c]; decide), if_pos (show nI k = 4 by rw [c]; rfl)]
      exact t
  · rw [if_neg (show ¬ nI k = 1 by rw [eqlit (n := 1) rfl (by omega)]; omega), if_neg (show ¬ nI k = 4 by rw [eqlit (n := 4) rfl (by omega)]; omega)]
    obtain ⟨h2, f2, R2⟩ := Rn_stand R1 (r := r) (by omega)
    have oA := R1.1 (A r) (by omega)
    have kA : h_k h1 (A r) = 3 := oA.1.trans (C.2.1.2.2.2.1 r hr).1
    have iA : h_I h1 (A r) 0 = nI r := (oA.2.2.1 0).trans ((rI_60 C hr).trans (W.2.1 r hr).2.2.2.2.2.1)
    rw [if_pos kA, iA, if_pos R1.2.1.1, f2]
    refine tail h2 _ _ R2 (fun q hq => ?_) ?_
    · unfold plK
      rw [if_neg c14]
      show (if k = 5 ∧ nI q = x then 0 else if q = r then 0 else -1) = _
      by_cases e : q = r
      · rw [if_pos e, if_pos e]
        split <;> rfl
      · rw [if_neg e, if_neg e]
    · unfold pcK
      rw [if_neg c14]
      by_cases c5 : k = 5
      · rw [if_pos c5, if_pos c5]
        rfl
      · rw [if_neg c5, if_neg c5]
        rfl
theorem j63_c (C : Cn_ n A B ow h M) (Z : Zf_ M) (hb : m_I M 34 0 = 0) (hk1 : 1 ≤ k) (hk : k < 8) (hr : r < nR M) (X : Ox_ k r x M) : Rs_ n (j_X3_reader_63 0 h (nI k) x (some (A r))) (j_X4_reader_40 M (nI k) (nI r) x) := by
  have W := C.2.2.2.2
  have h16 := W.1.2.2.2.1
  obtain ⟨k0, r0, r1, r2, r3, k1, n1, k2, n2, -⟩ := C.2.1.1
  by_cases e16 : nD M = 16
  · unfold j_X3_reader_63 j_X4_reader_40
    rw [if_pos k0, rI_10 C, W.1.2.2.1, if_neg (by rw [e16]; decide), if_pos (by rw [e16]; rfl)]
    exact rs_v ⟨A, B, ow, C, fun _ => Z⟩ _
  · have hj : nD M < 16 := by omega
    have z41 : 41 ≤ h_z h := C.2.1.2.2.2.2.2.1.1
    obtain ⟨h1, f1, R⟩ := newR_c C hk1 hk hr X
    have CC := reader_C C Z hj hk1 hk hr X R
    have o := R.1
    have k11 : h_k h1 2 = 11 := (o 2 (by omega)).1.trans k2
    have n11 : h_n h1 2 = 16 := (o 2 (by omega)).2.1.trans n2
    have k4 : h_k h1 0 = 4 := (o 0 (by omega)).1.trans k0
    have i5 : h_I h1 0 5 = nI (nD M) := ((o 0 (by omega)).2.2.1 5).trans ((rI_10 C).trans W.1.2.2.1)
    have i6 : h_I h1 0 6 = m_I M 35 0 := ((o 0 (by omega)).2.2.1 6).trans (rI_35 C)
    refine ⟨_, rdR (nD M) k r x M, nI (nD M), rdM (nD M) k r x M, ?_, rd40 W.1.2.2.1 hj hk, rd_ag, inv_mo _ _ _ ⟨_, _, _, CC, rd_Z Z hj⟩⟩
    unfold j_X3_reader_63
    rw [if_pos k0, rI_10 C, W.1.2.2.1, if_pos (by rw [ltlit (n := 16) rfl (by omega)]; omega), f1]
    simp only [c_l_some, r1, Option.bind_some, k11, if_true, n11, in_nI hj (show 16 ≤ 65536 by omega), R.2.1.1, cl_nI (show nD M < 2 ^ 31 by omega), b_d_eq, ksR, k4, IsR, i5, nI_1]
    have e6 : h_I (s_I (s_R h1 2 (nD M) (some (h_z h))) 0 5 (nI (nD M + 1))) 0 6 = m_I M 35 0 := by rw [sI_n (by omega), IsR, i6]
    rw [e6]
    by_cases c4 : k = 4
    · rw [if_pos (show nI k = 4 by rw [c4]; rfl), if_pos c4]
    · rw [if_neg (show ¬ nI k = 4 by rw [eqlit (n := 4) rfl (by omega)]; exact c4), if_neg c4]
theorem ok_reader : Ok_reader Inv_ := by
  intro n h M x1 x2 x3 hn I
  obtain ⟨A, B, ow, C, Z⟩ := id I
  have W := C.2.2.2.2
  show Rs_ n _ _
  unfold f_X3_reader f_X4_reader f_X4_isNumbered f_X3_otherMayBe j_X3_otherMayBe_11 j_X3_otherMayBe_44 j_X4_isNumbered_32 j_X4_isNumbered_65
  simp only [if_pos C.2.1.1.1, rI_34 C]
  rcases ring_c C x2 with ⟨a, b⟩ | ⟨r, hr, h8, rfl, a, b⟩
  · rw [a, b]
    simp only [Option.bind_some, if_true]
    by_cases c1 : x1 < 1
    · rw [if_pos c1, if_pos c1]; exact rs_v I _
    rw [if_neg c1, if_neg c1]
    by_cases c7 : (7 : Int32) < x1
    · rw [if_pos c7, if_pos c7]; exact rs_v I _
    rw [if_neg c7, if_neg c7]
    exact rs_v I _
  rw [a, b]
  simp only [Option.bind_some, reduceCtorEq, if_false]
  by_cases c1 : x1 < 1
  · rw [if_pos c1, if_pos c1]; exact rs_v I _
  rw [if_neg c1, if_neg c1]
  by_cases c7 : (7 : Int32) < x1
  · rw [if_pos c7, if_pos c7]; exact rs_v I _
  rw [if_neg c7, if_neg c7, if_neg (show ¬ (1 : Int32) = 0 by decide)]
  obtain ⟨k, hk1, hk, rfl⟩ : ∃ k, 1 ≤ k ∧ k < 8 ∧ x1 = nI k := by
    rcases pk_ix x1 (n := 8) (by omega) with z | z | ⟨m, hm, rfl⟩
    · exfalso
      apply c1
      rw [Int32.lt_iff_toInt_lt] at z ⊢
      have e0 : (0 : Int32).toInt = 0 := rfl
      have e1 : (1 : Int32).toInt = 1 := rfl
      omega
    · exfalso
      apply c7
      rw [Int32.le_iff_toInt_le, nI_toInt (by omega)] at z
      rw [Int32.lt_iff_toInt_lt, show (7 : Int32).toInt = 7 from rfl]
      omega
    · rw [ltlit (n := 1) rfl (by omega)] at c1
      exact ⟨m, by omega, hm, rfl⟩
  by_cases c57 : k = 5 ∨ k = 7
  · have s3 : ∀ (u v : Option Int32), (if nI k = 5 then u else if nI k = 7 then u else v) = u := fun u v => by
      rcases c57 with c | c
      · rw [if_pos (by rw [c]; rfl)]
      · rw [if_neg (by rw [c]; decide), if_pos (by rw [c]; rfl)]
    have n6 : ¬ nI k = 6 := by rw [eqlit (n := 6) rfl (by omega)]; omega
    rw [s3, s3]
    rcases ring_c C x3 with ⟨a', b'⟩ | ⟨o, ho, ho8, rfl, a', b'⟩
    · rw [a', b']
      simp only [Option.bind_some, if_true]
      by_cases e3 : x3 = nI r
      · rw [if_pos e3]; exact rs_v I _
      · rw [if_neg e3]; exact rs_v I _
    · rw [a', b']
      simp only [Option.bind_some, reduceCtorEq, if_false]
      rw [if_neg (show ¬ (1 : Int32) = 0 by decide)]
      by_cases e3 : nI o = nI r
      · rw [if_pos e3]; exact rs_v I _
      · rw [if_neg e3]
        simp only [Option.bind_some]
        rw [if_neg (show ¬ (1 : Int32) = 0 by decide), if_neg (show ¬ (1 : Int32) = 0 by decide), if_neg n6]
        by_cases e : m_I M 34 0 = 0
        · rw [if_pos e, if_pos e, if_neg n6]
          exact j63_c C (Z e) e hk1 hk hr ⟨fun _ => ⟨o, ho, fun z => e3 (by rw [z]), rfl⟩, fun c => absurd c (by omega)⟩
        · rw [if_neg e, if_neg e]; exact rs_v I _
  · have n5 : ¬ nI k = 5 := by rw [eqlit (n := 5) rfl (by omega)]; omega
    have n7 : ¬ nI k = 7 := by rw [eqlit (n := 7) rfl (by omega)]; omega
    rw [if_neg n5, if_neg n7, if_neg n5, if_neg n7]
    by_cases c6 : k = 6
    · have c6' : nI k = 6 := by rw [c6]; rfl
      simp only [if_pos c6']
      rcases reader_c C x3 with ⟨a', b'⟩ | ⟨o, ho, ho16, rfl, a', b'⟩
      · rw [a', b']
        exact rs_v I _
      · rw [a', b']
        simp only [Option.bind_some, reduceCtorEq, if_false]
        rw [if_neg (show ¬ (1 : Int32) = 0 by decide), if_neg (show ¬ (1 : Int32) = 0 by decide)]
        by_cases e : m_I M 34 0 = 0
        · rw [if_pos e, if_pos e, placeOf_c C ho16 h8, if_pos ho]
          obtain ⟨iv, e1, hiv⟩ := index_c W ho h8
          rw [e1]
          simp only [Option.bind_some]
          rw [if_neg (show ¬ (1 : Int32) = 0 by decide)]
          rcases hiv with ⟨rfl, p1⟩ | ⟨q, rfl, hq, hqr, p1, p2, p3⟩
          · rw [p1, if_neg pC_m1, if_neg pC_m1]
            exact rs_v I _
          · have w2b := (W.2.2.1 o ho).2.1.2.2.1
            have hc := (W.2.1 r hr).2.2.2.1
            rw [p1, if_pos (nI_pos' (by omega)), if_pos (nI_pos' (by omega))]
            exact j63_c C (Z e) e hk1 hk hr ⟨fun c => absurd c c57, fun _ => ⟨o, ho, rfl⟩⟩
        · rw [if_neg e, if_neg e]
          exact rs_v I _
    · have n6 : ¬ nI k = 6 := by rw [eqlit (n := 6) rfl (by omega)]; exact c6
      simp only [if_neg n6, Option.bind_some]
      rw [if_neg (show ¬ (1 : Int32) = 0 by decide), if_neg (show ¬ (1 : Int32) = 0 by decide)]
      by_cases e : m_I M 34 0 = 0
      · rw [if_pos e, if_pos e]
        exact j63_c C (Z e) e hk1 hk hr ⟨fun c => absurd c c57, fun c => absurd c c6⟩
      · rw [if_neg e, if_neg e]
        exact rs_v I _
end RK
