/-! ring -/
def bc0 (x : Int32) : Int32 := (f_J6_bitCount_0f7a4 h_0 x).getD 0
theorem bc_h {h : Hpx} {x : Int32} : f_J6_bitCount_0f7a4 h x = some (bc0 x) := rfl
theorem bc_t : ∀ j, j < 65 → (bc0 (nI j) = 1 ↔ (j = 1 ∨ j = 2 ∨ j = 4 ∨ j = 8 ∨ j = 16 ∨ j = 32 ∨ j = 64)) := by decide +kernel
def rbM (r s : Nat) (M : Msx) : Msx := n_I (n_I (n_I M 1 r (nI s)) 35 0 (m_I M 35 0 + (1 + nI s))) 0 0 (nI (r + 1))
def rgM (r s : Nat) (M : Msx) : Msx := (fun f i => if (f = 50 ∨ f = 51) ∧ i = r then 0 else if f = 60 ∧ i = r then nI r else if f = 52 ∧ i / 64 = r then 0 else if f = 53 ∧ i / 64 = r then -1 else m_I (rbM r s M) f i, m_J M)
theorem rb_I {r s f i : Nat} {M : Msx} : m_I (rbM r s M) f i = if f = 0 ∧ i = 0 then nI (r + 1) else if f = 35 ∧ i = 0 then m_I M 35 0 + (1 + nI s) else if f = 1 ∧ i = r then nI s else m_I M f i := by
  unfold rbM
  rw [nI_at, nI_at, nI_at]
theorem rg_I {r s f i : Nat} {M : Msx} : m_I (rgM r s M) f i = if (f = 50 ∨ f = 51) ∧ i = r then 0 else if f = 60 ∧ i = r then nI r else if f = 52 ∧ i / 64 = r then 0 else if f = 53 ∧ i / 64 = r then -1 else m_I (rbM r s M) f i := rfl
theorem rg_J {r s : Nat} {M : Msx} : m_J (rgM r s M) = m_J M := rfl
theorem rg_b {r s f i : Nat} {M : Msx} (hf : f < 50 ∨ 60 < f ∨ (53 < f ∧ f < 60)) : m_I (rgM r s M) f i = if f = 0 ∧ i = 0 then nI (r + 1) else if f = 35 ∧ i = 0 then m_I M 35 0 + (1 + nI s) else if f = 1 ∧ i = r then nI s else m_I M f i := by
  rw [rg_I, if_neg (by omega), if_neg (by omega), if_neg (by omega), if_neg (by omega), rb_I]
theorem rg_o {r s f : Nat} {M : Msx} (hf : (1 < f ∧ f < 35) ∨ (35 < f ∧ f < 50) ∨ 60 < f ∨ (53 < f ∧ f < 60)) : m_I (rgM r s M) f = m_I M f := by
  funext i
  rw [rg_b (by omega), if_neg (by omega), if_neg (by omega), if_neg (by omega)]
theorem rg_ag {r s : Nat} {M : Msx} : Ag_ (rbM r s M) (rgM r s M) := fun g hg => ⟨by
    funext i
    rw [rg_I, if_neg (by omega), if_neg (by omega), if_neg (by omega), if_neg (by omega)], rfl⟩
section RG
variable {n : Nat} {A B A' B' ow : Nat → Nat} {h : Hpx} {M M' : Msx}
theorem okI_R (hR : nR M' = nR M + 1) (hD : nD M' = nD M) (hs : ∀ q, q < nR M → sL M' q = sL M q) (hk : ∀ j, kD M' j = kD M j) {f i : Nat} (hok : okI M' f i) : okI M f i ∨ ((f = 1 ∨ f = 2 ∨ f = 50 ∨ f = 51 ∨ f = 60) ∧ i = nR M) ∨ ((f = 5 ∨ f = 7 ∨ f = 8 ∨ f = 52 ∨ f = 53) ∧ i / 64 = nR M ∧ i % 64 < sL M' (nR M)) := by
  unfold okI at hok ⊢
  split at hok
  all_goals (try simp only [hR, hD, hk] at hok)
  all_goals first
    | exact Or.inl hok
    | (by_cases e : i = nR M
       · exact Or.inr (Or.inl ⟨by omega, e⟩)
       · exact Or.inl (show i < nR M by omega))
    | (by_cases e : i / 64 = nR M
       · exact Or.inr (Or.inr ⟨by omega, e, by rw [e] at hok; exact hok.2⟩)
       · exact Or.inl ⟨by omega, by rw [hs _ (by omega)] at hok; exact hok.2⟩)
theorem okJ_R (hR : nR M' = nR M + 1) (hD : nD M' = nD M) (hs : ∀ q, q < nR M → sL M' q = sL M q) (hk : ∀ j, kD M' j = kD M j) {f i : Nat} (hok : okJ M' f i) : okJ M f i ∨ (f = 4 ∧ i = nR M) ∨ (f = 6 ∧ i / 64 = nR M ∧ i % 64 < sL M' (nR M)) ∨ (f = 9 ∧ i / 512 = nR M ∧ i / 8 % 64 < sL M' (nR M)) := by
  unfold okJ at hok ⊢
  split at hok
  all_goals (try simp only [hR, hD, hk] at hok)
  all_goals first
    | exact Or.inl hok
    | (by_cases e : i = nR M
       · exact Or.inr (Or.inl ⟨rfl, e⟩)
       · exact Or.inl (show i < nR M by omega))
    | (by_cases e : i / 64 = nR M
       · exact Or.inr (Or.inr (Or.inl ⟨rfl, e, by rw [e] at hok; exact hok.2⟩))
       · exact Or.inl ⟨by omega, by rw [hs _ (by omega)] at hok; exact hok.2⟩)
    | (by_cases e : i / 512 = nR M
       · exact Or.inr (Or.inr (Or.inr ⟨rfl, e, by rw [e] at hok; exact hok.2⟩))
       · exact Or.inl ⟨by omega, by rw [hs _ (by omega)] at hok; exact hok.2⟩)
theorem rg_Rn {s : Nat} (h8 : nR M < 8) : nR (rgM (nR M) s M) = nR M + 1 := by
  show (m_I (rgM (nR M) s M) 0 0).toNatClampNeg = _
  rw [rg_b (by omega), if_pos ⟨rfl, rfl⟩, cl_nI (by omega)]
theorem rg_Dn {r s : Nat} : nD (rgM r s M) = nD M := by unfold nD; rw [rg_o (by omega)]
theorem rg_k {r s j : Nat} : kD (rgM r s M) j = kD M j := by unfold kD; rw [rg_o (by omega)]
theorem rg_s {r s q : Nat} (hs : s ≤ 64) : sL (rgM r s M) q = if q = r then s else sL M q := by
  unfold sL
  rw [rg_b (by omega), if_neg (by omega), if_neg (by omega)]
  by_cases e : q = r
  · rw [if_pos ⟨rfl, e⟩, if_pos e, cl_nI (by omega)]
  · rw [if_neg (fun z => e z.2), if_neg e]
/-- a field that stood before -/
theorem rg_old {s f i : Nat} (hok : okI M f i) (h0 : f ≠ 0) (h35 : f ≠ 35) : m_I (rgM (nR M) s M) f i = m_I M f i := by
  rw [rg_I, rb_I]
  rw [if_neg, if_neg, if_neg, if_neg, if_neg, if_neg, if_neg]
  · rintro ⟨rfl, e⟩
    have : i < nR M := hok
    omega
  · exact fun z => h35 z.1
  · exact fun z => h0 z.1
  · rintro ⟨rfl, e⟩
    have : i / 64 < nR M ∧ i % 64 < sL M (i / 64) := hok
    omega
  · rintro ⟨rfl, e⟩
    have : i / 64 < nR M ∧ i % 64 < sL M (i / 64) := hok
    omega
  · rintro ⟨rfl, e⟩
    have : i < nR M := hok
    omega
  · rintro ⟨rfl | rfl, e⟩
    · have : i < nR M := hok
      omega
    · have : i < nR M := hok
      omega
theorem rg_W (W : Wf_ n M) (Z : Zf_ M) (hb : m_I M 34 0 = 0) {s t : Nat} (h8 : nR M < 8) (ht : t ≤ 6) (hs : s = 2 ^ t) : Wf_ n (rgM (nR M) s M) := by
  have h1 : 1 ≤ 2 ^ t := Nat.one_le_two_pow
  have h2 : 2 ^ t ≤ 2 ^ 6 := Nat.pow_le_pow_right (by omega) ht
  have eR := rg_Rn (M := M) (s := s) h8
  have eD := rg_Dn (M := M) (r := nR M) (s := s)
  have es := fun q => rg_s (M := M) (r := nR M) (s := s) (q := q) (by omega)
  have o : ∀ f, (1 < f ∧ f < 35) ∨ (35 < f ∧ f < 50) ∨ 60 < f ∨ (53 < f ∧ f < 60) → m_I (rgM (nR M) s M) f = m_I M f := fun f hf => rg_o hf
  obtain ⟨W0, WR, WD, WN, WH⟩ := W
  obtain ⟨z1, z2, z3, z4⟩ := Z
  have c0 : ∀ q, cL M q = 0 := fun q => by
    unfold cL
    rw [z1 2 (by omega)]
    rfl
  have c0' : ∀ q, cL (rgM (nR M) s M) q = 0 := fun q => by
    unfold cL
    rw [o 2 (by omega), z1 2 (by omega)]
    rfl
  refine ⟨?_, fun q hq => ?_, fun j hj => ?_, ?_, fun _ q _ => c0' q, fun j hj a1 a3 a4 k hk => by rw [c0']; omega⟩
  · unfold W0_
    rw [eR, eD, o 10 (by omega), o 34 (by omega), o 37 (by omega), o 40 (by omega)]
    refine ⟨?_, by omega, W0.2.2⟩
    rw [rg_b (by omega), if_pos ⟨rfl, rfl⟩]
  · by_cases e : q = nR M
    · subst e
      unfold Wr_
      rw [c0', es, if_pos rfl, o 2 (by omega), o 3 (by omega), o 5 (by omega), o 7 (by omega)]
      refine ⟨?_, ⟨t, ht, hs⟩, by rw [z1 2 (by omega)]; rfl, by omega, Or.inl ⟨z1 3 (by omega) _, ?_, ?_⟩, ?_, fun k hk => ⟨Or.inl (z1 5 (by omega) _), fun _ => z1 5 (by omega) _, fun _ => z1 5 (by omega) _, fun z => absurd z (by omega), 0, by omega, by rw [z1 7 (by omega)]; rfl⟩, fun q h1 _ => absurd h1 (by omega)⟩
      · rw [rg_b (by omega), if_neg (by omega), if_neg (by omega), if_pos ⟨rfl, rfl⟩]
      · rw [rg_I, if_pos ⟨Or.inl rfl, rfl⟩]
      · rw [rg_I, if_pos ⟨Or.inr rfl, rfl⟩]
      · rw [rg_I, if_neg (by omega), if_pos ⟨rfl, rfl⟩]
    · have hq' : q < nR M := by omega
      refine Wr_c (WR q hq') (fun g hg => ?_) (fun g hg k hk => ?_)
      · rw [rg_I, if_neg (by omega), if_neg (by omega), if_neg (by omega), if_neg (by omega), rb_I, if_neg (by omega), if_neg (by omega), if_neg (by omega)]
      · rw [rg_I, if_neg (by omega), if_neg (by omega), if_neg (by omega), if_neg (by omega), rb_I, if_neg (by omega), if_neg (by omega), if_neg (by omega)]
  · rw [eD] at hj
    have w := WD j hj
    refine Wd_c w (fun g hg => by rw [o g (by omega)]) (fun g hg k hk => by rw [o g (by omega)]) (fun q hq => by rw [o 54 (by omega)]) (fun a => ?_) (by omega) (by omega) (by omega) (fun q hq => by rw [c0, c0']; omega)
    refine We_c (w.2.2.2.2.2.2.2.2.2.2.2.2 a) (by rw [o 28 (by omega)]) w.2.2.2.2.2.2.2.2.2.2.2.1.2.1 (by rw [o 12 (by omega)]) (fun g hg k hk => by rw [o g (by omega)]) (fun g hg k hk => by rw [rg_J]) (fun g hg k hk i hi => by rw [rg_J])
  · rw [Nm_c eD (fun j _ => by rw [o 16 (by omega)]) (fun j _ k _ => by rw [o 15 (by omega)])]
    exact WN
theorem ring_C (C : Cn_ n A B ow h M) (Z : Zf_ M) (hb : m_I M 34 0 = 0) {s t : Nat} (h8 : nR M < 8) (ht : t ≤ 6) (hs : s = 2 ^ t) {h1 : Hpx} (o : Old_ (h_z h) h h1) (k3 : h_k h1 (h_z h) = 3) (r2 : h_R h1 (h_z h) 2 = some (h_z h + 1)) (i3 : ∀ p, h_I h1 (h_z h) p = if p = 1 then nI s else if p = 0 then nI (nR M) else 0) (j4 : h_J h1 (h_z h) 4 = 0) (R : Rw_ (h_z h) s s h1) : Cn_ n (fun q => if q = nR M then h_z h else A q) B (fun a => if h_z h ≤ a then 1 + nR M else ow a) (s_I (s_I (s_R h1 1 (nR M) (some (h_z h))) 0 4 (nI (nR M + 1))) 0 6 (m_I M 35 0 + (1 + nI s))) (rgM (nR M) s M) := by
  have g1 : 1 ≤ 2 ^ t := Nat.one_le_two_pow
  have g2 : 2 ^ t ≤ 2 ^ 6 := Nat.pow_le_pow_right (by omega) ht
  obtain ⟨O, S, RI, RJ, W⟩ := C
  have W' := rg_W W Z hb h8 ht hs
  have eR := rg_Rn (M := M) (s := s) h8
  have eD := rg_Dn (M := M) (r := nR M) (s := s)
  have ek := fun j => rg_k (M := M) (r := nR M) (s := s) (j := j)
  have es := fun q => rg_s (M := M) (r := nR M) (s := s) (q := q) (by omega)
  have esl : ∀ q, q < nR M → sL (rgM (nR M) s M) q = sL M q := fun q hq => by rw [es, if_neg (by omega)]
  have esr : sL (rgM (nR M) s M) (nR M) = s := by rw [es, if_pos rfl]
  obtain ⟨z1, z2, z3, z4⟩ := Z
  obtain ⟨w1, w2, w3, w4, w5⟩ := R
  have z41 : 41 ≤ h_z h := S.2.2.2.2.2.1.1
  have hA : ∀ q, q < nR M → (fun q => if q = nR M then h_z h else A q) q = A q := fun q hq => if_neg (by omega)
  have hAr : (fun q => if q = nR M then h_z h else A q) (nR M) = h_z h := if_pos rfl
  have lb : ∀ j, lB (rgM (nR M) s M) j = lB M j := fun j => by unfold lB; rw [ek]
  have l6 : ∀ j, 6 ≤ lB M j := fun j => by unfold lB; split <;> omega
  have iR : ∀ a p, h_R (s_I (s_I (s_R h1 1 (nR M) (some (h_z h))) 0 4 (nI (nR M + 1))) 0 6 (m_I M 35 0 + (1 + nI s))) a p = if a = 1 ∧ p = nR M then some (h_z h) else h_R h1 a p := fun a p => by rw [RsI, RsI, sR_at]
  have iI : ∀ a p, h_I (s_I (s_I (s_R h1 1 (nR M) (some (h_z h))) 0 4 (nI (nR M + 1))) 0 6 (m_I M 35 0 + (1 + nI s))) a p = if a = 0 ∧ p = 6 then m_I M 35 0 + (1 + nI s) else if a = 0 ∧ p = 4 then nI (nR M + 1) else h_I h1 a p := fun a p => by rw [sI_at, sI_at, IsR]
  refine ⟨⟨fun a ha => ?_, fun q hq => ?_, fun j hj => ?_, by omega⟩, ⟨?_, fun q hq => ?_, fun j hj => ?_, fun q hq => ?_, fun j hj => ?_, ?_, fun q hq => ?_, fun j hj => ?_⟩, fun f i hok => ?_, fun f i hok => ?_, W'⟩
  · show (if h_z h ≤ a then 1 + nR M else ow a) = 0
    rw [if_neg (by omega)]
    exact O.1 a ha
  · by_cases e : q = nR M
    · subst e
      rw [hAr, esr]
      exact ⟨z41, fun x hx => if_pos (by omega)⟩
    · have hq' : q < nR M := by omega
      rw [hA q hq', esl q hq']
      have zq := S.2.2.2.2.2.2.1 q hq'
      refine ⟨(O.2.1 q hq').1, fun x hx => ?_⟩
      show (if h_z h ≤ A q + x then 1 + nR M else ow (A q + x)) = 1 + q
      rw [if_neg (by omega)]
      exact (O.2.1 q hq').2 x hx
  · rw [eD] at hj
    rw [lb]
    have zj := S.2.2.2.2.2.2.2 j hj
    refine ⟨(O.2.2.1 j hj).1, fun x hx => ?_⟩
    show (if h_z h ≤ B j + x then 1 + nR M else ow (B j + x)) = 9 + j
    rw [if_neg (by omega)]
    exact (O.2.2.1 j hj).2 x hx
  · obtain ⟨q0, q1, q2, q3, q4, q5, q6, q7, q8, q9, q10, q11, q12⟩ := S.1
    obtain ⟨a1, a2, a3, a4, a5⟩ := o 0 (by omega)
    obtain ⟨b1, b2, -⟩ := o 1 (by omega)
    obtain ⟨c1, c2, -⟩ := o 2 (by omega)
    obtain ⟨d1, d2, -⟩ := o 3 (by omega)
    obtain ⟨e1, e2, -⟩ := o 4 (by omega)
    refine ⟨a1.trans q0, ?_, ?_, ?_, ?_, b1.trans q5, b2.trans q6, c1.trans q7, c2.trans q8, d1.trans q9, d2.trans q10, e1.trans q11, e2.trans q12⟩
    · rw [iR, if_neg (by omega), a5]; exact q1
    · rw [iR, if_neg (by omega), a5]; exact q2
    · rw [iR, if_neg (by omega), a5]; exact q3
    · rw [iR, if_neg (by omega), a5]; exact q4
  · rw [iR, eR, (o 1 (by omega)).2.2.2.2, S.2.1 q hq]
    by_cases e : q = nR M
    · rw [if_pos ⟨rfl, e⟩, if_pos (by omega), e, hAr]
    · rw [if_neg (fun z => e z.2)]
      by_cases e2 : q < nR M
      · rw [if_pos e2, if_pos (by omega), hA q e2]
      · rw [if_neg e2, if_neg (by omega)]
  · rw [iR, eD, if_neg (by omega), (o 2 (by omega)).2.2.2.2]
    exact S.2.2.1 j hj
  · by_cases e : q = nR M
    · subst e
      unfold Sr_
      rw [hAr, esr]
      refine ⟨k3, ?_, w1, w2, fun k hk => ?_⟩
      · rw [iR, if_neg (by omega)]; exact r2
      · obtain ⟨m1, m2, m3, m4, -⟩ := w4 k hk
        rw [show h_z h + 2 + 2 * k + 1 = h_z h + 3 + 2 * k by omega] at m2 m3 m4
        refine ⟨?_, m1, ?_, m3, m4⟩
        · rw [iR, if_neg (by omega)]; exact w3 k hk
        · rw [iR, if_neg (by omega)]
          exact m2
    · have hq' : q < nR M := by omega
      have zq := S.2.2.2.2.2.2.1 q hq'
      have aq := (O.2.1 q hq').1
      obtain ⟨p1, p2, p3, p4, p5⟩ := S.2.2.2.1 q hq'
      unfold Sr_
      rw [hA q hq', esl q hq']
      obtain ⟨a1, a2, a3, a4, a5⟩ := o (A q) (by omega)
      obtain ⟨b1, b2, b3, b4, b5⟩ := o (A q + 1) (by omega)
      refine ⟨a1.trans p1, ?_, b1.trans p3, b2.trans p4, fun k hk => ?_⟩
      · rw [iR, if_neg (by omega), a5]; exact p2
      · obtain ⟨m1, m2, m3, m4, m5⟩ := p5 k hk
        obtain ⟨c1, c2, c3, c4, c5⟩ := o (A q + 2 + 2 * k) (by omega)
        obtain ⟨d1, d2, d3, d4, d5⟩ := o (A q + 3 + 2 * k) (by omega)
        refine ⟨?_, c1.trans m2, ?_, d1.trans m4, d2.trans m5⟩
        · rw [iR, if_neg (by omega), b5]; exact m1
        · rw [iR, if_neg (by omega), c5]; exact m3
  · rw [eD] at hj
    have zj := S.2.2.2.2.2.2.2 j hj
    have bj := (O.2.2.1 j hj).1
    have := l6 j
    have wd := W.2.2.1 j hj
    have hr0 : rG M j 0 < nR M := (wd.2.2.1 0 (by have := wd.2.1.2.1; omega)).2.1
    have er : rG (rgM (nR M) s M) j 0 = rG M j 0 := by unfold rG; rw [rg_o (by omega)]
    have et : tG (rgM (nR M) s M) j = tG M j := by unfold tG; rw [rg_o (by omega)]
    have eg : ∀ e, sG (rgM (nR M) s M) j e = sG M j e := fun e => by unfold sG; rw [rg_o (by omega)]
    obtain ⟨q1, q2, q3, q4, q5, q6, q7, q8, q9, q10, q11, q12, q13, q14, q15, q16, q17, q18, q19⟩ := S.2.2.2.2.1 j hj
    have x0 := o (B j) (by omega)
    have x1 := o (B j + 1) (by omega)
    have x2 := o (B j + 2) (by omega)
    have x3 := o (B j + 3) (by omega)
    have x4 := o (B j + 4) (by omega)
    have x5 := o (B j + 5) (by omega)
    have R0 : ∀ p, h_R (s_I (s_I (s_R h1 1 (nR M) (some (h_z h))) 0 4 (nI (nR M + 1))) 0 6 (m_I M 35 0 + (1 + nI s))) (B j) p = h_R h (B j) p := fun p => by rw [iR, if_neg (by omega), x0.2.2.2.2]
    unfold Sd_
    rw [ek, er, et, hA _ hr0]
    refine ⟨x0.1.trans q1, by rw [R0]; exact q2, ?_, by rw [R0]; exact q4, x1.1.trans q5, by rw [iR, if_neg (by omega), x1.2.2.2.2]; exact q6, x2.1.trans q7, x2.2.1.trans q8, by rw [R0]; exact q9, x3.1.trans q10, x3.2.1.trans q11, by rw [R0]; exact q12, x4.1.trans q13, x4.2.1.trans q14, by rw [R0]; exact q15, x5.1.trans q16, x5.2.1.trans q17, fun k4 e he => ?_, fun k4 p hp => ?_⟩
    · rw [R0, q3]
      by_cases k7 : kD M j = 7
      · rw [if_pos k7, if_pos k7, hA _ (wd.2.2.2.2.2.2.2.2.2.1 k7).2.1]
      · rw [if_neg k7, if_neg k7]
    · rw [iR, if_neg (by omega), x5.2.2.2.2, eg]
      exact q18 k4 e he
    · have lj := lB4 k4
      obtain ⟨p1, p2, p3, p4⟩ := q19 k4 p hp
      have y1 := o (B j + 6 + 2 * p) (by omega)
      have y2 := o (B j + 7 + 2 * p) (by omega)
      exact ⟨y1.1.trans p1, by rw [iR, if_neg (by omega), y1.2.2.2.2]; exact p2, y2.1.trans p3, y2.2.1.trans p4⟩
  · obtain ⟨m1, m2⟩ := S.2.2.2.2.2.1
    refine ⟨?_, fun a h1 h2 => (o a (by omega)).1.trans (m2 a h1 h2)⟩
    show 41 ≤ h_z h1
    omega
  · show _ ≤ h_z h1
    by_cases e : q = nR M
    · subst e
      rw [hAr, esr]
      omega
    · have hq' : q < nR M := by omega
      have zq := S.2.2.2.2.2.2.1 q hq'
      rw [hA q hq', esl q hq']
      omega
  · rw [eD] at hj
    show _ ≤ h_z h1
    have zj := S.2.2.2.2.2.2.2 j hj
    rw [lb]
    omega
  · rcases okI_R eR eD esl ek hok with h2 | ⟨hf, e⟩ | ⟨hf, e1, e2⟩
    · rw [adI_c hA (fun _ _ => rfl) h2, iI]
      have lt := ad_ltI O S h2
      have eo := (o _ lt).2.2.1 (plI f i)
      by_cases f0 : f = 0
      · subst f0
        have : i = 0 := h2
        subst this
        rw [if_neg (by simp [plI]), if_pos ⟨rfl, rfl⟩, rg_b (by omega), if_pos ⟨rfl, rfl⟩]
      · by_cases f35 : f = 35
        · subst f35
          have : i = 0 := h2
          subst this
          rw [if_pos ⟨rfl, rfl⟩, rg_b (by omega), if_neg (by omega), if_pos ⟨rfl, rfl⟩]
        · rw [rg_old h2 f0 f35, if_neg (fun z => f35 (inj_I O h2 (f' := 35) (i' := 0) rfl z.1 z.2).1), if_neg (fun z => f0 (inj_I O h2 (f' := 0) (i' := 0) rfl z.1 z.2).1), eo]
          exact RI f i h2
    · subst e
      rw [iI]
      rcases hf with rfl | rfl | rfl | rfl | rfl
      all_goals simp only [adI, plI, if_pos]
      all_goals rw [if_neg (by omega), if_neg (by omega), i3]
      · rw [if_pos rfl, rg_b (by omega), if_neg (by omega), if_neg (by omega), if_pos ⟨rfl, rfl⟩]
      · rw [if_neg (by omega), if_neg (by omega), rg_o (by omega), z1 2 (by omega)]
      · rw [if_neg (by omega), if_neg (by omega), rg_I, if_pos ⟨Or.inl rfl, rfl⟩]
      · rw [if_neg (by omega), if_neg (by omega), rg_I, if_pos ⟨Or.inr rfl, rfl⟩]
      · rw [if_neg (by omega), if_pos rfl, rg_I, if_neg (by omega), if_pos ⟨rfl, rfl⟩]
    · rw [esr] at e2
      obtain ⟨m1, m2, m3, m4, m5, -⟩ := w4 _ e2
      rw [iI]
      rcases hf with rfl | rfl | rfl | rfl | rfl
      all_goals simp only [adI, plI, e1, if_pos]
      all_goals rw [if_neg (by omega), if_neg (by omega), m5]
      · rw [if_neg (by omega), rg_o (by omega), z1 5 (by omega)]
      · rw [if_neg (by omega), rg_o (by omega), z1 7 (by omega)]
      · rw [if_neg (by omega), rg_o (by omega), z1 8 (by omega)]
      · rw [if_neg (by omega), rg_I, if_neg (by omega), if_neg (by omega), if_pos ⟨rfl, e1⟩]
      · rw [if_pos rfl, rg_I, if_neg (by omega), if_neg (by omega), if_neg (by omega), if_pos ⟨rfl, e1⟩]
  · rw [rg_J, JsI, JsI, JsR]
    rcases okJ_R eR eD esl ek hok with h2 | ⟨rfl, e⟩ | ⟨rfl, e1, e2⟩ | ⟨rfl, e1, e2⟩
    · rw [adJ_c hA (fun _ _ => rfl) h2, (o _ (ad_ltJ O S h2)).2.2.2.1]
      exact RJ f i h2
    · subst e
      simp only [adJ, plJ, if_pos]
      rw [j4, z2 4 (by omega)]
    · rw [esr] at e2
      obtain ⟨m1, m2, m3, m4, m5, m6, -⟩ := w4 _ e2
      simp only [adJ, plJ, e1, if_pos]
      rw [m6, z2 6 (by omega)]
    · rw [esr] at e2
      obtain ⟨m1, m2, m3, m4, m5, m6, m7⟩ := w4 _ e2
      simp only [adJ, plJ, e1, if_pos]
      rw [z2 9 (by omega), show h_z h + 3 + 2 * (i / 8 % 64) = h_z h + 2 + 2 * (i / 8 % 64) + 1 by omega]
      exact m7 _
theorem rg_Z (Z : Zf_ M) {r s : Nat} : Z_ (rgM r s M) := fun _ => by
  obtain ⟨z1, z2, z3, z4⟩ := Z
  refine ⟨fun g hg i => by rw [rg_o (by omega)]; exact z1 g hg i, fun g hg i => z2 g hg i, fun j hj => ?_, fun i hi => ?_⟩
  · rw [rg_Dn] at hj
    rw [rg_o (by omega)]
    exact z3 j hj
  · rw [rg_Dn] at hi
    rw [rg_o (by omega)]
    exact z4 i hi
theorem ring_go (C : Cn_ n A B ow h M) (Z : Z_ M) {s t : Nat} (ht : t ≤ 6) (hs : s = 2 ^ t) (hb : bc0 (nI s) = 1) : Rs_ n (f_X3_ring h 0 (nI s)) (j_X4_ring_51 M (nI s)) := by
  have g1 : 1 ≤ 2 ^ t := Nat.one_le_two_pow
  have g2 : 2 ^ t ≤ 2 ^ 6 := Nat.pow_le_pow_right (by omega) ht
  have W := C.2.2.2.2
  have I : Inv_ n h M := ⟨A, B, ow, C, Z⟩
  have h8 := W.1.2.1
  obtain ⟨k0, r0, r1, r2, r3, k1, n1, -⟩ := C.2.1.1
  unfold f_X3_ring j_X4_ring_51
  rw [if_pos (nI_pos' (by omega)), if_neg (nI_ne0 (by omega) (by omega)), if_neg (by rw [litlt (n := 64) rfl (by omega)]; omega), bc_h, rI_34 C, rI_0 C, W.1.1, r0]
  simp only [Option.bind_some, hb, if_true, k0]
  by_cases e : m_I M 34 0 = 0
  · rw [if_pos e, if_pos e]
    by_cases e8 : nR M = 8
    · rw [if_neg (by rw [e8]; decide), if_pos (by rw [e8]; rfl)]
      exact rs_v I _
    · rw [if_pos (by rw [ltlit (n := 8) rfl (by omega)]; omega), if_neg (by rw [eqlit (n := 8) rfl (by omega)]; exact e8), if_pos (in_nI (show nR M < 8 by omega) (by omega)), cl_nI (by omega)]
      have z41 : 41 ≤ h_z h := C.2.1.2.2.2.2.2.1.1
      obtain ⟨h1, q1, o, q3, q4, q5, q6, q7⟩ := ring_new (h := h) (r := nR M) (s := s) (by omega)
      have k10 : h_k h1 1 = 10 := (o 1 (by omega)).1.trans k1
      have n10 : h_n h1 1 = 8 := (o 1 (by omega)).2.1.trans n1
      have k4 : h_k h1 0 = 4 := (o 0 (by omega)).1.trans k0
      have i4 : h_I h1 0 4 = nI (nR M) := ((o 0 (by omega)).2.2.1 4).trans ((rI_0 C).trans W.1.1)
      have i6 : h_I h1 0 6 = m_I M 35 0 := ((o 0 (by omega)).2.2.1 6).trans (rI_35 C)
      have CC := ring_C C (Z e) e (show nR M < 8 by omega) ht hs o q3 q4 q5 q6 q7
      refine ⟨_, rbM (nR M) s M, nI (nR M), rgM (nR M) s M, ?_, ?_, rg_ag, inv_mo _ _ _ ⟨_, _, _, CC, rg_Z (Z e)⟩⟩
      · simp only [b_d_eq, q1, Option.bind_some, k10, if_true, n10, in_nI (show nR M < 8 by omega) (show 8 ≤ 65536 by omega), q3, ksR, k4, IsR, i4, nI_1]
        rw [sI_n (by omega), IsR, i6]
      · have y1 : m_I (n_I M 1 (nR M) (nI s)) 35 0 = m_I M 35 0 := by rw [n_I_o (by omega)]
        have y2 : m_I (n_I (n_I M 1 (nR M) (nI s)) 35 0 (m_I M 35 0 + (1 + nI s))) 0 0 = nI (nR M) := by rw [n_I_o (by omega), n_I_o (by omega), W.1.1]
        simp only [b_d_eq, y1, y2, nI_1, nI_s, nI_pred]
        rfl
  · rw [if_neg e, if_neg e]
    exact rs_v I _
theorem ok_ring : Ok_ring Inv_ := by
  intro n h M x hn I
  obtain ⟨A, B, ow, C, Z⟩ := id I
  show Rs_ n _ _
  by_cases x0 : 0 ≤ x
  · have neg : ¬ x < 0 := by rw [Int32.not_lt]; exact x0
    rcases pk_ix x (n := 65) (by omega) with hx | hx | ⟨j, hj, rfl⟩
    · exact absurd hx neg
    · have h64 : (64 : Int32) < x := by
        rw [Int32.le_iff_toInt_le, nI_toInt (by omega)] at hx
        rw [Int32.lt_iff_toInt_lt, show (64 : Int32).toInt = 64 from rfl]
        omega
      have ne : ∀ k : Nat, k ≤ 64 → ¬ x = nI k := fun k hk z => by
        rw [z, Int32.lt_iff_toInt_lt, nI_toInt (by omega), show (64 : Int32).toInt = 64 from rfl] at h64
        omega
      unfold f_X3_ring f_X4_ring
      rw [if_pos x0, if_pos x0, if_neg (show ¬ x = (0 : Int32) from ne 0 (by omega)), if_pos h64, if_neg (show ¬ x = (1 : Int32) from ne 1 (by omega)), if_neg (show ¬ x = (2 : Int32) from ne 2 (by omega)), if_neg (show ¬ x = (4 : Int32) from ne 4 (by omega)), if_neg (show ¬ x = (8 : Int32) from ne 8 (by omega)), if_neg (show ¬ x = (16 : Int32) from ne 16 (by omega)), if_neg (show ¬ x = (32 : Int32) from ne 32 (by omega)), if_neg (show ¬ x = (64 : Int32) from ne 64 (by omega))]
      exact rs_v I _
    · have bt := bc_t j hj
      by_cases c : j = 1 ∨ j = 2 ∨ j = 4 ∨ j = 8 ∨ j = 16 ∨ j = 32 ∨ j = 64
      · have e4 : f_X4_ring M (nI j) = j_X4_ring_51 M (nI j) := by
          unfold f_X4_ring
          rw [if_pos x0]
          rcases c with rfl | rfl | rfl | rfl | rfl | rfl | rfl <;> rfl
        rw [e4]
        have hp : ∃ t, t ≤ 6 ∧ j = 2 ^ t := by
          rcases c with rfl | rfl | rfl | rfl | rfl | rfl | rfl
          · exact ⟨0, by omega, rfl⟩
          · exact ⟨1, by omega, rfl⟩
          · exact ⟨2, by omega, rfl⟩
          · exact ⟨3, by omega, rfl⟩
          · exact ⟨4, by omega, rfl⟩
          · exact ⟨5, by omega, rfl⟩
          · exact ⟨6, by omega, rfl⟩
        obtain ⟨t, ht, hs⟩ := hp
        exact ring_go C Z ht hs (bt.mpr c)
      · have ne : ∀ k : Nat, k ≤ 64 → j ≠ k → ¬ nI j = nI k := fun k hk hne => nI_ne (by omega) (by omega) hne
        unfold f_X3_ring f_X4_ring
        rw [if_pos x0, if_pos x0, if_neg (show ¬ nI j = (1 : Int32) from ne 1 (by omega) (by omega)), if_neg (show ¬ nI j = (2 : Int32) from ne 2 (by omega) (by omega)), if_neg (show ¬ nI j = (4 : Int32) from ne 4 (by omega) (by omega)), if_neg (show ¬ nI j = (8 : Int32) from ne 8 (by omega) (by omega)), if_neg (show ¬ nI j = (16 : Int32) from ne 16 (by omega) (by omega)), if_neg (show ¬ nI j = (32 : Int32) from ne 32 (by omega) (by omega)), if_neg (show ¬ nI j = (64 : Int32) from ne 64 (by omega) (by omega))]
        by_cases j0 : j = 0
        · rw [if_pos (by rw [j0]; rfl)]
          exact rs_v I _
        · rw [if_neg (nI_ne0 (by omega) (by omega)), if_neg (by rw [litlt (n := 64) rfl (by omega)]; omega), bc_h]
          simp only [Option.bind_some]
          rw [if_neg (fun z => c (bt.mp z))]
          exact rs_v I _
  · unfold f_X3_ring f_X4_ring
    rw [if_neg x0, if_neg x0, if_pos C.2.1.1.1]
    exact rs_f C Z (t := 3) (by omega) (by omega)
end RG
