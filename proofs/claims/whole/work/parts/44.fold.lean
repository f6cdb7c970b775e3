/-! folding a published message into the readers of kind 4 -/
theorem pig : ∀ (N m : Nat) (f : Nat → Nat), (∀ e, e < m → f e < N) → (∀ a b, a < m → b < m → f a = f b → a = b) → m ≤ N
  | 0, m, f, h1, _ => by
    rcases Nat.eq_zero_or_pos m with z | z
    · omega
    · exact absurd (h1 0 z) (by omega)
  | N + 1, m, f, h1, h2 => by
    by_cases c : ∃ e, e < m ∧ f e = N
    · obtain ⟨e0, he0, hf⟩ := c
      have := pig N (m - 1) (fun e => f (if e < e0 then e else e + 1)) (fun e he => by
        have hlt : (if e < e0 then e else e + 1) < m := by split <;> omega
        have := h1 _ hlt
        have hne : f (if e < e0 then e else e + 1) ≠ N := fun z => by
          have := h2 _ e0 hlt he0 (z.trans hf.symm)
          split at this <;> omega
        show f (if e < e0 then e else e + 1) < N
        omega) (fun a b ha hb z => by
        have := h2 _ _ (by split <;> omega) (by split <;> omega) z
        split at this <;> split at this <;> omega)
      omega
    · have := pig N m f (fun e he => by
        have := h1 e he
        have : f e ≠ N := fun z => c ⟨e, he, z⟩
        omega) h2
      omega
theorem IcJ {h : Hpx} {a b sp dp m : Nat} : h_I (c_J h a b sp dp m) = h_I h := rfl
theorem bc_I {h : Hpx} {a b wa wb x p : Nat} (hx : x ≠ a) : h_I (bcH h a b wa wb) x p = h_I h x p := by
  unfold bcH
  rw [IcJ, sI_n (fun z => hx z.1), sI_n (fun z => hx z.1), IsJ, sI_n (fun z => hx z.1), sI_n (fun z => hx z.1)]
theorem bc_k {h : Hpx} {a b wa wb : Nat} : h_k (bcH h a b wa wb) = h_k h := rfl
theorem bc_R {h : Hpx} {a b wa wb : Nat} : h_R (bcH h a b wa wb) = h_R h := rfl
theorem bc_n {h : Hpx} {a b wa wb : Nat} : h_n (bcH h a b wa wb) = h_n h := rfl
theorem sI_id {h : Hpx} {a p : Nat} {x : Int32} (e : h_I h a p = x) : s_I h a p x = h := Prod.ext rfl (Prod.ext rfl (Prod.ext rfl (Prod.ext (funext fun b => funext fun q => by
  show h_I (s_I h a p x) b q = h_I h b q
  by_cases c : b = a ∧ q = p
  · rw [c.1, c.2, sI_s, e]
  · rw [sI_n c]) rfl)))
section FD
variable {n : Nat} {A B ow : Nat → Nat} {h : Hpx} {M Mm : Msx}
theorem eM_31 {j y : Nat} (w : We_ M j) (hy : y < 32) (hno : ∀ e, e < eM M j → m_I M 31 (32 * j + e) ≠ nI y) : eM M j ≤ 31 := by
  obtain ⟨-, -, w3, w4⟩ := w
  have hk : ∀ e, e < eM M j → ∃ z, z < 32 ∧ m_I M 31 (32 * j + e) = nI z := fun e he => (w3 e he).2.2.2.2.2.2.1
  have := pig 32 (eM M j + 1) (fun e => if e = eM M j then y else (m_I M 31 (32 * j + e)).toNatClampNeg) (fun e he => by
    show (if e = eM M j then y else (m_I M 31 (32 * j + e)).toNatClampNeg) < 32
    by_cases c : e = eM M j
    · rw [if_pos c]; exact hy
    · obtain ⟨z, hz, ez⟩ := hk e (by omega)
      rw [if_neg c, ez, cl_nI (by omega)]
      exact hz) (fun a b ha hb z => by
    have z' : (if a = eM M j then y else (m_I M 31 (32 * j + a)).toNatClampNeg) = (if b = eM M j then y else (m_I M 31 (32 * j + b)).toNatClampNeg) := z
    by_cases ca : a = eM M j
    · by_cases cb : b = eM M j
      · omega
      · obtain ⟨u, hu, eu⟩ := hk b (by omega)
        rw [if_pos ca, if_neg cb, eu, cl_nI (by omega)] at z'
        exact absurd (by rw [eu, z']) (hno b (by omega))
    · obtain ⟨u, hu, eu⟩ := hk a (by omega)
      by_cases cb : b = eM M j
      · rw [if_neg ca, if_pos cb, eu, cl_nI (by omega)] at z'
        exact absurd (by rw [eu, z']) (hno a (by omega))
      · obtain ⟨u', hu', eu'⟩ := hk b (by omega)
        rw [if_neg ca, if_neg cb, eu, eu', cl_nI (by omega), cl_nI (by omega)] at z'
        exact w4 a b (by omega) (by omega) (by rw [eu, eu', z']))
  omega
/-- everything but entries stands -/
def Fx_ (M M' : Msx) : Prop := (∀ g, g ≠ 28 → g ≠ 29 → g ≠ 31 → g ≠ 32 → g ≠ 57 → g ≠ 61 → g ≠ 62 → g ≠ 63 → m_I M' g = m_I M g) ∧ ∀ g, g ≠ 30 → g ≠ 33 → g ≠ 64 → g ≠ 65 → m_J M' g = m_J M g
theorem Fx_rf : Fx_ M M := ⟨fun _ _ _ _ _ _ _ _ _ => rfl, fun _ _ _ _ _ => rfl⟩
theorem Fx_tr {M1 M2 M3 : Msx} (a : Fx_ M1 M2) (b : Fx_ M2 M3) : Fx_ M1 M3 := ⟨fun g g1 g2 g3 g4 g5 g6 g7 g8 => (b.1 g g1 g2 g3 g4 g5 g6 g7 g8).trans (a.1 g g1 g2 g3 g4 g5 g6 g7 g8), fun g g1 g2 g3 g4 => (b.2 g g1 g2 g3 g4).trans (a.2 g g1 g2 g3 g4)⟩
theorem Fx_en {t u v j : Nat} {q0 x : Int32} : Fx_ M (n_I (enM t u v q0 M) 28 j x) := ⟨fun g g1 g2 g3 g4 g5 g6 g7 g8 => by rw [n_I_o g1, en_o g8 g7 g6 g5 g4 g3 g2], fun g g1 g2 g3 g4 => by rw [nI_J, en_Jo g1 g2 g3 g4]⟩
/-- a slot that is kept, as the class has it -/
theorem slot_r (C : Cn_ n A B ow h M) {r q : Nat} (hr : r < nR M) (hq : q < cL M r) (hq2 : cL M r ≤ q + sL M r) : m_I M 52 (64 * r + q % sL M r) = nI r ∧ m_I M 53 (64 * r + q % sL M r) = nI q ∧ h_k h (A r + 2 + 2 * (q % sL M r)) = 1 ∧ h_R h (A r + 2 + 2 * (q % sL M r)) 0 = some (A r + 3 + 2 * (q % sL M r)) ∧ h_k h (A r + 3 + 2 * (q % sL M r)) = 7 ∧ h_n h (A r + 3 + 2 * (q % sL M r)) = 8 ∧ h_I h (A r + 2 + 2 * (q % sL M r)) 1 = m_I M 52 (64 * r + q % sL M r) ∧ h_I h (A r + 2 + 2 * (q % sL M r)) 2 = m_I M 53 (64 * r + q % sL M r) ∧ h_J h (A r + 2 + 2 * (q % sL M r)) 3 = m_J M 6 (64 * r + q % sL M r) ∧ h_I h (A r + 2 + 2 * (q % sL M r)) 4 = m_I M 7 (64 * r + q % sL M r) ∧ h_I h (A r + 2 + 2 * (q % sL M r)) 5 = m_I M 8 (64 * r + q % sL M r) ∧ ∀ i, i < 8 → h_J h (A r + 3 + 2 * (q % sL M r)) i = m_J M 9 (8 * (64 * r + q % sL M r) + i) := by
  have w := C.2.2.2.2.2.1 r hr
  have hm := sl_mod (q := q) w
  obtain ⟨s1, s2, s3, s4, s5⟩ := C.2.1.2.2.2.1 r hr
  obtain ⟨t1, t2, t3, t4, t5⟩ := s5 _ hm.1
  obtain ⟨w1, w2, w3, w4, w5, w6, w7, w8⟩ := w
  have hle : q % sL M r ≤ q := Nat.mod_le _ _
  exact ⟨(w7 _ hm.1).2.2.2.1 (by omega), w8 q hq hq2, t2, t3, t4, t5, rI_52 C hr hm.1 hm.2, rI_53 C hr hm.1 hm.2, rJ_6 C hr hm.1 hm.2, rI_7 C hr hm.1 hm.2, rI_8 C hr hm.1 hm.2, fun i hi => rJ_9 C hr hm.1 hm.2 hi⟩
/-- cells of a ring and of a reader are apart -/
theorem own_ne (O : Ow_ A B ow M) {r j x y : Nat} (hr : r < nR M) (hj : j < nD M) (hx : x < 2 + 2 * sL M r) (hy : y < lB M j) : A r + x ≠ B j + y := fun e => by
  have e1 := (O.2.1 r hr).2 x hx
  have e2 := (O.2.2.1 j hj).2 y hy
  rw [e, e2] at e1
  have := O.2.2.2
  omega
theorem lB4 {j : Nat} (h4 : kD M j = 4) : lB M j = 70 := by unfold lB; rw [if_pos h4]
theorem fold_end (hn : n ≤ 512) {r q j y e E : Nat} (C : Cn_ n A B ow h M) (a : Ag_ Mm M) (hr : r < nR M) (hq : q < cL M r) (hq2 : cL M r ≤ q + sL M r) (hy : y < 32) (h7 : m_I M 7 (64 * r + q % sL M r) = nI y) (hj : j < nD M) (h4 : kD M j = 4) (hrj : rG M j 0 = r) (he : e < 32) (hE : (E = eM M j ∧ e < eM M j) ∨ (E = eM M j + 1 ∧ e = eM M j)) (hE32 : E ≤ 32) (hk : ∀ e', e' < E → e' ≠ e → m_I M 31 (32 * j + e') ≠ nI y) :
    f_X0_become h (B j + 6 + 2 * sG M j e) (some (A r + 2 + 2 * (q % sL M r))) = some (bcH h (B j + 6 + 2 * sG M j e) (A r + 2 + 2 * (q % sL M r)) (B j + 7 + 2 * sG M j e) (A r + 3 + 2 * (q % sL M r))) ∧
    f_X4_enter Mm (nI j) (nI e) (nI r) (nI q) = some (emM (64 * r + q % sL M r) (32 * j + e) (nI q) Mm) ∧
    Ag_ (n_I (emM (64 * r + q % sL M r) (32 * j + e) (nI q) Mm) 28 j (nI E)) (n_I (enM (64 * r + q % sL M r) (32 * j + e) (32 * j + sG M j e) (nI q) M) 28 j (nI E)) ∧
    Cn_ n A B ow (s_I (bcH h (B j + 6 + 2 * sG M j e) (A r + 2 + 2 * (q % sL M r)) (B j + 7 + 2 * sG M j e) (A r + 3 + 2 * (q % sL M r))) (B j) 10 (nI E)) (n_I (enM (64 * r + q % sL M r) (32 * j + e) (32 * j + sG M j e) (nI q) M) 28 j (nI E)) := by
  have W := C.2.2.2.2
  have h16 : j < 16 := by have := W.1.2.2.2.1; omega
  have w := W.2.1 r hr
  have hc := w.2.2.2.1
  have hs := sl_b w
  have hm := sl_mod (q := q) w
  obtain ⟨w1, w2, w3, -⟩ := W.2.2.1 j hj
  have g12 := (w3 0 (by omega)).1
  rw [hrj, Nat.add_zero] at g12
  obtain ⟨x1, x2, x3, x4, x5, x6, x7, x8, x9, x10, x11, x12⟩ := slot_r C hr hq hq2
  have we := (W.2.2.1 j hj).2.2.2.2.2.2.2.2.2.2.2.2 h4
  have hp := (we.1 e he).2
  obtain ⟨s1, s2, s3, s4, s5, s6, s7, s8, s9, s10, s11, s12, s13, s14, s15, s16, s17, s18, s19⟩ := C.2.1.2.2.2.2.1 j hj
  obtain ⟨b1, b2, b3, b4⟩ := s19 h4 _ hp
  have ne1 : A r + 2 + 2 * (q % sL M r) ≠ B j + 6 + 2 * sG M j e := by
    have := own_ne C.1 (x := 2 + 2 * (q % sL M r)) (y := 6 + 2 * sG M j e) hr hj (by omega) (by rw [lB4 h4]; omega)
    omega
  have ne2 : A r + 3 + 2 * (q % sL M r) ≠ B j + 6 + 2 * sG M j e := by
    have := own_ne C.1 (x := 3 + 2 * (q % sL M r)) (y := 6 + 2 * sG M j e) hr hj (by omega) (by rw [lB4 h4]; omega)
    omega
  refine ⟨become_c ne1 b1 x3 b2 x4 b3 x5 b4 x6, enter_c W a hr (by omega) h16 he, ag_cI (eg_ag (em_ag a)), ?_⟩
  have P1 := em_P (t := 64 * r + q % sL M r) (u := 32 * j + e) (q0 := nI q) (Pn_of C)
  have dm := Dm_em (M := M) (t := 64 * r + q % sL M r) (u := 32 * j + e) (q0 := nI q)
  have P2 := eg_P (M := M) (t := 64 * r + q % sL M r) (j := j) (p := sG M j e) (a := A r + 2 + 2 * (q % sL M r)) (wa := A r + 3 + 2 * (q % sL M r)) P1 (by rw [dm.2.1]; exact hj) (by rw [dm.2.2.2]; exact h4) hp x7 x8 x9 x10 x11 ne2 x12
  have e10 : nD (enM (64 * r + q % sL M r) (32 * j + e) (32 * j + sG M j e) (nI q) M) = nD M := by unfold nD; rw [en_o (by omega) (by omega) (by omega) (by omega) (by omega) (by omega) (by omega)]
  have P3 := Pn_wI P2 (f := 28) (i := j) (show j < nD (enM (64 * r + q % sL M r) (32 * j + e) (32 * j + sG M j e) (nI q) M) by rw [e10]; exact hj) (nI E) (by omega) (by omega) (by omega) (by omega) (by omega) (by omega) (by omega)
  exact Cn_of P3 (en_W W hj h4 he hE hE32 hy h7 x2 (by omega) (by rw [x1, g12]) hk)
theorem fold1 (hn : n ≤ 512) {r q j y : Nat} (C : Cn_ n A B ow h M) (a : Ag_ Mm M) (hr : r < nR M) (hq : q < cL M r) (hq2 : cL M r ≤ q + sL M r) (hy : y < 32) (h7 : m_I M 7 (64 * r + q % sL M r) = nI y) (hj : j < nD M) (h4 : kD M j = 4) (hrj : rG M j 0 = r) : ∀ (m e fuel : Nat), e + m = eM M j → m < fuel → (∀ e', e' < e → m_I M 31 (32 * j + e') ≠ nI y) → ∃ h' Mm' M2, l_X1_foldIn_2 (B j) fuel h (some (A r + 2 + 2 * (q % sL M r))) (nI e) = some h' ∧ (∀ rec, l_X4_fold_51 rec fuel Mm (nI r) (nI q) (nI y) (nI j) (nI e) = rec Mm' (nI r) (nI q) (nI y) (nI (j + 1))) ∧ Ag_ Mm' M2 ∧ Cn_ n A B ow h' M2 ∧ Fx_ M M2 := by
  have W := C.2.2.2.2
  have h16 : j < 16 := by have := W.1.2.2.2.1; omega
  have w := W.2.1 r hr
  have hc := w.2.2.2.1
  obtain ⟨x1, x2, x3, x4, x5, x6, x7, x8, x9, x10, x11, x12⟩ := slot_r C hr hq hq2
  obtain ⟨s1, s2, s3, s4, s5, s6, s7, s8, s9, s10, s11, s12, s13, s14, s15, s16, s17, s18, s19⟩ := C.2.1.2.2.2.2.1 j hj
  have wd := W.2.2.1 j hj
  have we := wd.2.2.2.2.2.2.2.2.2.2.2.2 h4
  obtain ⟨w28, w28a, -⟩ := wd.2.2.2.2.2.2.2.2.2.2.2.1
  rw [if_pos h4] at s17
  intro m
  induction m with
  | zero =>
    intro e fuel he hf hno
    obtain ⟨f, rfl⟩ : ∃ f, fuel = f + 1 := ⟨fuel - 1, by omega⟩
    have ee : e = eM M j := by omega
    have h31 : eM M j ≤ 31 := eM_31 we hy fun e' he' => hno e' (by omega)
    obtain ⟨c1, c2, c3, c4⟩ := fold_end hn (e := e) (E := eM M j + 1) C a hr hq hq2 hy h7 hj h4 hrj (by omega) (Or.inr ⟨rfl, ee⟩) (by omega) (fun e' h1 h2 => hno e' (by omega))
    refine ⟨_, _, _, ?_, fun rec => ?_, c3, c4, Fx_en⟩
    · rw [u_X1_foldIn_2]
      unfold j_X1_foldIn_2 j_X1_foldIn_68
      have hb : h_k (bcH h (B j + 6 + 2 * sG M j e) (A r + 2 + 2 * (q % sL M r)) (B j + 7 + 2 * sG M j e) (A r + 3 + 2 * (q % sL M r))) (B j) = 2 := by rw [bc_k]; exact s1
      have hi : h_I (bcH h (B j + 6 + 2 * sG M j e) (A r + 2 + 2 * (q % sL M r)) (B j + 7 + 2 * sG M j e) (A r + 3 + 2 * (q % sL M r))) (B j) 10 = nI (eM M j) := by
        rw [bc_I (by omega), rI_28 C hj, w28]
      simp only [s1, if_true, rI_28 C hj, w28, s15, Option.bind_some, s16, s17]
      rw [if_pos (by rw [nI_leI (by omega) (by omega)]; omega), if_neg (by rw [nI_leI (by omega) (by omega)]; omega), if_pos (in_nI (by omega) (by omega)), cl_nI (by omega), ← ee, s18 h4 e (by omega)]
      simp only [Option.bind_some, (s19 h4 _ (we.1 e (by omega)).2).1, if_true, c1, hb, b_d_eq, hi, nI_1]
      rw [← ee]
    · rw [u_X4_fold_51]
      unfold j_X4_fold_51 j_X4_fold_86
      simp only [in_nI h16 (show 16 ≤ 65536 by omega), if_true, cl_nI (show j < 2 ^ 31 by omega), ← (a 28 (by omega)).1, w28]
      rw [if_pos (by rw [nI_leI (by omega) (by omega)]; omega), if_pos (by rw [ee]), c2]
      have hi : m_I (emM (64 * r + q % sL M r) (32 * j + e) (nI q) Mm) 28 j = nI (eM M j) := by
        unfold emM
        rw [cpM_I, n_I_o (by omega), n_I_o (by omega), nJ_I, n_I_o (by omega), ← (a 28 (by omega)).1, w28]
      simp only [Option.bind_some, b_d_eq, hi, nI_1]
  | succ m ih =>
    intro e fuel he hf hno
    obtain ⟨f, rfl⟩ : ∃ f, fuel = f + 1 := ⟨fuel - 1, by omega⟩
    have e32 : e < 32 := by omega
    have hp := (we.1 e e32).2
    obtain ⟨v1, v2, v3, v4, v5, v6, v7, v8⟩ := we.2.2.1 e (by omega)
    have r1 : ∀ rec, j_X1_foldIn_2 (B j) rec h (some (A r + 2 + 2 * (q % sL M r))) (nI e) = if m_I M 31 (32 * j + e) = nI y then (if nI q ≤ m_I M 29 (32 * j + e) then some h else f_X0_become h (B j + 6 + 2 * sG M j e) (some (A r + 2 + 2 * (q % sL M r)))) else rec h (some (A r + 2 + 2 * (q % sL M r))) (nI (e + 1)) := fun rec => by
      unfold j_X1_foldIn_2
      simp only [s1, if_true, rI_28 C hj, w28, s15, Option.bind_some, s16, s17]
      rw [if_neg (by rw [nI_leI (by omega) (by omega)]; omega), if_neg (by rw [nI_leI (by omega) (by omega)]; omega), if_pos (in_nI (by omega) (by omega)), cl_nI (by omega), s18 h4 e e32]
      simp only [Option.bind_some, (s19 h4 _ hp).1, if_true, x3, rI_62 C hj h4 hp, rI_61 C hj h4 hp, ← v2, ← v1, x10, h7, x8, x2, nI_1]
      by_cases z : m_I M 31 (32 * j + e) = nI y
      · rw [if_pos z, if_pos z]
        by_cases z2 : nI q ≤ m_I M 29 (32 * j + e)
        · rw [if_pos z2, if_pos z2]
        · rw [if_neg z2, if_neg z2]
          cases f_X0_become h (B j + 6 + 2 * sG M j e) (some (A r + 2 + 2 * (q % sL M r))) <;> rfl
      · rw [if_neg z, if_neg z]
    have r2 : ∀ rec rec2, j_X4_fold_51 rec rec2 Mm (nI r) (nI q) (nI y) (nI j) (nI e) = if m_I M 31 (32 * j + e) = nI y then (if nI q ≤ m_I M 29 (32 * j + e) then rec Mm (nI r) (nI q) (nI y) (nI (j + 1)) else (f_X4_enter Mm (nI j) (nI e) (nI r) (nI q)).bind fun M38 => rec M38 (nI r) (nI q) (nI y) (nI (j + 1))) else rec2 Mm (nI r) (nI q) (nI y) (nI j) (nI (e + 1)) := fun rec rec2 => by
      unfold j_X4_fold_51 j_X4_fold_86
      simp only [in_nI h16 (show 16 ≤ 65536 by omega), if_true, cl_nI (show j < 2 ^ 31 by omega), ← (a 28 (by omega)).1, ← (a 31 (by omega)).1, ← (a 29 (by omega)).1, w28, tt_j, in_nI (show 32 * j + e < 512 by omega) (show 512 ≤ 65536 by omega), cl_nI (show 32 * j + e < 2 ^ 31 by omega), nI_1]
      rw [if_neg (by rw [nI_leI (by omega) (by omega)]; omega), if_neg (nI_ne (by omega) (by omega) (by omega))]
    by_cases z : m_I M 31 (32 * j + e) = nI y
    · by_cases z2 : nI q ≤ m_I M 29 (32 * j + e)
      · refine ⟨h, Mm, M, ?_, fun rec => ?_, a, C, Fx_rf⟩
        · rw [u_X1_foldIn_2, r1, if_pos z, if_pos z2]
        · rw [u_X4_fold_51, r2, if_pos z, if_pos z2]
      · obtain ⟨c1, c2, c3, c4⟩ := fold_end hn (e := e) (E := eM M j) C a hr hq hq2 hy h7 hj h4 hrj (by omega) (Or.inl ⟨rfl, by omega⟩) (by omega) (fun e' h1 h2 q => h2 (we.2.2.2 e' e h1 (by omega) (q.trans z.symm)))
        have i1 : s_I (bcH h (B j + 6 + 2 * sG M j e) (A r + 2 + 2 * (q % sL M r)) (B j + 7 + 2 * sG M j e) (A r + 3 + 2 * (q % sL M r))) (B j) 10 (nI (eM M j)) = bcH h (B j + 6 + 2 * sG M j e) (A r + 2 + 2 * (q % sL M r)) (B j + 7 + 2 * sG M j e) (A r + 3 + 2 * (q % sL M r)) := by
          exact sI_id (by rw [bc_I (by omega), rI_28 C hj, w28])
        have i2 : n_I (emM (64 * r + q % sL M r) (32 * j + e) (nI q) Mm) 28 j (nI (eM M j)) = emM (64 * r + q % sL M r) (32 * j + e) (nI q) Mm := nI_id (by
          unfold emM
          rw [cpM_I, n_I_o (by omega), n_I_o (by omega), nJ_I, n_I_o (by omega), ← (a 28 (by omega)).1, w28])
        rw [i1] at c4
        rw [i2] at c3
        refine ⟨_, _, _, ?_, fun rec => ?_, c3, c4, Fx_en⟩
        · rw [u_X1_foldIn_2, r1, if_pos z, if_neg z2, c1]
        · rw [u_X4_fold_51, r2, if_pos z, if_neg z2, c2]
          rfl
    · obtain ⟨h', Mm', M2, i1, i2, i3⟩ := ih (e + 1) f (by omega) (by omega) (fun e' he' => by
        by_cases c : e' = e
        · rw [c]; exact z
        · exact hno e' (by omega))
      refine ⟨h', Mm', M2, ?_, fun rec => ?_, i3⟩
      · rw [u_X1_foldIn_2, r1, if_neg z, i1]
      · rw [u_X4_fold_51, r2, if_neg z, i2]
theorem ps_end {a : Option Nat} (C : Cn_ n A B ow h M) : ∀ (m i fuel : Nat), i + m = 16 → nD M ≤ i → m < fuel → l_X3_publishSlot_18 0 fuel h a (nI i) = some h := by
  intro m
  induction m with
  | zero =>
    intro i fuel hi hD hf
    obtain ⟨f, rfl⟩ : ∃ f, fuel = f + 1 := ⟨fuel - 1, by omega⟩
    rw [u_X3_publishSlot_18]
    unfold j_X3_publishSlot_18
    rw [if_pos (by rw [litle (n := 16) rfl (by omega)]; omega)]
  | succ m ih =>
    intro i fuel hi hD hf
    obtain ⟨f, rfl⟩ : ∃ f, fuel = f + 1 := ⟨fuel - 1, by omega⟩
    rw [u_X3_publishSlot_18]
    unfold j_X3_publishSlot_18
    rw [if_neg (by rw [litle (n := 16) rfl (by omega)]; omega), if_pos C.2.1.1.1, readerAt_nI C (by omega), if_neg (by omega)]
    simp only [Option.bind_some, if_true, nI_1]
    exact ih (i + 1) f (by omega) (by omega) (by omega)
theorem ps_loop (hn : n ≤ 512) {r q y : Nat} (hy : y < 32) : ∀ (m i fuel : Nat) (h : Hpx) (M Mm : Msx), i + m = nD M → 16 < fuel + i → Cn_ n A B ow h M → Ag_ Mm M → r < nR M → q < cL M r → cL M r ≤ q + sL M r → m_I M 7 (64 * r + q % sL M r) = nI y → ∃ h' Mm' M2, l_X3_publishSlot_18 0 fuel h (some (A r + 2 + 2 * (q % sL M r))) (nI i) = some h' ∧ l_X4_fold_15 fuel Mm (nI r) (nI q) (nI y) (nI i) = some Mm' ∧ Ag_ Mm' M2 ∧ Cn_ n A B ow h' M2 ∧ Fx_ M M2 := by
  intro m
  induction m with
  | zero =>
    intro i fuel h M Mm hi hf C a hr hq hq2 h7
    have h16 := C.2.2.2.2.1.2.2.2.1
    refine ⟨h, Mm, M, ps_end C (16 - i) i fuel (by omega) (by omega) (by omega), ?_, a, C, Fx_rf⟩
    obtain ⟨f, rfl⟩ : ∃ f, fuel = f + 1 := ⟨fuel - 1, by omega⟩
    rw [u_X4_fold_15]
    unfold j_X4_fold_15
    rw [← (a 10 (by omega)).1, C.2.2.2.2.1.2.2.1, if_pos (by rw [nI_leI (by omega) (by omega)]; omega)]
  | succ m ih =>
    intro i fuel h M Mm hi hf C a hr hq hq2 h7
    have W := C.2.2.2.2
    have h16 := W.1.2.2.2.1
    have hi16 : i < 16 := by omega
    have hj : i < nD M := by omega
    have h8 : r < 8 := by have := W.1.2.1; omega
    obtain ⟨f, rfl⟩ : ∃ f, fuel = f + 1 := ⟨fuel - 1, by omega⟩
    obtain ⟨x1, x2, x3, x4, x5, x6, x7, x8, x9, x10, x11, x12⟩ := slot_r C hr hq hq2
    obtain ⟨s1, s2, -⟩ := C.2.1.2.2.2.2.1 i hj
    obtain ⟨⟨w1, w1a, w1b⟩, ⟨-, w2a, -⟩, w3, -⟩ := W.2.2.1 i hj
    obtain ⟨g1, g2, -⟩ := w3 0 (by omega)
    rw [Nat.add_zero] at g1
    have hR8 := W.1.2.1
    have r1 : l_X3_publishSlot_18 0 (f + 1) h (some (A r + 2 + 2 * (q % sL M r))) (nI i) = if kD M i = 4 ∧ rG M i 0 = r then (f_X1_foldIn h (B i) (some (A r + 2 + 2 * (q % sL M r)))).bind fun h40 => l_X3_publishSlot_18 0 f h40 (some (A r + 2 + 2 * (q % sL M r))) (nI (i + 1)) else l_X3_publishSlot_18 0 f h (some (A r + 2 + 2 * (q % sL M r))) (nI (i + 1)) := by
      rw [u_X3_publishSlot_18]
      unfold j_X3_publishSlot_18
      rw [if_neg (by rw [litle (n := 16) rfl (by omega)]; omega), if_pos C.2.1.1.1, readerAt_nI C (by omega), if_pos hj]
      simp only [Option.bind_some, reduceCtorEq, if_false, s1, s2, if_true, nI_1, rI_11 C hj, w1, (C.2.1.2.2.2.1 _ g2).1, x3, rI_60 C g2, (W.2.1 _ g2).2.2.2.2.2.1, x7, x1]
      by_cases c4 : kD M i = 4
      · rw [if_pos (by rw [c4]; rfl)]
        by_cases cr : rG M i 0 = r
        · rw [if_pos (by rw [cr]), if_pos ⟨c4, cr⟩]
        · rw [if_neg (nI_ne (by omega) (by omega) cr), if_neg (fun z => cr z.2)]
      · rw [if_neg (by rw [eqlit (n := 4) rfl (by omega)]; exact c4), if_neg (fun z => c4 z.1)]
    have r2 : l_X4_fold_15 (f + 1) Mm (nI r) (nI q) (nI y) (nI i) = if kD M i = 4 ∧ rG M i 0 = r then l_X4_fold_51 (l_X4_fold_15 f) 70 Mm (nI r) (nI q) (nI y) (nI i) (nI 0) else l_X4_fold_15 f Mm (nI r) (nI q) (nI y) (nI (i + 1)) := by
      rw [u_X4_fold_15]
      unfold j_X4_fold_15
      simp only [← (a 10 (by omega)).1, ← (a 11 (by omega)).1, ← (a 12 (by omega)).1, W.1.2.2.1, in_nI hi16 (show 16 ≤ 65536 by omega), if_true, cl_nI (show i < 2 ^ 31 by omega), four_j, in_nI (show 4 * i < 64 by omega) (show 64 ≤ 65536 by omega), cl_nI (show 4 * i < 2 ^ 31 by omega), w1, g1, nI_1]
      rw [if_neg (by rw [nI_leI (by omega) (by omega)]; omega)]
      by_cases c4 : kD M i = 4
      · rw [if_pos (by rw [c4]; rfl)]
        by_cases cr : rG M i 0 = r
        · rw [if_pos (by rw [cr]), if_pos ⟨c4, cr⟩]
          rfl
        · rw [if_neg (nI_ne (by omega) (by omega) cr), if_neg (fun z => cr z.2)]
      · rw [if_neg (by rw [eqlit (n := 4) rfl (by omega)]; exact c4), if_neg (fun z => c4 z.1)]
    rw [r1, r2]
    by_cases c : kD M i = 4 ∧ rG M i 0 = r
    · rw [if_pos c, if_pos c]
      have w28a := (W.2.2.1 i hj).2.2.2.2.2.2.2.2.2.2.2.1.2.1
      obtain ⟨h1, Mm1, M1, i1, i2, i3, i4, i5⟩ := fold1 hn C a hr hq hq2 hy h7 hj c.1 c.2 (eM M i) 0 70 (by omega) (by omega) (fun e' he' => by omega)
      have i1' : f_X1_foldIn h (B i) (some (A r + 2 + 2 * (q % sL M r))) = some h1 := i1
      have eD : nD M1 = nD M := by unfold nD; rw [i5.1 10 (by omega) (by omega) (by omega) (by omega) (by omega) (by omega) (by omega) (by omega)]
      have eR : nR M1 = nR M := by unfold nR; rw [i5.1 0 (by omega) (by omega) (by omega) (by omega) (by omega) (by omega) (by omega) (by omega)]
      have eC : cL M1 r = cL M r := by unfold cL; rw [i5.1 2 (by omega) (by omega) (by omega) (by omega) (by omega) (by omega) (by omega) (by omega)]
      have eS : sL M1 r = sL M r := by unfold sL; rw [i5.1 1 (by omega) (by omega) (by omega) (by omega) (by omega) (by omega) (by omega) (by omega)]
      obtain ⟨h2, Mm2, M2, k1, k2, k3, k4, k5⟩ := ih (i + 1) f h1 M1 Mm1 (by omega) (by omega) i4 i3 (by rw [eR]; exact hr) (by rw [eC]; exact hq) (by rw [eC, eS]; exact hq2) (by rw [eS, i5.1 7 (by omega) (by omega) (by omega) (by omega) (by omega) (by omega) (by omega) (by omega)]; exact h7)
      rw [eS] at k1
      refine ⟨h2, Mm2, M2, ?_, ?_, k3, k4, Fx_tr i5 k5⟩
      · rw [i1']
        exact k1
      · rw [i2]
        exact k2
    · rw [if_neg c, if_neg c]
      exact ih (i + 1) f h M Mm (by omega) (by omega) C a hr hq hq2 h7
/-- publishing an open claim, and folding it in -/
def pbM (t : Nat) (x3 x4 : Int32) (M : Msx) : Msx := n_I (n_I (n_I M 7 t x3) 8 t x4) 5 t 0
theorem pb_I {t : Nat} {x3 x4 : Int32} (g q : Nat) : m_I (pbM t x3 x4 M) g q = if g = 5 ∧ q = t then 0 else if g = 8 ∧ q = t then x4 else if g = 7 ∧ q = t then x3 else m_I M g q := by
  unfold pbM
  rw [nI_at, nI_at, nI_at]
theorem pb_o {t : Nat} {x3 x4 : Int32} {g : Nat} (h5 : g ≠ 5) (h7 : g ≠ 7) (h8 : g ≠ 8) : m_I (pbM t x3 x4 M) g = m_I M g := by
  funext q
  rw [pb_I, if_neg (by omega), if_neg (by omega), if_neg (by omega)]
theorem pb_W (W : Wf_ n M) {r k y : Nat} {x4 : Int32} (hr : r < nR M) (hk : k < sL M r) (h64 : k < 64) (hy : y < 32) : Wf_ n (pbM (64 * r + k) (nI y) x4 M) := by
  have w := W.2.1 r hr
  have ec : cL (pbM (64 * r + k) (nI y) x4 M) r = cL M r := by unfold cL; rw [pb_o (by omega) (by omega) (by omega)]
  have es : sL (pbM (64 * r + k) (nI y) x4 M) r = sL M r := by unfold sL; rw [pb_o (by omega) (by omega) (by omega)]
  refine Wf_r W (Nat.le_refl n) (r := r) (fun g hg => by unfold Fr_ at hg; exact pb_o (by omega) (by omega) (by omega)) (fun g hg q hq => by rw [pb_o (by omega) (by omega) (by omega)]) (fun g hg i hi => by rw [pb_I, if_neg (by omega), if_neg (by omega), if_neg (by omega)]) (fun g hg => rfl) ?_ (by rw [ec]; exact Nat.le_refl _) (Or.inl ec)
  obtain ⟨w1, w2, w3, w4, w5, w6, w7, w8⟩ := w
  have o : ∀ g, g ≠ 5 → g ≠ 7 → g ≠ 8 → m_I (pbM (64 * r + k) (nI y) x4 M) g = m_I M g := fun g => pb_o
  unfold Wr_
  rw [ec, es, o 1 (by omega) (by omega) (by omega), o 2 (by omega) (by omega) (by omega), o 3 (by omega) (by omega) (by omega), o 50 (by omega) (by omega) (by omega), o 51 (by omega) (by omega) (by omega), o 60 (by omega) (by omega) (by omega), o 52 (by omega) (by omega) (by omega), o 53 (by omega) (by omega) (by omega)]
  refine ⟨w1, w2, w3, w4, w5, w6, fun k' hk' => ?_, w8⟩
  obtain ⟨u1, u2, u3, u4, u5⟩ := w7 k' hk'
  by_cases e : k' = k
  · subst e
    have z5 : m_I (pbM (64 * r + k') (nI y) x4 M) 5 (64 * r + k') = 0 := by rw [pb_I, if_pos ⟨rfl, rfl⟩]
    refine ⟨Or.inl z5, fun _ => z5, fun _ => z5, u4, y, hy, ?_⟩
    rw [pb_I, if_neg (by omega), if_neg (by omega), if_pos ⟨rfl, rfl⟩]
  · rw [pb_I, if_neg (by omega), if_neg (by omega), if_neg (by omega), pb_I, if_neg (by omega), if_neg (by omega), if_neg (by omega)]
    exact ⟨u1, u2, u3, u4, u5⟩
theorem pub_c (hn : n ≤ 512) {r q y : Nat} {x4 : Int32} (C : Cn_ n A B ow h M) (a : Ag_ Mm M) (hr : r < nR M) (hq : q < cL M r) (hq2 : cL M r ≤ q + sL M r) (hy : y < 32) : ∃ h' Mm' M2, f_X3_publishSlot h 0 (some (A r + 2 + 2 * (q % sL M r))) (nI y) x4 = some h' ∧ f_X4_fold (n_I (n_I (n_I Mm 5 (64 * r + q % sL M r) 0) 7 (64 * r + q % sL M r) (nI y)) 8 (64 * r + q % sL M r) x4) (nI r) (nI q) = some Mm' ∧ Ag_ Mm' M2 ∧ Cn_ n A B ow h' M2 ∧ Fx_ (pbM (64 * r + q % sL M r) (nI y) x4 M) M2 := by
  have W := C.2.2.2.2
  have w := W.2.1 r hr
  have hc := w.2.2.2.1
  have h8 : r < 8 := by have := W.1.2.1; omega
  have hm := sl_mod (q := q) w
  obtain ⟨s1, s2, s3, s4, s5⟩ := C.2.1.2.2.2.1 r hr
  have d1 : Dm_ M (n_I M 7 (64 * r + q % sL M r) (nI y)) := Dm_I (by omega) (by omega) (by omega) (by omega)
  have d2 := Dm_tr d1 (Dm_I (M := n_I M 7 (64 * r + q % sL M r) (nI y)) (f := 8) (i := 64 * r + q % sL M r) (x := x4) (by omega) (by omega) (by omega) (by omega))
  have P1 := Pn_slI (Pn_of C) hr hm.1 hm.2 (f := 7) (p := 4) (nI y) (by omega)
  have P2 := Pn_slI P1 (r := r) (k := q % sL M r) (by rw [d1.1]; exact hr) (by rw [d1.2.2.1]; exact hm.1) hm.2 (f := 8) (p := 5) x4 (by omega)
  have P3 := Pn_slI P2 (r := r) (k := q % sL M r) (by rw [d2.1]; exact hr) (by rw [d2.2.2.1]; exact hm.1) hm.2 (f := 5) (p := 6) 0 (by omega)
  have W1 := pb_W W (x4 := x4) hr hm.1 hm.2 hy
  have C1 : Cn_ n A B ow (s_I (s_I (s_I h (A r + 2 + 2 * (q % sL M r)) 4 (nI y)) (A r + 2 + 2 * (q % sL M r)) 5 x4) (A r + 2 + 2 * (q % sL M r)) 6 0) (pbM (64 * r + q % sL M r) (nI y) x4 M) := Cn_of P3 W1
  have a1 : Ag_ (n_I (n_I (n_I Mm 5 (64 * r + q % sL M r) 0) 7 (64 * r + q % sL M r) (nI y)) 8 (64 * r + q % sL M r) x4) (pbM (64 * r + q % sL M r) (nI y) x4 M) := by
    unfold pbM
    rw [nI_comm (M := Mm) (f := 5) (g := 7) (by omega), nI_comm (M := n_I Mm 7 (64 * r + q % sL M r) (nI y)) (f := 5) (g := 8) (by omega)]
    exact ag_cI (ag_cI (ag_cI a))
  have ec : cL (pbM (64 * r + q % sL M r) (nI y) x4 M) r = cL M r := by unfold cL; rw [pb_o (by omega) (by omega) (by omega)]
  have es : sL (pbM (64 * r + q % sL M r) (nI y) x4 M) r = sL M r := by unfold sL; rw [pb_o (by omega) (by omega) (by omega)]
  have eR : nR (pbM (64 * r + q % sL M r) (nI y) x4 M) = nR M := by unfold nR; rw [pb_o (by omega) (by omega) (by omega)]
  have e7 : m_I (pbM (64 * r + q % sL M r) (nI y) x4 M) 7 (64 * r + q % sL M r) = nI y := by rw [pb_I, if_neg (by omega), if_neg (by omega), if_pos ⟨rfl, rfl⟩]
  obtain ⟨h', Mm', M2, k1, k2, k3, k4, k5⟩ := ps_loop hn hy (nD (pbM (64 * r + q % sL M r) (nI y) x4 M)) 0 70 _ _ _ (by omega) (by omega) C1 a1 (r := r) (q := q) (by rw [eR]; exact hr) (by rw [ec]; exact hq) (by rw [ec, es]; exact hq2) (by rw [es]; exact e7)
  rw [es] at k1
  refine ⟨h', Mm', M2, ?_, ?_, k3, k4, k5⟩
  · unfold f_X3_publishSlot
    simp only [Option.bind_some, (s5 _ hm.1).2.1, if_true, b_d_eq]
    exact k1
  · unfold f_X4_fold
    have hs := slot_nI W1 (r := r) (q := q) (by rw [eR]; exact hr) (by omega)
    rw [es] at hs
    rw [← g_f_X4_slot a1, hs]
    simp only [Option.bind_some, in_nI (show 64 * r + q % sL M r < 512 by omega) (show 512 ≤ 65536 by omega), if_true, cl_nI (show 64 * r + q % sL M r < 2 ^ 31 by omega), ← (a1 7 (by omega)).1, e7]
    exact k2
theorem ok_publish : Ok_publish Inv_ := by
  intro n h M x x2 x3 x4 hn I
  obtain ⟨A, B, ow, C, Z⟩ := id I
  have W := C.2.2.2.2
  show Rs_ n _ _
  unfold f_X3_publish f_X4_publish
  simp only [if_pos C.2.1.1.1, rI_34 C]
  rcases ring_c C x with ⟨a, b⟩ | ⟨r, hr, h8, rfl, a, b⟩
  · rw [a, b]
    exact rs_v I _
  have w := W.2.1 r hr
  obtain ⟨s1, s2, s3, s4, s5⟩ := C.2.1.2.2.2.1 r hr
  rw [a, b]
  simp only [Option.bind_some, reduceCtorEq, if_false, s1, if_true, in_nI h8 (show 8 ≤ 65536 by omega), cl_nI (show r < 2 ^ 31 by omega), rI_50 C hr]
  rw [if_neg (show ¬ (1 : Int32) = 0 by decide)]
  rcases pk_ix x3 (n := 32) (by omega) with hx | hx | ⟨y, hy, rfl⟩
  · rw [if_pos hx, if_pos hx]
    exact rs_v I _
  · have hx0 := lt_tr hx (by omega)
    have h1 : (31 : Int32) < x3 := by
      rw [Int32.le_iff_toInt_le, nI_toInt (by omega)] at hx
      rw [Int32.lt_iff_toInt_lt, show (31 : Int32).toInt = 31 from rfl]
      omega
    have h2 : (32 : Int32) ≤ x3 := hx
    rw [if_neg hx0, if_neg hx0, if_pos h1, if_pos h2]
    exact rs_v I _
  rw [if_neg (nI_pos (by omega)), if_neg (nI_pos (by omega)), if_neg (show ¬ (32 : Int32) ≤ nI y by rw [litle (n := 32) rfl (by omega)]; omega), if_neg (show ¬ (31 : Int32) < nI y by rw [litlt (n := 31) rfl (by omega)]; omega)]
  by_cases y0 : x4 < 0
  · rw [if_pos y0, if_pos y0]; exact rs_v I _
  rw [if_neg y0, if_neg y0]
  by_cases y8' : ¬ x4 ≤ 8
  · rw [if_neg y8', if_neg y8']; exact rs_v I _
  have y8 : x4 ≤ 8 := Classical.not_not.mp y8'
  rw [if_pos y8, if_pos y8]
  by_cases e : m_I M 34 0 = 0
  · rw [if_pos e, if_pos e]; exact rs_v I _
  rw [if_neg e, if_neg e]
  rcases how_g w with ⟨q1, q2⟩ | ⟨q1, q2⟩
  · rw [if_neg q2, if_pos q1]
    exact rs_v I _
  rw [if_pos q2, if_neg q1]
  rcases open_c C (show n ≤ 512 by omega) hr x2 with ⟨o1, o2⟩ | ⟨q, rfl, o3, o4, o5, o1, o2⟩
  · rw [o1, o2]
    exact rs_v I _
  have hm := sl_mod (q := q) w
  have hc := w.2.2.2.1
  obtain ⟨h', Mm', M2, k1, k2, k3, k4, k5⟩ := pub_c (show n ≤ 512 by omega) (x4 := x4) C (ag_rf M) hr o4 o5 hy
  rw [o1, o2]
  simp only [Option.bind_some, reduceCtorEq, if_false, slot_nI W hr (show q < 2 ^ 30 by omega), in_nI (show 64 * r + q % sL M r < 512 by omega) (show 512 ≤ 65536 by omega), if_true, cl_nI (show 64 * r + q % sL M r < 2 ^ 31 by omega), b_d_eq, k1, k2]
  rw [if_neg (show ¬ (1 : Int32) = 0 by decide)]
  exact ⟨h', Mm', 1, M2, rfl, rfl, k3, inv_mo _ _ _ ⟨A, B, ow, k4, Z_b (by rw [k5.1 34 (by omega) (by omega) (by omega) (by omega) (by omega) (by omega) (by omega) (by omega), pb_o (by omega) (by omega) (by omega)]; exact e)⟩⟩
end FD
