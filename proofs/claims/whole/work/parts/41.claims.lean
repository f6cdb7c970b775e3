/-! claim and batch -/
section CM
variable {n : Nat} {A B ow : Nat → Nat} {h : Hpx} {M Mm : Msx}
theorem ref_loop (C : Cn_ n A B ow h M) (hn : n < 512) {r m : Nat} (hr : r < nR M) (h8 : r < 8) (hm : m ≤ 64) : ∀ (k i fuel : Nat), i + k = m → k < fuel → (l_X3_refusalOfClaims_73 0 fuel h (some (A r)) (nI m) (nI i) = some (h, 0) ∧ l_X4_hinders_89 fuel M (nI r) (nI m) (nI i) = some (M, 0) ∧ ∀ i', i ≤ i' → i' < m → dB M r (cL M r + i') = false) ∨ ∃ v, l_X3_refusalOfClaims_73 0 fuel h (some (A r)) (nI m) (nI i) = some (s_I h 0 10 v, -10) ∧ l_X4_hinders_89 fuel M (nI r) (nI m) (nI i) = some (n_I M 36 0 v, -10) := by
  have W := C.2.2.2.2
  have w := W.2.1 r hr
  have hc := w.2.2.2.1
  have s1 := (C.2.1.2.2.2.1 r hr).1
  have k0 := C.2.1.1.1
  intro k
  induction k with
  | zero =>
    intro i fuel hi hf
    obtain ⟨f, rfl⟩ : ∃ f, fuel = f + 1 := ⟨fuel - 1, by omega⟩
    rw [u_X3_refusalOfClaims_73, u_X4_hinders_89]
    unfold j_X3_refusalOfClaims_73 j_X4_hinders_89
    left
    refine ⟨?_, ?_, fun i' h1 h2 => by omega⟩
    · rw [if_pos (by rw [nI_leI (by omega) (by omega)]; omega)]
    · rw [if_pos (by rw [nI_leI (by omega) (by omega)]; omega)]
  | succ k ih =>
    intro i fuel hi hf
    obtain ⟨f, rfl⟩ : ∃ f, fuel = f + 1 := ⟨fuel - 1, by omega⟩
    rw [u_X3_refusalOfClaims_73, u_X4_hinders_89]
    unfold j_X3_refusalOfClaims_73 j_X4_hinders_89
    have e0 : ¬ nI m ≤ nI i := by rw [nI_leI (by omega) (by omega)]; omega
    have e1 : ¬ (64 : Int32) ≤ nI i := by rw [litle (n := 64) rfl (by omega)]; omega
    simp only [if_neg e0, if_neg e1, Option.bind_some, s1, k0, if_true, rI_2 C hr, w.2.2.1, nI_add, isHeldUp3 C (show n ≤ 512 by omega) hr (show cL M r + i < 2 ^ 29 by omega), in_nI h8 (show 8 ≤ 65536 by omega), cl_nI (show r < 2 ^ 31 by omega), isHeld4 W (show n ≤ 512 by omega) hr (show cL M r + i < 2 ^ 29 by omega), holderUpTo_c C hr h8, holderOf_c W hr, rI_1 C hr, nI_1]
    by_cases d : dB M r (cL M r + i) = true
    · right
      refine ⟨hL M r (nI (cL M r + i) - m_I M 1 r), ?_, ?_⟩
      · simp [d, b_d_eq]
      · simp [d, b_d_eq]
    · have df : dB M r (cL M r + i) = false := by simpa using d
      simp only [df]
      rcases ih (i + 1) f (by omega) (by omega) with ⟨l1, l2, l3⟩ | z
      · refine Or.inl ⟨l1, l2, fun i' h1 h2 => ?_⟩
        by_cases e : i' = i
        · rw [e]; exact df
        · exact l3 i' (by omega) h2
      · exact Or.inr z
theorem hd_c (W : Wf_ n M) {r c : Nat} (hr : r < nR M) (hc : c < 2 ^ 29) (hd : dB M r c = false) {j k : Nat} (hj : j < nD M) (a1 : kD M j ≠ 1) (a3 : kD M j ≠ 3) (a4 : kD M j ≠ 4) (hk : k < rM M j) (hkr : rG M j k = r) : c + 1 ≤ pL M j k + sL M r := by
  have h8 : r < 8 := by have := W.1.2.1; omega
  have h16 : j < 16 := by have := W.1.2.2.2.1; omega
  have hs := sl_b (W.2.1 r hr)
  obtain ⟨-, -, w3, w4, w5, -⟩ := W.2.2.1 j hj
  have hp : hP M j r = nI (pL M j k) := by
    unfold hP pC
    rw [if_neg a3, ← hkr, (w5 a1 a4).1 k hk, (w3 k hk).2.2.1]
  have hpl : pL M j k < 2 ^ 31 := by
    have := (w3 k hk).2.2.2
    rw [hkr] at this
    have := (W.2.1 r hr).2.2.1
    unfold pL
    have := Int32.toInt_lt (m_I M 13 (4 * j + k))
    show (m_I M 13 (4 * j + k)).toInt.toNat < _
    omega
  by_cases e : sL M r ≤ c
  · unfold dB at hd
    rw [decide_eq_true e, Bool.true_and, Bool.or_eq_false_iff] at hd
    have hn := hd.2
    rw [decide_eq_false_iff_not, Classical.not_not] at hn
    unfold hL at hn
    rcases lsA_or (hB M r (nI (c - sL M r))) 16 0 (-1) with ⟨-, z⟩ | ⟨t, -, z2, -, z4, -⟩
    · have := z j (by omega) (by omega)
      simp only [hB, decide_eq_false_iff_not] at this
      rw [hp] at this
      have h1 : nI (c - sL M r) < nI (pL M j k) := by
        by_cases e2 : nI (c - sL M r) < nI (pL M j k)
        · exact e2
        · exact absurd ⟨hj, nI_pos hpl, e2⟩ this
      rw [nI_ltI (by omega) hpl] at h1
      omega
    · rw [z4] at hn
      exact absurd hn (nI_pos (by omega))
  · omega
theorem mk_loop {r m : Nat} (hm : m ≤ 64) (h8 : r < 8) (hn : n ≤ 513) (x : Int64) (x6 : Int32) : ∀ (k i fuel : Nat) (h : Hpx) (M Mm : Msx), i + k = m → k < fuel → Cn_ n A B ow h M → Ag_ Mm M → r < nR M → m_I M 3 r ≠ 2 → cL M r + k ≤ 64 * n → m_I M 34 0 ≠ 0 → (∀ j, j < nD M → kD M j ≠ 1 → kD M j ≠ 3 → kD M j ≠ 4 → ∀ i, i < rM M j → rG M j i = r → cL M r + k ≤ pL M j i + sL M r) → ∃ h' Mm' M2, l_X3_claimSome_37 0 fuel h (some (A r)) x (nI m) x6 (nI i) = some (h', x6) ∧ l_X4_makeAll_35 fuel Mm (nI r) x (nI m) x6 (nI i) = some (Mm', x6) ∧ Ag_ Mm' M2 ∧ Cn_ n A B ow h' M2 ∧ m_I M2 34 0 = m_I M 34 0 := by
  intro k
  induction k with
  | zero =>
    intro i fuel h M Mm hi hf C a hr h3 hc hB hH
    obtain ⟨f, rfl⟩ : ∃ f, fuel = f + 1 := ⟨fuel - 1, by omega⟩
    rw [u_X3_claimSome_37, u_X4_makeAll_35]
    unfold j_X3_claimSome_37 j_X4_makeAll_35
    rw [if_pos (by rw [nI_leI (by omega) (by omega)]; omega), if_pos (by rw [nI_leI (by omega) (by omega)]; omega)]
    exact ⟨h, Mm, M, rfl, rfl, a, C, rfl⟩
  | succ k ih =>
    intro i fuel h M Mm hi hf C a hr h3 hc hB hH
    obtain ⟨f, rfl⟩ : ∃ f, fuel = f + 1 := ⟨fuel - 1, by omega⟩
    rw [u_X3_claimSome_37, u_X4_makeAll_35]
    unfold j_X3_claimSome_37 j_X4_makeAll_35
    have e0 : ¬ nI m ≤ nI i := by rw [nI_leI (by omega) (by omega)]; omega
    have e1 : ¬ (64 : Int32) ≤ nI i := by rw [litle (n := 64) rfl (by omega)]; omega
    have W := C.2.2.2.2
    have w := W.2.1 r hr
    have hm' := sl_mod (q := cL M r) w
    simp only [if_neg e0, if_neg e1, Option.bind_some, (C.2.1.2.2.2.1 r hr).1, if_true, newClaim_c C hr hn, make_c W a hr hn, c_l_some, nI_1]
    have W' := cl_W W (x := x) hr (by omega) hn h3 hB (fun j hj a1 a3 a4 k' hk' e => by have := hH j hj a1 a3 a4 k' hk' e; omega)
    have P' := cl_P (x := x) (Pn_of C) hr hm'.1 hm'.2 (cL M r)
    have e34 : m_I (clM r (cL M r) (cL M r % sL M r) x M) 34 0 = m_I M 34 0 := by rw [cl_o (by omega) (by omega) (by omega) (by omega) (by omega) (by omega)]
    rw [← e34]
    refine ih (i + 1) f _ _ _ (by omega) (by omega) (Cn_of P' W') (cl_ag a) ?_ ?_ ?_ ?_ ?_
    · unfold nR
      rw [cl_o (by omega) (by omega) (by omega) (by omega) (by omega) (by omega)]
      exact hr
    · rw [cl_o (by omega) (by omega) (by omega) (by omega) (by omega) (by omega)]
      exact h3
    · rw [cl_c (by omega)]
      omega
    · rw [cl_o (by omega) (by omega) (by omega) (by omega) (by omega) (by omega)]
      exact hB
    · intro j hj a1 a3 a4 k' hk' e
      rw [cl_c (by omega)]
      unfold nD at hj
      unfold kD at a1 a3 a4
      unfold rM at hk'
      unfold rG at e
      unfold pL sL
      rw [cl_o (by omega) (by omega) (by omega) (by omega) (by omega) (by omega)] at hj a1 a3 a4 hk' e
      rw [cl_o (by omega) (by omega) (by omega) (by omega) (by omega) (by omega), cl_o (by omega) (by omega) (by omega) (by omega) (by omega) (by omega)]
      have := hH j hj a1 a3 a4 k' hk' e
      unfold pL sL at this
      omega
theorem rs_ref {h1 : Hpx} {M1 : Msx} {rr : Option Nat} {x x4 v : Int32} {x2 : Int64} (k0 : h_k h 0 = 4) (C : Cn_ n A B ow h1 M1) (Z : Z_ M1) (hv : v < 0) (e1 : f_X3_refusalOfClaims h 0 rr x2 x4 = some (h1, v)) (e2 : f_X4_hinders M x x2 x4 = some (M1, v)) : Rs_ n (c_l (f_X3_claimSome h 0 rr x2 x4) fun h r => some (h, r)) (c_l (f_X4_makeAll M x x2 x4) fun M r => some (M, r)) := by
  unfold f_X3_claimSome f_X4_makeAll
  rw [if_pos k0, e1, e2]
  simp only [c_l_some, if_pos hv, C.2.1.1.1, if_true, b_d_eq]
  rw [if_neg (by rw [Int32.not_le]; exact hv)]
  refine ⟨_, _, v, _, rfl, rfl, ag_rf _, inv_mo _ _ _ ⟨A, B, ow, Cn_of (Pn_wI (Pn_of C) (f := 37) (i := 0) rfl v (by omega) (by omega) (by omega) (by omega) (by omega) (by omega) (by omega)) ?_, Z_I Z (by omega)⟩⟩
  have W := C.2.2.2.2
  refine Wf_0 W ?_ (fun z => by rw [n_I_o (by omega)] at z; exact z) (fun g hg _ _ _ _ _ _ _ => n_I_o (by omega)) (fun g hg => rfl)
  obtain ⟨a1, a2, a3, a4, a5, a6, a7⟩ := W.1
  exact ⟨a1, a2, a3, a4, a5, Or.inr hv, a7⟩
theorem cs_c (C : Cn_ n A B ow h M) (Z : Z_ M) (hn : n < 512) (x x4 : Int32) (x2 : Int64) : ∃ rr, f_X3_ringAt h 0 x = some rr ∧ Rs_ n (c_l (f_X3_claimSome h 0 rr x2 x4) fun h r => some (h, r)) (c_l (f_X4_makeAll M x x2 x4) fun M r => some (M, r)) := by
  have W := C.2.2.2.2
  have k0 := C.2.1.1.1
  have I : Inv_ n h M := ⟨A, B, ow, C, Z⟩
  rcases ring_c C x with ⟨a, b⟩ | ⟨r, hr, h8, rfl, a, b⟩
  · refine ⟨none, a, rs_ref k0 C Z (v := -1) (by decide) ?_ ?_⟩
    · unfold f_X3_refusalOfClaims
      rw [if_pos rfl]
    · unfold f_X4_hinders
      rw [b]
      rfl
  refine ⟨_, a, ?_⟩
  have s1 := (C.2.1.2.2.2.1 r hr).1
  have w := W.2.1 r hr
  have hs := sl_b w
  have hc := w.2.2.2.1
  have u1 : f_X3_refusalOfClaims h 0 (some (A r)) x2 x4 = (if x4 < 1 then some (h, -1) else if x4 ≤ nI (sL M r) then (if m_I M 34 0 = 0 then some (h, -2) else if m_I M 50 r = 0 then (if m_I M 51 r = 0 then (if nI (cL M r) ≤ 0 then l_X3_refusalOfClaims_73 0 70 h (some (A r)) x4 0 else if 0 ≤ lg_cmp x2 (m_J M 4 r) then l_X3_refusalOfClaims_73 0 70 h (some (A r)) x4 0 else some (h, -9)) else some (h, -8)) else some (h, -7)) else some (h, -1)) := by
    unfold f_X3_refusalOfClaims
    simp only [reduceCtorEq, if_false, Option.bind_some, s1, k0, if_true, rI_1 C hr, w.1, rI_34 C, rI_50 C hr, rI_51 C hr, rI_2 C hr, w.2.2.1, rJ_4 C hr]
  have u2 : f_X4_hinders M (nI r) x2 x4 = (if x4 < 1 then some (M, -1) else if x4 ≤ nI (sL M r) then (if m_I M 34 0 = 0 then some (M, -2) else if m_I M 3 r = 2 then some (M, -7) else if m_I M 3 r = 1 then some (M, -8) else if nI (cL M r) ≤ 0 then l_X4_hinders_89 70 M (nI r) x4 0 else if 0 ≤ lg_cmp x2 (m_J M 4 r) then l_X4_hinders_89 70 M (nI r) x4 0 else some (M, -9)) else some (M, -1)) := by
    unfold f_X4_hinders
    rw [b]
    simp only [Option.bind_some, in_nI h8 (show 8 ≤ 65536 by omega), if_true, cl_nI (show r < 2 ^ 31 by omega), w.1, w.2.2.1]
    rw [if_neg (by decide)]
  by_cases c1 : x4 < 1
  · rw [if_pos c1] at u1 u2
    exact rs_ref k0 C Z (by decide) u1 u2
  rw [if_neg c1] at u1 u2
  by_cases c2' : ¬ x4 ≤ nI (sL M r)
  · rw [if_neg c2'] at u1 u2
    exact rs_ref k0 C Z (by decide) u1 u2
  have c2 : x4 ≤ nI (sL M r) := Classical.not_not.mp c2'
  rw [if_pos c2] at u1 u2
  by_cases c3 : m_I M 34 0 = 0
  · rw [if_pos c3] at u1 u2
    exact rs_ref k0 C Z (by decide) u1 u2
  rw [if_neg c3] at u1 u2
  rcases how_3 w with ⟨q1, q2, q3⟩ | ⟨q1, q2, q3⟩ | ⟨q1, q2⟩
  · rw [q2, q3, if_pos rfl, if_pos rfl] at u1
    rw [q1, if_neg (by decide), if_neg (by decide)] at u2
    obtain ⟨m, hm1, hm2, rfl⟩ : ∃ m, 1 ≤ m ∧ m ≤ sL M r ∧ x4 = nI m := by
      rcases pk_ix x4 (n := 65) (by omega) with hx | hx | ⟨m, hm, rfl⟩
      · exfalso
        apply c1
        rw [Int32.lt_iff_toInt_lt] at hx ⊢
        have e0 : (0 : Int32).toInt = 0 := rfl
        have e1 : (1 : Int32).toInt = 1 := rfl
        omega
      · exfalso
        rw [Int32.le_iff_toInt_le, nI_toInt (by omega)] at hx c2
        omega
      · rw [ltlit (n := 1) rfl (by omega)] at c1
        rw [nI_leI (by omega) (by omega)] at c2
        exact ⟨m, by omega, c2, rfl⟩
    have go : f_X3_refusalOfClaims h 0 (some (A r)) x2 (nI m) = l_X3_refusalOfClaims_73 0 70 h (some (A r)) (nI m) 0 → f_X4_hinders M (nI r) x2 (nI m) = l_X4_hinders_89 70 M (nI r) (nI m) 0 → Rs_ n (c_l (f_X3_claimSome h 0 (some (A r)) x2 (nI m)) fun h r => some (h, r)) (c_l (f_X4_makeAll M (nI r) x2 (nI m)) fun M r => some (M, r)) := by
      intro v1 v2
      rcases ref_loop C hn hr h8 (m := m) (by omega) m 0 70 (by omega) (by omega) with ⟨l1, l2, l3⟩ | ⟨v, l1, l2⟩
      · have l1' : l_X3_refusalOfClaims_73 0 70 h (some (A r)) (nI m) 0 = some (h, 0) := l1
        have l2' : l_X4_hinders_89 70 M (nI r) (nI m) 0 = some (M, 0) := l2
        have C1 : Cn_ (n + 1) A B ow h M := ⟨C.1, C.2.1, C.2.2.1, C.2.2.2.1, W.1, fun r hr => Wr_mo (W.2.1 r hr), fun j hj => Wd_mo (W.2.2.1 j hj), W.2.2.2⟩
        obtain ⟨h', Mm', M2, k1, k2, k3, k4, k5⟩ := mk_loop (n := n + 1) (A := A) (B := B) (ow := ow) (r := r) (m := m) (by omega) h8 (by omega) x2 (nI (cL M r)) m 0 70 h M M (by omega) (by omega) C1 (ag_rf M) hr (by rw [q1]; decide) (by omega) c3 (fun j hj a1 a3 a4 i hi e => by have := hd_c W hr (c := cL M r + (m - 1)) (by omega) (l3 (m - 1) (by omega) (by omega)) hj a1 a3 a4 hi e; omega)
        refine ⟨h', Mm', nI (cL M r), M2, ?_, ?_, k3, A, B, ow, k4, Z_b (by rw [k5]; exact c3)⟩
        · unfold f_X3_claimSome
          rw [if_pos k0, v1, l1']
          simp only [c_l_some]
          rw [if_neg (by decide)]
          simp only [reduceCtorEq, if_false, Option.bind_some, s1, if_true, rI_2 C hr, w.2.2.1]
          rw [show (0 : Int32) = nI 0 from rfl, k1]
          rfl
        · unfold f_X4_makeAll
          rw [v2, l2']
          simp only [c_l_some, in_nI h8 (show 8 ≤ 65536 by omega), if_true, cl_nI (show r < 2 ^ 31 by omega), w.2.2.1]
          rw [if_pos (by decide), show (0 : Int32) = nI 0 from rfl, k2]
          rfl
      · have l1' : l_X3_refusalOfClaims_73 0 70 h (some (A r)) (nI m) 0 = some (s_I h 0 10 v, -10) := l1
        have l2' : l_X4_hinders_89 70 M (nI r) (nI m) 0 = some (n_I M 36 0 v, -10) := l2
        refine rs_ref k0 (h1 := s_I h 0 10 v) (M1 := n_I M 36 0 v) (Cn_of (Pn_wI (Pn_of C) (f := 36) (i := 0) rfl v (by omega) (by omega) (by omega) (by omega) (by omega) (by omega) (by omega)) (wf_free W (by omega))) (Z_I Z (by omega)) (v := -10) (by decide) (v1.trans l1') (v2.trans l2')
    by_cases c4 : nI (cL M r) ≤ 0
    · rw [if_pos c4] at u1 u2
      exact go u1 u2
    rw [if_neg c4] at u1 u2
    by_cases c5 : 0 ≤ lg_cmp x2 (m_J M 4 r)
    · rw [if_pos c5] at u1 u2
      exact go u1 u2
    rw [if_neg c5] at u1 u2
    exact rs_ref k0 C Z (by decide) u1 u2
  · rw [q2, q3, if_pos rfl, if_neg (by decide)] at u1
    rw [q1, if_neg (by decide), if_pos rfl] at u2
    exact rs_ref k0 C Z (by decide) u1 u2
  · rw [q2, if_neg (by decide)] at u1
    rw [q1, if_pos rfl] at u2
    exact rs_ref k0 C Z (by decide) u1 u2
theorem ok_batch : Ok_batch Inv_ := by
  intro n h M x x2 x4 hn I
  obtain ⟨A, B, ow, C, Z⟩ := id I
  obtain ⟨rr, e1, e2⟩ := cs_c C Z hn x x4 x2
  show Rs_ n _ _
  unfold f_X3_batch f_X4_batch
  rw [if_pos C.2.1.1.1, e1]
  exact e2
theorem ok_claim : Ok_claim Inv_ := by
  intro n h M x x2 hn I
  obtain ⟨A, B, ow, C, Z⟩ := id I
  obtain ⟨rr, e1, e2⟩ := cs_c C Z hn x 1 x2
  show Rs_ n _ _
  unfold f_X3_claim f_X4_claim
  rw [if_pos C.2.1.1.1, e1]
  exact e2
end CM
