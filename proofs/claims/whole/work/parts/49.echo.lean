/-! missing, writing on to another ring, the least stamp -/
section EC
variable {n : Nat} {A B ow : Nat → Nat} {h : Hpx} {M Mm : Msx}
theorem wy_k3 (W : Wf_ n M) {j : Nat} (hj : j < nD M) (k3 : kD M j = 3) : wy M j = if m_I M 3 (rG M j 0) = 2 then 1 else if cL M (rG M j 0) ≤ fN M j then 2 else if pB M (rG M j 0) (fN M j) = true then 0 else 3 := by
  have w7 := (W.2.2.1 j hj).2.2.2.2.2.2.1.2.2 (by omega) (by omega)
  have hno : lsA (bB M j) 16 0 (-1) = -1 := lsA_no fun t _ ht => by
    have : nB M j t = false := by
      by_cases c : nB M j t = true
      · obtain ⟨k, hk, -⟩ := (nB_iff W hj (by omega)).mp c
        omega
      · simpa using c
    simp [bB, this]
  unfold wy wyP
  rw [if_neg (by omega), if_neg (by omega), if_neg (show ¬ kD M j = 1 by omega), hno, if_pos (show (-1 : Int32) < 0 by decide), if_neg (show ¬ kD M j = 7 by omega)]
def msM (j p T : Nat) (M : Msx) : Msx := n_I (n_I (n_I M 18 j (m_I M 18 j + (nI T - nI p))) 19 j (nI p)) 20 j (nI T - 1)
theorem ms_o {j p T g : Nat} (h1 : g ≠ 18) (h2 : g ≠ 19) (h3 : g ≠ 20) : m_I (msM j p T M) g = m_I M g := by
  unfold msM
  rw [n_I_o h3, n_I_o h2, n_I_o h1]
theorem ms_W (W : Wf_ n M) {j p T : Nat} : Wf_ n (msM j p T M) := wf_free (wf_free (wf_free W (by omega)) (by omega)) (by omega)
theorem miss_c (C : Cn_ n A B ow h M) (a : Ag_ Mm M) {j : Nat} (hj : j < nD M) (hn : n ≤ 512) (k3 : kD M j = 3) : ∃ h' Mm' M', f_X1_skipMissed h (B j) = some h' ∧ f_X4_miss Mm (nI j) (if m_I M 3 (rG M j 0) = 2 then nI (cL M (rG M j 0)) else nI (cL M (rG M j 0)) - nI (sL M (rG M j 0))) = some Mm' ∧ Ag_ Mm' M' ∧ Cn_ n A B ow h' M' ∧ Lv_ j M M' ∧ m_I M' 21 = m_I M 21 ∧ wy M' j = wy M j ∧ (m_I M 3 (rG M j 0) ≠ 2 → pL M' j 0 = fN M' j) := by
  have W := C.2.2.2.2
  have h16 : j < 16 := by have := W.1.2.2.2.1; omega
  obtain ⟨g1, g2, g8, g3, g4, g5⟩ := r0_c W hj
  have w := W.2.1 _ g2
  have hs := sl_b w
  have hf := fN_le W hj
  have hfk := fN_kept W hj (by omega) (by omega)
  have hr1 := (W.2.2.1 j hj).2.1.2.1
  obtain ⟨s1, s2, s3, s4, s5, s6, s7, s8, s9, s10, s11, -⟩ := C.2.1.2.2.2.2.1 j hj
  have t1 := (C.2.1.2.2.2.1 _ g2).1
  have pc := pC_0 W hj (by omega) (by omega)
  have ptr := ptr_c C (show n ≤ 513 by omega) hj (by omega) (by omega)
  -- where to
  generalize hT : (if kD M j = 3 ∧ m_I M 3 (rG M j 0) = 2 then cL M (rG M j 0) else fN M j) = T at ptr
  have hT1 : pL M j 0 ≤ T ∧ T ≤ cL M (rG M j 0) := by
    rw [← hT]
    split <;> omega
  have hT2 : m_I M 3 (rG M j 0) ≠ 2 → T = fN M j := fun z => by
    rw [← hT, if_neg (fun y => z y.2)]
  have cm : ∀ X, X = (if m_I M 3 (rG M j 0) = 2 then nI (cL M (rG M j 0)) else nI (cL M (rG M j 0)) - nI (sL M (rG M j 0))) → ((T ≤ pL M j 0 ∧ X ≤ nI (pL M j 0)) ∨ (pL M j 0 < T ∧ ¬ X ≤ nI (pL M j 0) ∧ X = nI T)) := by
    intro X hX
    by_cases c : m_I M 3 (rG M j 0) = 2
    · have eT : T = cL M (rG M j 0) := by rw [← hT, if_pos ⟨k3, c⟩]
      rw [if_pos c] at hX
      rw [hX, nI_leI (by omega) (by omega), eT]
      by_cases d : cL M (rG M j 0) ≤ pL M j 0
      · exact Or.inl ⟨d, d⟩
      · exact Or.inr ⟨by omega, d, rfl⟩
    · rw [if_neg c] at hX
      rw [hX, c_s_le (by omega) (by omega) (by omega), hT2 c]
      unfold fN at hf ⊢
      by_cases d : cL M (rG M j 0) ≤ pL M j 0 + sL M (rG M j 0)
      · left
        rw [if_neg (by omega)]
        exact ⟨Nat.le_refl _, d⟩
      · right
        rw [if_pos ⟨k3, by omega⟩]
        exact ⟨by omega, d, pk_sub (by omega)⟩
  have p13 : m_I Mm 13 (4 * j) = nI (pL M j 0) := by rw [← (a 13 (by omega)).1, g3]
  rcases cm _ rfl with ⟨c1, c2⟩ | ⟨c1, c2, c3⟩
  · refine ⟨h, Mm, M, ?_, ?_, a, C, Lv_rf, rfl, rfl, fun z => ?_⟩
    · unfold f_X1_skipMissed
      simp only [s1, if_true, s2, Option.bind_some, t1, rI_60 C g2, w.2.2.2.2.2.1, placeIn1 C hj g8, pc, ptr]
      rw [if_neg (nI_pos (by omega)), if_pos (by rw [nI_leI (by omega) (by omega)]; exact c1)]
    · unfold f_X4_miss
      rw [four_j, if_pos (in_nI (by omega) (by omega)), cl_nI (by omega), p13, if_pos c2]
    · have := hT2 z
      omega
  · refine ⟨s_I (s_I (s_I (s_I h (B j) 12 (m_I M 18 j + (nI T - nI (pL M j 0)))) (B j) 13 (nI (pL M j 0))) (B j) 14 (nI T - 1)) (B j + 3) (rG M j 0) (nI T), n_I (msM j (pL M j 0) T Mm) 13 (4 * j) (nI T), stM j 0 (rG M j 0) T (msM j (pL M j 0) T M), ?_, ?_, ?_, ?_, ?_, ?_, ?_, ?_⟩
    · unfold f_X1_skipMissed
      simp only [s1, if_true, s2, Option.bind_some, t1, rI_60 C g2, w.2.2.2.2.2.1, placeIn1 C hj g8, pc, ptr]
      rw [if_neg (nI_pos (by omega)), if_neg (by rw [nI_leI (by omega) (by omega)]; omega)]
      simp only [b_d_eq, RsI, ksI, nsI, s2, Option.bind_some, t1, if_true, s9, s10, s11, rI_18 C hj]
      have i0 : h_I (s_I (s_I (s_I h (B j) 12 (m_I M 18 j + (nI T - nI (pL M j 0)))) (B j) 13 (nI (pL M j 0))) (B j) 14 (nI T - 1)) (A (rG M j 0)) 0 = nI (rG M j 0) := by
        rw [sI_n (by omega), sI_n (by omega), sI_n (by omega), rI_60 C g2, w.2.2.2.2.2.1]
      rw [i0, if_pos (in_nI g8 (by omega)), cl_nI (by omega)]
    · unfold f_X4_miss
      rw [four_j, if_pos (in_nI (by omega) (by omega)), cl_nI (by omega), p13, if_neg c2, c3]
      simp only [in_nI h16 (show 16 ≤ 65536 by omega), if_true, cl_nI (show j < 2 ^ 31 by omega), b_d_eq]
      rfl
    · unfold stM msM
      rw [(a 18 (by omega)).1]
      exact ag_g (ag_cI (ag_cI (ag_cI (ag_cI a)))) (by omega) (by omega)
    · have P1 := Pn_wI (Pn_of C) (f := 18) (i := j) (show j < nD M from hj) (m_I M 18 j + (nI T - nI (pL M j 0))) (by omega) (by omega) (by omega) (by omega) (by omega) (by omega) (by omega)
      have d1 : Dm_ M (n_I M 18 j (m_I M 18 j + (nI T - nI (pL M j 0)))) := Dm_I (by omega) (by omega) (by omega) (by omega)
      have P2 := Pn_wI P1 (f := 19) (i := j) (show j < nD _ by rw [d1.2.1]; exact hj) (nI (pL M j 0)) (by omega) (by omega) (by omega) (by omega) (by omega) (by omega) (by omega)
      have d2 := Dm_tr d1 (Dm_I (f := 19) (i := j) (x := nI (pL M j 0)) (by omega) (by omega) (by omega) (by omega))
      have P3 := Pn_wI P2 (f := 20) (i := j) (show j < nD _ by rw [d2.2.1]; exact hj) (nI T - 1) (by omega) (by omega) (by omega) (by omega) (by omega) (by omega) (by omega)
      have d3 := Dm_tr d2 (Dm_I (f := 20) (i := j) (x := nI T - 1) (by omega) (by omega) (by omega) (by omega))
      have P4 := st_P (k := 0) (r := rG M j 0) (p := T) P3 (show j < nD _ by rw [d3.2.1]; exact hj) g8
      refine Cn_of P4 ?_
      have W1 := ms_W W (j := j) (p := pL M j 0) (T := T)
      have er : rG (msM j (pL M j 0) T M) j 0 = rG M j 0 := by unfold rG; rw [ms_o (by omega) (by omega) (by omega)]
      have ep : pL (msM j (pL M j 0) T M) j 0 = pL M j 0 := by
        show (m_I (msM j (pL M j 0) T M) 13 (4 * j + 0)).toNatClampNeg = _
        rw [ms_o (by omega) (by omega) (by omega)]
        rfl
      have ek : kD (msM j (pL M j 0) T M) j = 3 := by
        show (m_I (msM j (pL M j 0) T M) 11 j).toNatClampNeg = _
        rw [ms_o (by omega) (by omega) (by omega)]
        exact k3
      have em : rM (msM j (pL M j 0) T M) j = rM M j := by
        show (m_I (msM j (pL M j 0) T M) 14 j).toNatClampNeg = _
        rw [ms_o (by omega) (by omega) (by omega)]
        rfl
      have ec : ∀ q, cL (msM j (pL M j 0) T M) q = cL M q := fun q => by
        show (m_I (msM j (pL M j 0) T M) 2 q).toNatClampNeg = _
        rw [ms_o (by omega) (by omega) (by omega)]
        rfl
      have := st_W W1 (j := j) (k := 0) (p := T) (show j < nD (msM j (pL M j 0) T M) by unfold nD; rw [ms_o (by omega) (by omega) (by omega)]; exact hj) (by omega) (by omega) (by omega) (by omega) (by omega) (by rw [ec, er]; omega)
      rw [er] at this
      exact this
    · exact ⟨fun g e1 e2 e3 e4 e5 e6 e7 e8 e9 e10 e11 => by rw [st_o e1 e10, ms_o e2 e3 e4], fun g _ _ => rfl, fun g i hi hg => by rw [st_o (by omega) (by omega), ms_o (by omega) (by omega) (by omega)]⟩
    · rw [st_o (by omega) (by omega), ms_o (by omega) (by omega) (by omega)]
    all_goals
      have o : ∀ g, g ≠ 13 → g ≠ 54 → g ≠ 18 → g ≠ 19 → g ≠ 20 → m_I (stM j 0 (rG M j 0) T (msM j (pL M j 0) T M)) g = m_I M g := fun g e1 e2 e3 e4 e5 => by rw [st_o e1 e2, ms_o e3 e4 e5]
      have ep : pL (stM j 0 (rG M j 0) T (msM j (pL M j 0) T M)) j 0 = T := by
        show (m_I (stM j 0 (rG M j 0) T (msM j (pL M j 0) T M)) 13 (4 * j + 0)).toNatClampNeg = _
        unfold stM
        rw [n_I_o (by omega), nI_s, cl_nI (by omega)]
      have er : rG (stM j 0 (rG M j 0) T (msM j (pL M j 0) T M)) j 0 = rG M j 0 := by
        show (m_I (stM j 0 (rG M j 0) T (msM j (pL M j 0) T M)) 12 (4 * j + 0)).toNatClampNeg = _
        rw [o 12 (by omega) (by omega) (by omega) (by omega) (by omega)]
        rfl
      have ec : ∀ q, cL (stM j 0 (rG M j 0) T (msM j (pL M j 0) T M)) q = cL M q := fun q => by
        show (m_I (stM j 0 (rG M j 0) T (msM j (pL M j 0) T M)) 2 q).toNatClampNeg = _
        rw [o 2 (by omega) (by omega) (by omega) (by omega) (by omega)]
        rfl
      have es : ∀ q, sL (stM j 0 (rG M j 0) T (msM j (pL M j 0) T M)) q = sL M q := fun q => by
        show (m_I (stM j 0 (rG M j 0) T (msM j (pL M j 0) T M)) 1 q).toNatClampNeg = _
        rw [o 1 (by omega) (by omega) (by omega) (by omega) (by omega)]
        rfl
      have ek : kD (stM j 0 (rG M j 0) T (msM j (pL M j 0) T M)) j = 3 := by
        show (m_I (stM j 0 (rG M j 0) T (msM j (pL M j 0) T M)) 11 j).toNatClampNeg = _
        rw [o 11 (by omega) (by omega) (by omega) (by omega) (by omega)]
        exact k3
      have ef : m_I M 3 (rG M j 0) ≠ 2 → fN (stM j 0 (rG M j 0) T (msM j (pL M j 0) T M)) j = T := fun z => by
        have := hT2 z
        unfold fN
        rw [er, ep, ec, es, if_neg (fun y => by omega)]
    · have W' : Wf_ n (stM j 0 (rG M j 0) T (msM j (pL M j 0) T M)) := by
        have W1 := ms_W W (j := j) (p := pL M j 0) (T := T)
        have er1 : rG (msM j (pL M j 0) T M) j 0 = rG M j 0 := by unfold rG; rw [ms_o (by omega) (by omega) (by omega)]
        have ep1 : pL (msM j (pL M j 0) T M) j 0 = pL M j 0 := by
          show (m_I (msM j (pL M j 0) T M) 13 (4 * j + 0)).toNatClampNeg = _
          rw [ms_o (by omega) (by omega) (by omega)]
          rfl
        have ek1 : kD (msM j (pL M j 0) T M) j = 3 := by
          show (m_I (msM j (pL M j 0) T M) 11 j).toNatClampNeg = _
          rw [ms_o (by omega) (by omega) (by omega)]
          exact k3
        have em1 : rM (msM j (pL M j 0) T M) j = rM M j := by
          show (m_I (msM j (pL M j 0) T M) 14 j).toNatClampNeg = _
          rw [ms_o (by omega) (by omega) (by omega)]
          rfl
        have ec1 : ∀ q, cL (msM j (pL M j 0) T M) q = cL M q := fun q => by
          show (m_I (msM j (pL M j 0) T M) 2 q).toNatClampNeg = _
          rw [ms_o (by omega) (by omega) (by omega)]
          rfl
        have := st_W W1 (j := j) (k := 0) (p := T) (show j < nD (msM j (pL M j 0) T M) by unfold nD; rw [ms_o (by omega) (by omega) (by omega)]; exact hj) (by omega) (by omega) (by omega) (by omega) (by omega) (by rw [ec1, er1]; omega)
        rw [er1] at this
        exact this
      have hj' : j < nD (stM j 0 (rG M j 0) T (msM j (pL M j 0) T M)) := by
        show j < (m_I (stM j 0 (rG M j 0) T (msM j (pL M j 0) T M)) 10 0).toNatClampNeg
        rw [o 10 (by omega) (by omega) (by omega) (by omega) (by omega)]
        exact hj
      rw [wy_k3 W' hj' ek, wy_k3 W hj k3, er, ec, o 3 (by omega) (by omega) (by omega) (by omega) (by omega)]
      by_cases c : m_I M 3 (rG M j 0) = 2
      · rw [if_pos c, if_pos c]
      · have eb : pB (stM j 0 (rG M j 0) T (msM j (pL M j 0) T M)) (rG M j 0) T = pB M (rG M j 0) T := by
          unfold pB kp
          rw [ec, es, o 3 (by omega) (by omega) (by omega) (by omega) (by omega), o 5 (by omega) (by omega) (by omega) (by omega) (by omega)]
        rw [if_neg c, if_neg c, ef c, eb, hT2 c]
    · intro z
      rw [ep, ef z]
/-- the reference's loop that copies words to a slot, and then folds -/
theorem echo_8 {s j : Nat} {t x5 : Int32} {M : Msx} (hs : s < 512) (hj : j < 16) : ∀ (k i fuel : Nat), i + k = 8 → k < fuel → l_X4_echo_105 fuel (cpM 9 (8 * s) (fun i => m_J M 27 (8 * j + i)) i M) (nI j) t x5 (nI s) (nI i) = f_X4_fold (cpM 9 (8 * s) (fun i => m_J M 27 (8 * j + i)) 8 M) t x5 := by
  intro k
  induction k with
  | zero =>
    intro i fuel hi hf
    obtain ⟨f, rfl⟩ : ∃ f, fuel = f + 1 := ⟨fuel - 1, by omega⟩
    rw [u_X4_echo_105]
    unfold j_X4_echo_105
    rw [if_pos (by rw [litle (n := 8) rfl (by omega)]; omega), show i = 8 by omega]
    cases f_X4_fold (cpM 9 (8 * s) (fun i => m_J M 27 (8 * j + i)) 8 M) t x5 <;> rfl
  | succ k ih =>
    intro i fuel hi hf
    obtain ⟨f, rfl⟩ : ∃ f, fuel = f + 1 := ⟨fuel - 1, by omega⟩
    rw [u_X4_echo_105]
    unfold j_X4_echo_105
    simp only [eight_t, b_d_eq, nI_1]
    rw [if_neg (by rw [litle (n := 8) rfl (by omega)]; omega), if_pos (in_nI (by omega) (by omega)), if_pos (in_nI (by omega) (by omega)), cl_nI (by omega), cl_nI (by omega), cpM_o (by omega)]
    have := ih (i + 1) f (by omega) (by omega)
    rw [cpM] at this
    exact this
/-- the stamp that a claim written on gets -/
def esT (M : Msx) (j : Nat) : Int64 := if nI (cL M (tG M j)) ≤ 0 then m_J M 24 j else if 0 ≤ lg_cmp (m_J M 24 j) (m_J M 4 (tG M j)) then m_J M 24 j else m_J M 4 (tG M j)
theorem echo_c (C : Cn_ n A B ow h M) (a : Ag_ Mm M) {j : Nat} (hj : j < nD M) (hn : n ≤ 512) (k7 : kD M j = 7) (hl : m_I M 3 (tG M j) = 0) (hd : dB M (tG M j) (cL M (tG M j)) = false) (hb : m_I M 34 0 ≠ 0) (hc : cL M (tG M j) < 64 * n) : ∃ h' Mm' M', f_X3_writeOn h 0 (some (B j + 1)) (some (A (tG M j))) = some h' ∧ f_X4_echo Mm (nI j) = some Mm' ∧ Ag_ Mm' M' ∧ Cn_ n A B ow h' M' ∧ nR M' = nR M ∧ nD M' = nD M ∧ m_I M' 34 = m_I M 34 ∧ m_I M' 21 = m_I M 21 ∧ ∀ r, cL M' r ≤ cL M r + 1 := by
  have W := C.2.2.2.2
  have h16 : j < 16 := by have := W.1.2.2.2.1; omega
  obtain ⟨t1, t2, t3⟩ := (W.2.2.1 j hj).2.2.2.2.2.2.2.2.2.1 k7
  have t8 : tG M j < 8 := by have := W.1.2.1; omega
  obtain ⟨y, hy, ey⟩ := (W.2.2.1 j hj).2.2.2.2.2.2.2.2.2.2.1.2
  have w := W.2.1 _ t2
  have hs := sl_b w
  have hm := sl_mod (q := cL M (tG M j)) w
  obtain ⟨s1, s2, s3, s4, s5, s6, s7, s8, -⟩ := C.2.1.2.2.2.2.1 j hj
  have r3 := (C.2.1.2.2.2.1 _ t2).1
  -- the new claim
  have W1 := cl_W W (x := esT M j) t2 hc (by omega) (by rw [hl]; decide) hb (fun i hi a1 a3 a4 k hk e => hd_c W t2 (by omega) hd hi a1 a3 a4 hk e)
  have P1 := cl_P (x := esT M j) (Pn_of C) t2 hm.1 hm.2 (cL M (tG M j))
  have C1 := Cn_of P1 W1
  have a1 := cl_ag (r := tG M j) (c := cL M (tG M j)) (k := cL M (tG M j) % sL M (tG M j)) (x := esT M j) a
  have n1 := newClaim_c C t2 (by omega) (esT M j)
  have m1 := make_c W a t2 (by omega) (esT M j)
  have ec1 := cl_c (r := tG M j) (x := esT M j) (k := cL M (tG M j) % sL M (tG M j)) (M := M) (by omega)
  have ecm : m_I (cmM (tG M j) (cL M (tG M j)) (cL M (tG M j) % sL M (tG M j)) (esT M j) Mm) 2 (tG M j) = nI (cL M (tG M j) + 1) := by
    rw [← (a1 2 (by omega)).1, cl_I, if_pos ⟨rfl, rfl⟩]
  have er : ∀ q, q ≠ tG M j → cL (clM (tG M j) (cL M (tG M j)) (cL M (tG M j) % sL M (tG M j)) (esT M j) M) q = cL M q := fun q hq => by
    unfold cL
    rw [cl_I, if_neg (by omega), if_neg (by omega), if_neg (by omega), if_neg (by omega), if_neg (by omega), if_neg (by omega)]
  have o1 : ∀ g, g ≠ 2 → g ≠ 5 → g ≠ 8 → g ≠ 7 → g ≠ 53 → g ≠ 52 → m_I (clM (tG M j) (cL M (tG M j)) (cL M (tG M j) % sL M (tG M j)) (esT M j) M) g = m_I M g := fun g e1 e2 e3 e4 e5 e6 => cl_o e1 e2 e3 e4 e5 e6
  have j24 : m_J Mm 24 j = m_J M 24 j := by rw [(a 24 (by omega)).2]
  have j4 : m_J Mm 4 (tG M j) = m_J M 4 (tG M j) := by rw [(a 4 (by omega)).2]
  -- both sides come to their middles
  have u1 : f_X3_writeOn h 0 (some (B j + 1)) (some (A (tG M j))) = j_X3_writeOn_41 0 h (some (B j + 1)) (some (A (tG M j))) (esT M j) := by
    unfold f_X3_writeOn j_X3_writeOn_23 j_X3_writeOn_24 esT
    simp only [Option.bind_some, r3, if_true, rI_2 C t2, w.2.2.1, s5, rJ_24 C hj, rJ_4 C t2]
    rw [if_neg (show ¬ (1 : Int32) = 0 by decide)]
    by_cases c1 : nI (cL M (tG M j)) ≤ 0
    · rw [if_pos c1, if_pos c1]
    · rw [if_neg c1, if_neg c1]
      split
      · rfl
      · rfl
  have u2 : f_X4_echo Mm (nI j) = j_X4_echo_46 Mm (nI j) (nI (tG M j)) (nI (tG M j)) (esT M j) := by
    unfold f_X4_echo j_X4_echo_45 esT
    simp only [in_nI h16 (show 16 ≤ 65536 by omega), if_true, cl_nI (show j < 2 ^ 31 by omega), ← (a 17 (by omega)).1, t1, in_nI t8 (show 8 ≤ 65536 by omega), cl_nI (show tG M j < 2 ^ 31 by omega), ← (a 2 (by omega)).1, w.2.2.1, j24, j4]
    by_cases c1 : nI (cL M (tG M j)) ≤ 0
    · rw [if_pos c1, if_pos c1]
    · rw [if_neg c1, if_neg c1]
      split
      · rfl
      · rfl
  rw [u1, u2]
  generalize hx : esT M j = x at *
  generalize hM1 : clM (tG M j) (cL M (tG M j)) (cL M (tG M j) % sL M (tG M j)) x M = M1 at *
  generalize hh1 : clH A (tG M j) (cL M (tG M j)) (cL M (tG M j) % sL M (tG M j)) x h = h1 at *
  generalize hMm1 : cmM (tG M j) (cL M (tG M j)) (cL M (tG M j) % sL M (tG M j)) x Mm = Mm1 at *
  have hj1 : j < nD M1 := by unfold nD; rw [o1 10 (by omega) (by omega) (by omega) (by omega) (by omega) (by omega)]; exact hj
  have es1 : sL M1 (tG M j) = sL M (tG M j) := by unfold sL; rw [o1 1 (by omega) (by omega) (by omega) (by omega) (by omega) (by omega)]
  have ht1 : tG M j < nR M1 := by
    show tG M j < (m_I M1 0 0).toNatClampNeg
    rw [o1 0 (by omega) (by omega) (by omega) (by omega) (by omega) (by omega)]
    exact t2
  obtain ⟨v1, v2, v3, v4, v5, v6, v7, v8, -⟩ := C1.2.1.2.2.2.2.1 j hj1
  obtain ⟨q1, q2, q3, q4, q5⟩ := C1.2.1.2.2.2.1 _ ht1
  rw [es1] at q4 q5
  obtain ⟨z1, z2, z3, z4, z5⟩ := q5 _ hm.1
  -- the words
  have P2 := Pn_cp (a := B j + 2) (b := A (tG M j) + 3 + 2 * (cL M (tG M j) % sL M (tG M j))) (sp := 0) (f := 9) (b0 := 8 * (64 * tG M j + cL M (tG M j) % sL M (tG M j))) (m := 8) (v := fun i => m_J M1 27 (8 * j + i)) (Pn_of C1) (Nat.le_refl 8) (fun i hi => okJ9 ht1 (by rw [es1]; exact hm.1) hm.2 hi) (fun i hi => by rw [Nat.zero_add]; exact rJ_27 C1 hj1 hi) 8 (Nat.le_refl 8)
  have C2 := Cn_of P2 (wf_cp C1.2.2.2.2 (by omega))
  have d2 := Dm_cp (M := M1) (f := 9) (b0 := 8 * (64 * tG M j + cL M (tG M j) % sL M (tG M j))) (v := fun i => m_J M1 27 (8 * j + i)) (m := 8)
  have e27 : (fun i => m_J M1 27 (8 * j + i)) = fun i => m_J Mm1 27 (8 * j + i) := by rw [(a1 27 (by omega)).2]
  have a2 : Ag_ (cpM 9 (8 * (64 * tG M j + cL M (tG M j) % sL M (tG M j))) (fun i => m_J M1 27 (8 * j + i)) 8 Mm1) (cpM 9 (8 * (64 * tG M j + cL M (tG M j) % sL M (tG M j))) (fun i => m_J M1 27 (8 * j + i)) 8 M1) := cpM_ag a1 8
  have i2 : ∀ g, m_I (cpM 9 (8 * (64 * tG M j + cL M (tG M j) % sL M (tG M j))) (fun i => m_J M1 27 (8 * j + i)) 8 M1) g = m_I M1 g := fun g => by rw [cpM_I]
  have c2 : cL (cpM 9 (8 * (64 * tG M j + cL M (tG M j) % sL M (tG M j))) (fun i => m_J M1 27 (8 * j + i)) 8 M1) (tG M j) = cL M (tG M j) + 1 := by
    show (m_I _ 2 (tG M j)).toNatClampNeg = _
    rw [i2]
    exact ec1
  have sl2 : sL (cpM 9 (8 * (64 * tG M j + cL M (tG M j) % sL M (tG M j))) (fun i => m_J M1 27 (8 * j + i)) 8 M1) (tG M j) = sL M (tG M j) := (d2.2.2.1 _).trans es1
  have pb := pub_c hn (r := tG M j) (q := cL M (tG M j)) (y := y) (x4 := m_I M 26 j) C2 a2 (by rw [d2.1]; exact ht1) (by rw [c2]; omega) (by rw [c2, sl2]; omega) hy
  rw [sl2] at pb
  obtain ⟨h', Mm', M', b1, b2, b3, b4, b5⟩ := pb
  refine ⟨h', Mm', M', ?_, ?_, b3, b4, ?_, ?_, ?_, ?_, ?_⟩
  · unfold j_X3_writeOn_41
    have f25 : h_I (c_J h1 (B j + 2) (A (tG M j) + 3 + 2 * (cL M (tG M j) % sL M (tG M j))) 0 0 8) (B j + 1) 4 = nI y := by
      rw [rI_25 C2 (by rw [d2.2.1]; exact hj1), i2, o1 25 (by omega) (by omega) (by omega) (by omega) (by omega) (by omega), ey]
    have f26 : h_I (c_J h1 (B j + 2) (A (tG M j) + 3 + 2 * (cL M (tG M j) % sL M (tG M j))) 0 0 8) (B j + 1) 5 = m_I M 26 j := by
      rw [rI_26 C2 (by rw [d2.2.1]; exact hj1), i2, o1 26 (by omega) (by omega) (by omega) (by omega) (by omega) (by omega)]
    simp only [Option.bind_some, r3, if_true, n1, c_l_some, v5, z2, v6, z3, v7, z4, v8, z5, b_d_eq]
    rw [if_pos (by decide)]
    have k4 : h_k (c_J h1 (B j + 2) (A (tG M j) + 3 + 2 * (cL M (tG M j) % sL M (tG M j))) (Int32.toNatClampNeg 0) (Int32.toNatClampNeg 0) (Int32.toNatClampNeg 8)) 0 = 4 := C2.2.1.1.1
    rw [if_pos k4]
    have b1' : f_X3_publishSlot (c_J h1 (B j + 2) (A (tG M j) + 3 + 2 * (cL M (tG M j) % sL M (tG M j))) (Int32.toNatClampNeg 0) (Int32.toNatClampNeg 0) (Int32.toNatClampNeg 8)) 0 (some (A (tG M j) + 2 + 2 * (cL M (tG M j) % sL M (tG M j)))) (h_I (c_J h1 (B j + 2) (A (tG M j) + 3 + 2 * (cL M (tG M j) % sL M (tG M j))) (Int32.toNatClampNeg 0) (Int32.toNatClampNeg 0) (Int32.toNatClampNeg 8)) (B j + 1) 4) (h_I (c_J h1 (B j + 2) (A (tG M j) + 3 + 2 * (cL M (tG M j) % sL M (tG M j))) (Int32.toNatClampNeg 0) (Int32.toNatClampNeg 0) (Int32.toNatClampNeg 8)) (B j + 1) 5) = some h' := by
      refine Eq.trans ?_ b1
      rw [← f25, ← f26]
      rfl
    rw [b1']
    rfl
  · unfold j_X4_echo_46
    rw [m1]
    have sl := slot_nI C1.2.2.2.2 (r := tG M j) (q := cL M (tG M j)) ht1 (by omega)
    rw [es1, g_f_X4_slot a1] at sl
    have esub : nI (cL M (tG M j) + 1) - 1 = nI (cL M (tG M j)) := nI_pred _
    simp only [Option.bind_some, in_nI t8 (show 8 ≤ 65536 by omega), if_true, cl_nI (show tG M j < 2 ^ 31 by omega), ecm, esub, sl, in_nI (show 64 * tG M j + cL M (tG M j) % sL M (tG M j) < 512 by omega) (show 512 ≤ 65536 by omega), in_nI h16 (show 16 ≤ 65536 by omega), cl_nI (show 64 * tG M j + cL M (tG M j) % sL M (tG M j) < 2 ^ 31 by omega), cl_nI (show j < 2 ^ 31 by omega), b_d_eq]
    have w25 : m_I (n_I Mm1 5 (64 * tG M j + cL M (tG M j) % sL M (tG M j)) 0) 25 j = nI y := by
      rw [n_I_o (by omega), ← (a1 25 (by omega)).1, o1 25 (by omega) (by omega) (by omega) (by omega) (by omega) (by omega), ey]
    have w26 : m_I (n_I (n_I Mm1 5 (64 * tG M j + cL M (tG M j) % sL M (tG M j)) 0) 7 (64 * tG M j + cL M (tG M j) % sL M (tG M j)) (nI y)) 26 j = m_I M 26 j := by
      rw [n_I_o (by omega), n_I_o (by omega), ← (a1 26 (by omega)).1, o1 26 (by omega) (by omega) (by omega) (by omega) (by omega) (by omega)]
    rw [w25, w26]
    have lp := echo_8 (s := 64 * tG M j + cL M (tG M j) % sL M (tG M j)) (j := j) (t := nI (tG M j)) (x5 := nI (cL M (tG M j))) (M := n_I (n_I (n_I Mm1 5 (64 * tG M j + cL M (tG M j) % sL M (tG M j)) 0) 7 (64 * tG M j + cL M (tG M j) % sL M (tG M j)) (nI y)) 8 (64 * tG M j + cL M (tG M j) % sL M (tG M j)) (m_I M 26 j)) (by omega) h16 8 0 70 (by omega) (by omega)
    rw [cpM] at lp
    refine Eq.trans lp (Eq.trans ?_ b2)
    rw [e27, ← cpM_nI, ← cpM_nI, ← cpM_nI]
    rfl
  all_goals
    have fx : ∀ g, g = 0 ∨ g = 2 ∨ g = 10 ∨ g = 21 ∨ g = 34 → m_I M' g = m_I M1 g := fun g hg => by
      rw [b5.1 g (by omega) (by omega) (by omega) (by omega) (by omega) (by omega) (by omega) (by omega), pb_o (by omega) (by omega) (by omega), i2]
  · unfold nR
    rw [fx 0 (by omega), o1 0 (by omega) (by omega) (by omega) (by omega) (by omega) (by omega)]
  · unfold nD
    rw [fx 10 (by omega), o1 10 (by omega) (by omega) (by omega) (by omega) (by omega) (by omega)]
  · rw [fx 34 (by omega), o1 34 (by omega) (by omega) (by omega) (by omega) (by omega) (by omega)]
  · rw [fx 21 (by omega), o1 21 (by omega) (by omega) (by omega) (by omega) (by omega) (by omega)]
  · intro r
    have : cL M' r = cL M1 r := by unfold cL; rw [fx 2 (by omega)]
    rw [this]
    by_cases c : r = tG M j
    · rw [c, ec1]
      exact Nat.le_refl _
    · rw [er r c]
      omega
end EC
