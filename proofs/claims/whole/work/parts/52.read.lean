/-! reading -/
section RE
variable {n : Nat} {A B ow : Nat → Nat} {h : Hpx} {M Mm : Msx}
def Rd_ (j : Nat) (M M' : Msx) : Prop := nR M' = nR M ∧ nD M' = nD M ∧ m_I M' 34 = m_I M 34 ∧ (∀ i, i ≠ j → m_I M' 21 i = m_I M 21 i) ∧ ∀ r, cL M' r ≤ cL M r + 1
theorem Lv_f {j : Nat} {M' : Msx} (a : Lv_ j M M') {g : Nat} (hg : g < 13 ∨ (13 < g ∧ g < 18) ∨ (26 < g ∧ g < 54) ∨ (54 < g ∧ g < 58)) : m_I M' g = m_I M g := a.1 g (by omega) (by omega) (by omega) (by omega) (by omega) (by omega) (by omega) (by omega) (by omega) (by omega) (by omega)
theorem Lv_Rd {j : Nat} {M1 M' : Msx} (a : Lv_ j M M1) (b : Rd_ j M1 M') : Rd_ j M M' := by
  obtain ⟨b1, b2, b3, b4, b5⟩ := b
  refine ⟨b1.trans (by unfold nR; rw [Lv_f a (by omega)]), b2.trans (by unfold nD; rw [Lv_f a (by omega)]), b3.trans (Lv_f a (by omega)), fun i hi => (b4 i hi).trans (a.2.2 21 i hi rfl), fun r => ?_⟩
  have : cL M1 r = cL M r := by unfold cL; rw [Lv_f a (by omega)]
  rw [← this]
  exact b5 r
theorem Rd_rf {j : Nat} : Rd_ j M M := ⟨rfl, rfl, rfl, fun _ _ => rfl, fun _ => by omega⟩
theorem wy_pos {j : Nat} : wy M j = 0 ∨ ¬ wy M j ≤ 0 := by
  unfold wy wyP
  split
  · split
    · split
      · exact Or.inl rfl
      · exact Or.inr (by decide)
    · exact Or.inr (by decide)
  · split
    · split
      · exact Or.inr (by decide)
      · exact Or.inl rfl
    · split
      · exact Or.inr (by decide)
      · split
        · split
          · exact Or.inr (by decide)
          · exact Or.inl rfl
        · split
          · exact Or.inr (by decide)
          · split
            · split
              · split
                · split
                  · split
                    · exact Or.inr (by decide)
                    · exact Or.inl rfl
                  · exact Or.inr (by decide)
                · exact Or.inl rfl
              · exact Or.inr (by decide)
            · exact Or.inr (by decide)
theorem dB_eq {M' : Msx} {t c : Nat} (e : ∀ g, g = 1 ∨ g = 2 ∨ g = 3 ∨ g = 5 ∨ g = 10 ∨ g = 11 → m_I M' g = m_I M g) (e54 : ∀ i, m_I M' 54 (8 * i + t) = m_I M 54 (8 * i + t)) : dB M' t c = dB M t c := by
  have e1 : ∀ r, sL M' r = sL M r := fun r => by unfold sL; rw [e 1 (by omega)]
  have e2 : ∀ r, cL M' r = cL M r := fun r => by unfold cL; rw [e 2 (by omega)]
  have e10 : nD M' = nD M := by unfold nD; rw [e 10 (by omega)]
  have e11 : ∀ i, kD M' i = kD M i := fun i => by unfold kD; rw [e 11 (by omega)]
  have ep : ∀ i, hP M' i t = hP M i t := fun i => by
    unfold hP pC
    rw [e11, e54]
  have eh : ∀ x, hL M' t x = hL M t x := fun x => by
    unfold hL
    refine lsA_cong 16 0 (-1) fun i _ _ => ?_
    unfold hB
    rw [e10, ep]
  unfold dB oB kp
  rw [e1, e2, eh, e 3 (by omega), e 5 (by omega)]
theorem wy_0P {j : Nat} (e : wy M j = 0) (a1 : kD M j ≠ 1) (a4 : kD M j ≠ 4) (a5 : kD M j ≠ 5) : m_I M 3 (rG M j 0) ≠ 2 ∧ fN M j < cL M (rG M j 0) ∧ pB M (rG M j 0) (fN M j) = true ∧ (kD M j = 7 → m_I M 3 (tG M j) = 0 ∧ dB M (tG M j) (cL M (tG M j)) = false) := by
  unfold wy at e
  rw [if_neg a5, if_neg a4] at e
  by_cases c : m_I M 3 (rG M j 0) = 2
  · rw [if_pos c] at e
    exact absurd e (by decide)
  rw [if_neg c, if_neg a1] at e
  unfold wyP at e
  by_cases c1 : cL M (rG M j 0) ≤ fN M j
  · rw [if_pos c1] at e
    exact absurd e (by decide)
  rw [if_neg c1] at e
  by_cases c2 : pB M (rG M j 0) (fN M j) = true
  · rw [if_pos c2] at e
    refine ⟨c, by omega, c2, fun c7 => ?_⟩
    by_cases c3 : lsA (bB M j) 16 0 (-1) < 0
    · rw [if_pos c3, if_pos c7] at e
      by_cases c4 : m_I M 3 (tG M j) = 0
      · rw [if_pos c4] at e
        by_cases c5 : dB M (tG M j) (cL M (tG M j)) = true
        · rw [if_pos c5] at e
          exact absurd e (by decide)
        · exact ⟨c4, by simpa using c5⟩
      · rw [if_neg c4] at e
        exact absurd e (by decide)
    · rw [if_neg c3] at e
      exact absurd e (by decide)
  · rw [if_neg c2] at e
    exact absurd e (by decide)
theorem pB_kp {r q : Nat} (e : pB M r q = true) : kp M r q = true := by
  unfold pB at e
  rw [Bool.and_eq_true] at e
  exact e.1
/-- what readOnce does of a reader that is ready -/
def rdT (h : Hpx) (b : Nat) : Option (Hpx × Int32) := c_l (f_X3_takeNext h 0 (some b)) fun h32 r33 => (if r33 = 0 then some (h32, (0 : Int32)) else (some b).bind fun a35 => (if h_k h32 a35 = 2 then (if (h_R h32 a35 2) = none then some (h32, (1 : Int32)) else (if h_k h32 0 = 4 then (f_X3_writeOn h32 0 (h_R h32 a35 3) (h_R h32 a35 2)).bind fun h40 => some (h40, (1 : Int32)) else none)) else none))
theorem rdT_n {h' : Hpx} {M' : Msx} {j : Nat} (C' : Cn_ n A B ow h' M') (hj : j < nD M') (c7 : kD M' j ≠ 7) (e : f_X3_takeNext h 0 (some (B j)) = some (h', 1)) : rdT h (B j) = some (h', 1) := by
  obtain ⟨t1, t2, t3, -⟩ := C'.2.1.2.2.2.2.1 j hj
  rw [if_neg c7] at t3
  unfold rdT
  rw [e, c_l_some, if_neg (show ¬ (1 : Int32) = 0 by decide)]
  simp only [Option.bind_some]
  rw [if_pos t1, if_pos t3]
/-- the class takes what is next, and the reference too -/
theorem next_c (C : Cn_ n A B ow h M) (a : Ag_ Mm M) {j : Nat} (hj : j < nD M) (hn : n ≤ 512) (hb : m_I M 34 0 ≠ 0) (hg : gT M j < n) (hc : ∀ r, r < nR M → cL M r < 64 * n) (h3 : kD M j = 3 → m_I M 3 (rG M j 0) ≠ 2 → pL M j 0 = fN M j) (e : wy M j = 0) : ∃ h' Mm' M', rdT h (B j) = some (h', 1) ∧ j_X4_read_89 Mm (nI j) (nI (kD M j)) (nI (rG M j 0)) 0 = some (Mm', 1) ∧ Ag_ Mm' M' ∧ Cn_ n A B ow h' M' ∧ Rd_ j M M' := by
  have W := C.2.2.2.2
  have h16 : j < 16 := by have := W.1.2.2.2.1; omega
  obtain ⟨g1, g2, g8, g3, g4, g5⟩ := r0_c W hj
  have w := W.2.1 _ g2
  have wd := W.2.2.1 j hj
  obtain ⟨w1, w1a, w1b⟩ := wd.1
  obtain ⟨s1, s2, s3, s4, -⟩ := C.2.1.2.2.2.2.1 j hj
  have k0 := C.2.1.1.1
  unfold j_X4_read_89 j_X4_read_181
  rw [if_pos (show (0 : Int32) ≤ 0 by decide)]
  by_cases c4 : kD M j = 4
  · have ne : eM M j ≠ 0 := fun z => by
      unfold wy at e
      rw [if_neg (by omega), if_pos c4, if_pos z] at e
      exact absurd e (by decide)
    obtain ⟨h', Mm', M', e1, e2, e3, e4, e5, e6, e7, e8, e9, e10⟩ := takeEntry_c C a hj hn c4 ne hg
    refine ⟨h', Mm', M', ?_, ?_, e3, e4, e5, e6, e7, e8, fun r => by unfold cL; rw [e9]; omega⟩
    · refine rdT_n e4 (by rw [e6]; exact hj) (by unfold kD at c4 ⊢; rw [e10]; omega) ?_
      unfold f_X3_takeNext
      simp only [Option.bind_some, s1, if_true, rI_11 C hj, w1, s2, (C.2.1.2.2.2.1 _ g2).1, k0]
      rw [if_pos (by rw [c4]; rfl), e1]
      rfl
    · rw [if_pos (by rw [c4]; rfl), e2, c4]
      rfl
  have c4' : ¬ nI (kD M j) = 4 := by rw [eqlit (n := 4) rfl (by omega)]; exact c4
  rw [if_neg c4']
  by_cases c5 : kD M j = 5
  · have hh : lsA (lkB M j) 8 0 (-1) < 0 ∧ aK M j (rM M j) = true := by
      unfold wy at e
      rw [if_pos c5] at e
      by_cases z : lsA (lkB M j) 8 0 (-1) < 0
      · rw [if_pos z] at e
        refine ⟨z, ?_⟩
        by_cases y : aK M j (rM M j) = true
        · exact y
        · rw [if_neg y] at e
          exact absurd e (by decide)
      · rw [if_neg z] at e
        exact absurd e (by decide)
    obtain ⟨h', Mm', M', rr, e1, e2, e3, e4, e5, e6⟩ := tl_c C a hj hn c5 hh.1 hh.2 hg
    refine ⟨h', Mm', M', ?_, ?_, e4, e5, Lv_Rd e6 Rd_rf⟩
    · refine rdT_n e5 (by unfold nD; rw [Lv_f e6 (by omega)]; exact hj) (by unfold kD at c5 ⊢; rw [Lv_f e6 (by omega)]; omega) ?_
      unfold f_X3_takeNext
      simp only [Option.bind_some, s1, if_true, rI_11 C hj, w1, s2, (C.2.1.2.2.2.1 _ g2).1, k0]
      rw [if_neg c4', if_neg (by rw [c5]; decide), if_pos (by rw [c5]; rfl), e1]
      simp only [Option.bind_some, e2, c_l_some]
      rfl
    · rw [if_pos (by rw [c5]; rfl), e3, c5]
      rfl
  have c5' : ¬ nI (kD M j) = 5 := by rw [eqlit (n := 5) rfl (by omega)]; exact c5
  rw [if_neg c5']
  by_cases c1 : kD M j = 1
  · have c1' : nI (kD M j) = 1 := by rw [c1]; rfl
    rw [if_pos c1']
    obtain ⟨y, hy, y1, y2, y3⟩ := wd.2.2.2.2.2.2.2.2.2.2.1.1
    have hnw : ¬ nW M (rG M j 0) ≤ m_I M 58 j := by
      unfold wy at e
      rw [if_neg c5, if_neg c4] at e
      by_cases z : m_I M 3 (rG M j 0) = 2
      · rw [if_pos z] at e
        exact absurd e (by decide)
      rw [if_neg z, if_pos c1] at e
      intro z2
      rw [if_pos z2] at e
      exact absurd e (by decide)
    rcases nwF_or (M := M) (r := rG M j 0) (sL M (rG M j 0)) 1 with z | ⟨q, z, zq, zp⟩
    · exfalso
      have z' : nW M (rG M j 0) = -1 := z
      rw [z'] at hnw
      apply hnw
      by_cases y0 : y = 0
      · rw [y2 y0]
        decide
      · obtain ⟨v1, v2⟩ := y3 y0
        rw [v1]
        rw [Int32.lt_iff_toInt_lt] at v2
        rw [Int32.le_iff_toInt_le]
        have q1 : (0 : Int32).toInt = 0 := rfl
        have q2 : (-1 : Int32).toInt = -1 := rfl
        omega
    · have z' : nW M (rG M j 0) = nI q := z
      obtain ⟨h', Mm', M', e1, e2, e3, e4, e5, -⟩ := got_c C a g2 (pB_kp zp) hj (by omega) hg
      refine ⟨h', Mm', M', ?_, ?_, e3, e4, Lv_Rd e5 Rd_rf⟩
      · refine rdT_n e4 (by unfold nD; rw [Lv_f e5 (by omega)]; exact hj) (by unfold kD at c1 ⊢; rw [Lv_f e5 (by omega)]; omega) ?_
        unfold f_X3_takeNext
        simp only [Option.bind_some, s1, if_true, rI_11 C hj, w1, s2, (C.2.1.2.2.2.1 _ g2).1, k0]
        rw [if_neg c4', if_pos c1', newest_c C hn g2, z']
        simp only [Option.bind_some]
        rw [slotOf_nI C hn g2 (by omega), if_pos (pB_kp zp)]
        simp only [Option.bind_some, e1, c_l_some]
        rfl
      · rw [← g_f_X4_seen a, seen_c W hn g2, z']
        simp only [Option.bind_some, e2]
        rw [c1']
        rfl
  have c1' : ¬ nI (kD M j) = 1 := by rw [eqlit (n := 1) rfl (by omega)]; exact c1
  obtain ⟨q1, q2, q3, q4⟩ := wy_0P e c1 c4 c5
  have ep : pL M j 0 = fN M j := by
    by_cases c3 : kD M j = 3
    · exact h3 c3 q1
    · unfold fN
      rw [if_neg (fun z => c3 z.1)]
  have hr1 := wd.2.1.2.1
  obtain ⟨h1, Mm1, M1, e1, e2, e3, e4, e5, e6, e7⟩ := tap_c C a hj hn c1 c4 (k := 0) (by omega) (by rw [ep]; exact pB_kp q3) hg
  have x13 : m_I Mm 13 (4 * j) = nI (pL M j 0) := by rw [← (a 13 (by omega)).1, g3]
  have W1 := e5.2.2.2.2
  have hj1 : j < nD M1 := by unfold nD; rw [Lv_f e6 (by omega)]; exact hj
  have ek : kD M1 j = kD M j := by unfold kD; rw [Lv_f e6 (by omega)]
  have et : tG M1 j = tG M j := by unfold tG; rw [Lv_f e6 (by omega)]
  obtain ⟨t1, t2, t3, t4, -⟩ := e5.2.1.2.2.2.2.1 j hj1
  rw [ek, et] at t3
  have tn : f_X3_takeNext h 0 (some (B j)) = some (h1, 1) := by
    unfold f_X3_takeNext
    simp only [Option.bind_some, s1, if_true, rI_11 C hj, w1, s2, (C.2.1.2.2.2.1 _ g2).1, k0]
    rw [if_neg c4', if_neg c1', if_neg c5', e1]
    rfl
  rw [if_neg c1', four_j, if_pos (in_nI (show 4 * j < 64 by omega) (by omega)), cl_nI (show 4 * j < 2 ^ 31 by omega), x13, e2]
  have e3' : m_I Mm1 13 (4 * j) = nI (pL M j 0) := e3
  simp only [Option.bind_some, b_d_eq, e3', nI_1]
  by_cases c7 : kD M j = 7
  · obtain ⟨u1, u2, u3⟩ := wd.2.2.2.2.2.2.2.2.2.1 c7
    obtain ⟨v1, v2⟩ := q4 c7
    have hR8 := W.1.2.1
    have ed : dB M1 (tG M1 j) (cL M1 (tG M1 j)) = false := by
      have : cL M1 (tG M j) = cL M (tG M j) := by unfold cL; rw [Lv_f e6 (by omega)]
      rw [et, this, dB_eq (M := M) (fun g hg => Lv_f e6 (by omega)) (fun i => e7 _ (by omega))]
      exact v2
    obtain ⟨h2, Mm2, M2, f1, f2, f3, f4, f5, f6, f7, f8, f9⟩ := echo_c e5 e4 hj1 hn (by rw [ek]; exact c7) (by rw [et, Lv_f e6 (by omega)]; exact v1) ed (by rw [Lv_f e6 (by omega)]; exact hb) (by
      rw [et]
      have : cL M1 (tG M j) = cL M (tG M j) := by unfold cL; rw [Lv_f e6 (by omega)]
      rw [this]
      exact hc _ u2)
    rw [et] at f1
    refine ⟨h2, Mm2, M2, ?_, ?_, f3, f4, Lv_Rd e6 ⟨f5, f6, f7, fun i _ => by rw [f8], f9⟩⟩
    · unfold rdT
      rw [tn, c_l_some, if_neg (show ¬ (1 : Int32) = 0 by decide)]
      simp only [Option.bind_some, t1, if_true, t3, c7, reduceCtorEq, if_false, e5.2.1.1.1, t4, f1]
    · have f2' : f_X4_echo (n_I Mm1 13 (4 * j) (nI (pL M j 0 + 1))) (nI j) = some Mm2 := f2
      rw [if_pos (by rw [c7]; rfl), f2']
      rfl
  · refine ⟨h1, _, M1, ?_, ?_, e4, e5, Lv_Rd e6 Rd_rf⟩
    · exact rdT_n e5 hj1 (by rw [ek]; exact c7) tn
    · rw [if_neg (by rw [eqlit (n := 7) rfl (by omega)]; exact c7)]
      rfl
theorem core_c (C : Cn_ n A B ow h M) (a : Ag_ Mm M) {j : Nat} (hj : j < nD M) (hn : n ≤ 512) (hb : m_I M 34 0 ≠ 0) (hg : gT M j < n) (hc : ∀ r, r < nR M → cL M r < 64 * n) (h3 : kD M j = 3 → m_I M 3 (rG M j 0) ≠ 2 → pL M j 0 = fN M j) : ∃ h' Mm' M' v, j_X3_readOnce_12 0 h (some (B j)) = some (h', v) ∧ j_X4_read_89 Mm (nI j) (nI (kD M j)) (nI (rG M j 0)) (wy M j) = some (Mm', v) ∧ Ag_ Mm' M' ∧ Cn_ n A B ow h' M' ∧ Rd_ j M M' := by
  unfold j_X3_readOnce_12
  rw [if_pos C.2.1.1.1, reason_c C hn hj]
  simp only [Option.bind_some]
  rcases wy_pos (M := M) (j := j) with e | e
  · obtain ⟨h', Mm', M', e1, e2, e3, e4, e5⟩ := next_c C a hj hn hb hg hc h3 e
    refine ⟨h', Mm', M', 1, ?_, ?_, e3, e4, e5⟩
    · rw [if_neg (by rw [e]; decide), if_pos e]
      exact e1
    · rw [e]
      exact e2
  · have e0 : ¬ wy M j = 0 := fun z => e (by rw [z]; decide)
    unfold j_X4_read_89
    rw [if_neg e]
    by_cases c : wy M j = 1
    · obtain ⟨h', Mm', M', e1, e2, e3, e4, e5⟩ := find_a C a (t := 1) (by omega) (by omega)
      have e1' : f_X3_finding h 0 1 = some (h', -12) := e1
      have e2' : f_X4_find Mm 1 = some (Mm', -12) := e2
      refine ⟨h', Mm', M', -12, ?_, ?_, e3, e4, ?_⟩
      · rw [if_pos c, e1']
        rfl
      · rw [if_pos c, e2']
        rfl
      · have o : ∀ g, g ≠ 38 → m_I M' g = m_I M g := fun g hg => by rw [e5, n_I_o hg, n_I_o hg]
        exact ⟨by unfold nR; rw [o 0 (by omega)], by unfold nD; rw [o 10 (by omega)], o 34 (by omega), fun i _ => by rw [o 21 (by omega)], fun r => by unfold cL; rw [o 2 (by omega)]; omega⟩
    · refine ⟨h, Mm, M, 0, ?_, ?_, a, C, Rd_rf⟩
      · rw [if_neg c, if_neg e0]
      · rw [if_neg c]
theorem rd_c (C : Cn_ n A B ow h M) (a : Ag_ Mm M) {j : Nat} (hj : j < nD M) (hn : n ≤ 512) (hb : m_I M 34 0 ≠ 0) (hg : gT M j < n) (hc : ∀ r, r < nR M → cL M r < 64 * n) : ∃ h' Mm' M' v, f_X3_readOnce h 0 (some (B j)) = some (h', v) ∧ f_X4_read Mm (nI j) = some (Mm', v) ∧ Ag_ Mm' M' ∧ Cn_ n A B ow h' M' ∧ Rd_ j M M' := by
  have W := C.2.2.2.2
  have h16 : j < 16 := by have := W.1.2.2.2.1; omega
  obtain ⟨g1, g2, g8, g3, g4, g5⟩ := r0_c W hj
  have w := W.2.1 _ g2
  obtain ⟨w1, w1a, w1b⟩ := (W.2.2.1 j hj).1
  obtain ⟨s1, -⟩ := C.2.1.2.2.2.2.1 j hj
  have u4 : f_X4_read Mm (nI j) = if kD M j = 3 then (f_X4_miss Mm (nI j) (if m_I M 3 (rG M j 0) = 2 then nI (cL M (rG M j 0)) else nI (cL M (rG M j 0)) - nI (sL M (rG M j 0)))).bind fun M39 => j_X4_read_89 M39 (nI j) (nI (kD M j)) (nI (rG M j 0)) (wy M j) else j_X4_read_89 Mm (nI j) (nI (kD M j)) (nI (rG M j 0)) (wy M j) := by
    unfold f_X4_read j_X4_read_86
    rw [← g_f_X4_isReader a, ← g_f_X4_whyOne a, isReader_nI W.1 (by omega), if_pos hj, why4 W hn hj]
    simp only [← (a 34 (by omega)).1, ← (a 11 (by omega)).1, ← (a 12 (by omega)).1, ← (a 3 (by omega)).1, ← (a 2 (by omega)).1, ← (a 1 (by omega)).1, Option.bind_some, in_nI h16 (show 16 ≤ 65536 by omega), if_true, cl_nI (show j < 2 ^ 31 by omega), four_j, in_nI (show 4 * j < 64 by omega) (show 64 ≤ 65536 by omega), cl_nI (show 4 * j < 2 ^ 31 by omega), w1, g1, in_nI g8 (show 8 ≤ 65536 by omega), cl_nI (show rG M j 0 < 2 ^ 31 by omega), w.1, w.2.2.1]
    rw [if_neg hb, if_neg (show ¬ (1 : Int32) = 0 by decide)]
    by_cases c : kD M j = 3
    · rw [if_pos (by rw [c]; rfl), if_pos c]
      by_cases d : m_I M 3 (rG M j 0) = 2
      · rw [if_pos d, if_pos d]
      · rw [if_neg d, if_neg d]
    · rw [if_neg (by rw [eqlit (n := 3) rfl (by omega)]; exact c), if_neg c]
  have u3 : f_X3_readOnce h 0 (some (B j)) = if kD M j = 3 then (f_X1_skipMissed h (B j)).bind fun h25 => j_X3_readOnce_12 0 h25 (some (B j)) else j_X3_readOnce_12 0 h (some (B j)) := by
    unfold f_X3_readOnce
    simp only [Option.bind_some, s1, if_true, rI_11 C hj, w1]
    by_cases c : kD M j = 3
    · rw [if_pos (by rw [c]; rfl), if_pos c]
    · rw [if_neg (by rw [eqlit (n := 3) rfl (by omega)]; exact c), if_neg c]
  rw [u3, u4]
  by_cases c : kD M j = 3
  · rw [if_pos c, if_pos c]
    obtain ⟨h1, Mm1, M1, e1, e2, e3, e4, e5, e6, e7, e8⟩ := miss_c C a hj hn c
    have ek : kD M1 j = kD M j := by unfold kD; rw [Lv_f e5 (by omega)]
    have er : rG M1 j 0 = rG M j 0 := by unfold rG; rw [Lv_f e5 (by omega)]
    have cc := core_c e4 e3 (j := j) (by unfold nD; rw [Lv_f e5 (by omega)]; exact hj) hn (by rw [Lv_f e5 (by omega)]; exact hb) (by unfold gT; rw [e6]; exact hg) (fun r hr => by
      have : cL M1 r = cL M r := by unfold cL; rw [Lv_f e5 (by omega)]
      rw [this]
      exact hc r (by unfold nR at hr ⊢; rw [Lv_f e5 (by omega)] at hr; exact hr)) (fun _ z => e8 (by rw [er, Lv_f e5 (by omega)] at z; exact z))
    rw [ek, er, e7] at cc
    obtain ⟨h2, Mm2, M2, v, f1, f2, f3, f4, f5⟩ := cc
    refine ⟨h2, Mm2, M2, v, ?_, ?_, f3, f4, Lv_Rd e5 f5⟩
    · rw [e1]
      exact f1
    · rw [e2]
      exact f2
  · rw [if_neg c, if_neg c]
    exact core_c C a hj hn hb hg hc (fun z => absurd z c)
theorem Cn_mo (C : Cn_ n A B ow h M) : Cn_ (n + 1) A B ow h M := ⟨C.1, C.2.1, C.2.2.1, C.2.2.2.1, C.2.2.2.2.1, fun r hr => Wr_mo (C.2.2.2.2.2.1 r hr), fun j hj => Wd_mo (C.2.2.2.2.2.2.1 j hj), C.2.2.2.2.2.2.2⟩
theorem ok_read : Ok_read Inv_ := by
  intro n h M x hn I
  obtain ⟨A, B, ow, C, Z⟩ := id I
  have W := C.2.2.2.2
  show Rs_ n _ _
  by_cases e : m_I M 34 0 = 0
  · unfold f_X3_read f_X4_read
    rw [if_pos C.2.1.1.1, rI_34 C, if_pos e, if_pos e]
    exact rs_v I _
  rcases reader_c C x with ⟨b1, b2⟩ | ⟨j, hj, h16, rfl, b1, b2⟩
  · unfold f_X3_read f_X4_read
    rw [if_pos C.2.1.1.1, rI_34 C, if_neg e, if_neg e, b1, b2]
    exact rs_f C Z (t := 2) (by omega) (by omega)
  · have gt := gT_e W hj (show n ≤ 513 by omega)
    obtain ⟨h', Mm', M', v, e1, e2, e3, e4, -, -, e7, -⟩ := rd_c (Cn_mo C) (ag_rf M) hj (by omega) e (by omega) (fun r hr => by have := (W.2.1 r hr).2.2.2.1; omega)
    refine ⟨h', Mm', v, M', ?_, e2, e3, A, B, ow, e4, Z_b (by rw [e7]; exact e)⟩
    unfold f_X3_read
    rw [if_pos C.2.1.1.1, rI_34 C, if_neg e, b1]
    simp only [Option.bind_some, reduceCtorEq, if_false, e1, c_l_some]
theorem rn_end (C : Cn_ n A B ow h M) {x : Int32} : ∀ (m i fuel : Nat), i + m = 16 → nD M ≤ i → m < fuel → l_X3_round_14 0 fuel h x (nI i) = some (h, x) := by
  intro m
  induction m with
  | zero =>
    intro i fuel hi hD hf
    obtain ⟨f, rfl⟩ : ∃ f, fuel = f + 1 := ⟨fuel - 1, by omega⟩
    rw [u_X3_round_14]
    unfold j_X3_round_14
    rw [if_pos (by rw [litle (n := 16) rfl (by omega)]; omega)]
  | succ m ih =>
    intro i fuel hi hD hf
    obtain ⟨f, rfl⟩ : ∃ f, fuel = f + 1 := ⟨fuel - 1, by omega⟩
    rw [u_X3_round_14]
    unfold j_X3_round_14
    rw [if_neg (by rw [litle (n := 16) rfl (by omega)]; omega), if_pos C.2.1.1.1, readerAt_nI C (by omega), if_neg (by omega)]
    simp only [Option.bind_some, if_true, nI_1]
    exact ih (i + 1) f (by omega) (by omega) (by omega)
theorem rn_loop (hn : n ≤ 512) : ∀ (m i fuel : Nat) (h : Hpx) (M Mm : Msx) (x : Int32), i + m = nD M → 16 < fuel + i → Cn_ n A B ow h M → Ag_ Mm M → m_I M 34 0 ≠ 0 → (∀ j, i ≤ j → j < nD M → gT M j < n) → (∀ r, r < nR M → cL M r + m ≤ 64 * n) → ∃ h' Mm' M' v, l_X3_round_14 0 fuel h x (nI i) = some (h', v) ∧ l_X4_round_14 fuel Mm x (nI i) = some (Mm', v) ∧ Ag_ Mm' M' ∧ Cn_ n A B ow h' M' ∧ m_I M' 34 0 ≠ 0 := by
  intro m
  induction m with
  | zero =>
    intro i fuel h M Mm x hi hf C a hb hg hc
    have h16 := C.2.2.2.2.1.2.2.2.1
    refine ⟨h, Mm, M, x, rn_end C (16 - i) i fuel (by omega) (by omega) (by omega), ?_, a, C, hb⟩
    obtain ⟨f, rfl⟩ : ∃ f, fuel = f + 1 := ⟨fuel - 1, by omega⟩
    rw [u_X4_round_14]
    unfold j_X4_round_14
    rw [← (a 10 (by omega)).1, C.2.2.2.2.1.2.2.1, if_pos (by rw [nI_leI (by omega) (by omega)]; omega)]
  | succ m ih =>
    intro i fuel h M Mm x hi hf C a hb hg hc
    have h16 := C.2.2.2.2.1.2.2.2.1
    have hj : i < nD M := by omega
    obtain ⟨f, rfl⟩ : ∃ f, fuel = f + 1 := ⟨fuel - 1, by omega⟩
    obtain ⟨h1, Mm1, M1, v, e1, e2, e3, e4, e5, e6, e7, e8, e9⟩ := rd_c C a hj hn hb (hg i (Nat.le_refl i) hj) (fun r hr => by have := hc r hr; omega)
    have key : ∀ y, ∃ h' Mm' M' v, l_X3_round_14 0 f h1 y (nI (i + 1)) = some (h', v) ∧ l_X4_round_14 f Mm1 y (nI (i + 1)) = some (Mm', v) ∧ Ag_ Mm' M' ∧ Cn_ n A B ow h' M' ∧ m_I M' 34 0 ≠ 0 := fun y => ih (i + 1) f h1 M1 Mm1 y (by omega) (by omega) e4 e3 (by rw [e7]; exact hb) (fun j h1 h2 => by
      unfold gT
      rw [e8 j (by omega)]
      exact hg j (by omega) (by omega)) (fun r hr => by
      have := e9 r
      have := hc r (by omega)
      omega)
    rw [u_X3_round_14, u_X4_round_14]
    unfold j_X3_round_14 j_X4_round_14
    rw [if_neg (by rw [litle (n := 16) rfl (by omega)]; omega), if_pos C.2.1.1.1, readerAt_nI C (by omega), if_pos hj, ← (a 10 (by omega)).1, C.2.2.2.2.1.2.2.1, if_neg (by rw [nI_leI (by omega) (by omega)]; omega), e2]
    simp only [Option.bind_some, reduceCtorEq, if_false, e1, c_l_some, nI_1, Int32.add_zero]
    by_cases c : v = 1
    · rw [if_pos c, if_pos c]
      exact key _
    · rw [if_neg c, if_neg c]
      exact key _
theorem ok_round : Ok_round Inv_ := by
  intro n h M hn I
  obtain ⟨A, B, ow, C, Z⟩ := id I
  have W := C.2.2.2.2
  have h16 := W.1.2.2.2.1
  show Rs_ n _ _
  unfold f_X3_round f_X4_round
  rw [if_pos C.2.1.1.1, rI_34 C]
  by_cases e : m_I M 34 0 = 0
  · rw [if_pos e, if_pos e]
    exact rs_v I _
  rw [if_neg e, if_neg e]
  obtain ⟨h', Mm', M', v, e1, e2, e3, e4, e5⟩ := rn_loop (n := n + 1) (A := A) (B := B) (ow := ow) (by omega) (nD M) 0 70 h M M 0 (by omega) (by omega) (Cn_mo C) (ag_rf M) e (fun j _ hj => by have := gT_e W hj (show n ≤ 513 by omega); omega) (fun r hr => by have := (W.2.1 r hr).2.2.2.1; omega)
  exact ⟨h', Mm', v, M', e1, e2, e3, A, B, ow, e4, Z_b e5⟩
end RE
