/-! the calls that ask, or find -/
theorem four_j (j : Nat) : (4 : Int32) * nI j = nI (4 * j) := by rw [show (4 : Int32) = nI 4 from rfl, pk_mul]
theorem ok_got : Ok_got Inv_ := by
  intro n h M x y hn I
  obtain ⟨A, B, ow, C, Z⟩ := id I
  have W := C.2.2.2.2
  have key : ∃ r, f_X3_got h 0 x y = some r ∧ f_X4_got M x y = some r := by
    unfold f_X3_got f_X4_got
    simp only [if_pos C.2.1.1.1]
    rcases reader_c C x with ⟨a, b⟩ | ⟨j, hj, h16, rfl, a, b⟩
    · rw [a, b]
      exact ⟨-1, rfl, rfl⟩
    · obtain ⟨s1, s2, s3, s4, s5, s6, s7, s8, -⟩ := C.2.1.2.2.2.2.1 j hj
      obtain ⟨⟨g, hg, eg, g0, g1⟩, -⟩ := (W.2.2.1 j hj).2.2.2.2.2.2.2.2.2.2.1
      rw [a, b]
      simp only [Option.bind_some, reduceCtorEq, if_false, s1, if_true, s4, s5, in_nI h16 (show 16 ≤ 65536 by omega), cl_nI (show j < 2 ^ 31 by omega), rI_22 C hj, rI_58 C hj, rJ_24 C hj, rI_25 C hj, rI_26 C hj, eg]
      rw [if_neg (show ¬ (1 : Int32) = 0 by decide)]
      by_cases e : g = 0
      · rw [g0 e, if_neg (by decide), if_pos (by rw [e]; rfl)]
        exact ⟨-1, rfl, rfl⟩
      · obtain ⟨q1, q2⟩ := g1 e
        rw [q1, if_pos (by rw [← Int32.not_lt]; exact q2), if_neg (nI_ne0 (by omega) (by omega))]
        by_cases c0 : y = 0
        · exact ⟨_, by rw [if_pos c0], by rw [if_pos c0]⟩
        rw [if_neg c0]
        by_cases c1 : y = 1
        · exact ⟨_, by rw [if_pos c1], by rw [if_pos c1]⟩
        rw [if_neg c1]
        by_cases c2 : y = 2
        · exact ⟨_, by rw [if_pos c2], by rw [if_pos c2]⟩
        rw [if_neg c2]
        by_cases c3 : y = 3
        · exact ⟨_, by rw [if_pos c3], by rw [if_pos c3]⟩
        rw [if_neg c3]
        by_cases c4 : y = 4
        · exact ⟨_, by rw [if_pos c4], by rw [if_pos c4]⟩
        rw [if_neg c4]
        exact ⟨_, rfl, rfl⟩
  obtain ⟨r, e1, e2⟩ := key
  exact ⟨r, M, e1, e2, ag_rf M, inv_mo _ _ _ I⟩
theorem ok_target : Ok_target Inv_ := by
  intro n h M x hn I
  obtain ⟨A, B, ow, C, Z⟩ := id I
  have W := C.2.2.2.2
  unfold f_X3_target f_X4_target
  simp only [if_pos C.2.1.1.1]
  rcases reader_c C x with ⟨a, b⟩ | ⟨j, hj, h16, rfl, a, b⟩
  · obtain ⟨h', M', e1, e2, C', Z'⟩ := find_c C (t := 2) (by omega) (by omega)
    refine ⟨h', M', -12, M', ?_, ?_, ag_rf M', inv_mo _ _ _ ⟨A, B, ow, C', Z' Z⟩⟩
    · rw [a]
      simp only [Option.bind_some, if_true]
      rw [show (2 : Int32) = nI 2 from rfl, e1]
      rfl
    · rw [b]
      simp only [Option.bind_some, if_true]
      rw [show (2 : Int32) = nI 2 from rfl, e2]
      rfl
  · obtain ⟨s1, s2, s3, -⟩ := C.2.1.2.2.2.2.1 j hj
    obtain ⟨⟨w1, w1a, w1b⟩, -, -, -, -, -, -, -, -, w10, -⟩ := W.2.2.1 j hj
    rw [a, b]
    simp only [Option.bind_some, reduceCtorEq, if_false, s1, if_true, s3, in_nI h16 (show 16 ≤ 65536 by omega), cl_nI (show j < 2 ^ 31 by omega), w1]
    rw [if_neg (show ¬ (1 : Int32) = 0 by decide)]
    by_cases e : kD M j = 7
    · obtain ⟨t1, t2, -⟩ := w10 e
      refine ⟨h, M, m_I M 17 j, M, ?_, ?_, ag_rf M, inv_mo _ _ _ I⟩
      · simp only [e, if_true, reduceCtorEq, if_false, Option.bind_some, (C.2.1.2.2.2.1 _ t2).1, rI_60 C t2, (W.2.1 _ t2).2.2.2.2.2.1, t1]
      · rw [e, if_pos (by rfl)]
    · obtain ⟨h', M', e1, e2, C', Z'⟩ := find_c C (t := 4) (by omega) (by omega)
      refine ⟨h', M', -12, M', ?_, ?_, ag_rf M', inv_mo _ _ _ ⟨A, B, ow, C', Z' Z⟩⟩
      · rw [if_neg e, if_pos rfl, show (4 : Int32) = nI 4 from rfl, e1]
        rfl
      · rw [if_neg (by rw [eqlit (n := 7) rfl (by omega)]; exact e), show (4 : Int32) = nI 4 from rfl, e2]
        rfl
theorem ok_named : Ok_named Inv_ := by
  intro n h M x y hn I
  obtain ⟨A, B, ow, C, Z⟩ := id I
  have W := C.2.2.2.2
  unfold f_X3_named f_X4_named j_X4_named_42 j_X4_named_56 f_X1_mayName j_X1_mayName_18
  simp only [if_pos C.2.1.1.1]
  rcases reader_c C x with ⟨a, b⟩ | ⟨j, hj, h16, rfl, a, b⟩
  · obtain ⟨h', M', e1, e2, C', Z'⟩ := find_c C (t := 2) (by omega) (by omega)
    refine ⟨h', M', -12, M', ?_, ?_, ag_rf M', inv_mo _ _ _ ⟨A, B, ow, C', Z' Z⟩⟩
    · rw [a]
      simp only [Option.bind_some, if_true]
      rw [show (2 : Int32) = nI 2 from rfl, e1]
      rfl
    · rw [b]
      simp only [Option.bind_some, if_true]
      rw [show (2 : Int32) = nI 2 from rfl, e2]
      rfl
  · obtain ⟨s1, s2, s3, s4, s5, s6, s7, s8, s9, s10, s11, s12, s13, s14, -⟩ := C.2.1.2.2.2.2.1 j hj
    obtain ⟨⟨w1, w1a, w1b⟩, -, -, -, -, -, ⟨w7, w7a, -⟩, w8, -⟩ := W.2.2.1 j hj
    rw [a, b]
    simp only [Option.bind_some, reduceCtorEq, if_false, s1, if_true, s12, s13, s14, in_nI h16 (show 16 ≤ 65536 by omega), cl_nI (show j < 2 ^ 31 by omega), w1, rI_11 C hj, rI_16 C hj, w7]
    rw [if_neg (show ¬ (1 : Int32) = 0 by decide)]
    by_cases e : kD M j = 6 ∨ kD M j = 7
    · have key : ∃ r, (if y < 0 then some (h, (-1 : Int32)) else if nI (nM M j) ≤ y then some (h, -1) else if (4 : Int32) ≤ y then some (h, -1) else if in_b y 4 = true then some (h, h_I h (B j + 4) y.toNatClampNeg) else none) = some (h, r) ∧ (if y < 0 then some (M, (-1 : Int32)) else if y < nI (nM M j) then if in_b (4 * nI j + y) 64 = true then some (M, m_I M 15 (4 * nI j + y).toNatClampNeg) else none else some (M, -1)) = some (M, r) := by
        rcases pk_ix y (n := 4) (by omega) with hx | hx | ⟨q, hq, rfl⟩
        · exact ⟨-1, by rw [if_pos hx], by rw [if_pos hx]⟩
        · have z := le_tr hx (by omega) w7a
          refine ⟨-1, ?_, ?_⟩
          · rw [if_neg (lt_tr hx (by omega)), if_pos z]
          · rw [if_neg (lt_tr hx (by omega)), if_neg (by rw [Int32.not_lt]; exact z)]
        · by_cases e5 : q < nM M j
          · refine ⟨m_I M 15 (4 * j + q), ?_, ?_⟩
            · rw [if_neg (nI_pos (by omega)), if_neg (by rw [nI_leI (by omega) (by omega)]; omega), if_neg (by rw [litle (n := 4) rfl (by omega)]; omega), if_pos (in_nI hq (by omega)), cl_nI (by omega), rI_15 C hj hq]
            · rw [if_neg (nI_pos (by omega)), if_pos (by rw [nI_ltI (by omega) (by omega)]; exact e5), four_j, nI_add, if_pos (in_nI (by omega) (by omega)), cl_nI (by omega)]
          · refine ⟨-1, ?_, ?_⟩
            · rw [if_neg (nI_pos (by omega)), if_pos (by rw [nI_leI (by omega) (by omega)]; omega)]
            · rw [if_neg (nI_pos (by omega)), if_neg (by rw [nI_ltI (by omega) (by omega)]; exact e5)]
      obtain ⟨r, k1, k2⟩ := key
      refine ⟨h, M, r, M, ?_, ?_, ag_rf M, inv_mo _ _ _ I⟩
      · rcases e with e | e
        · rw [e, if_pos (by rfl)]
          exact k1
        · rw [e, if_neg (by decide), if_pos (by rfl)]
          exact k1
      · rcases e with e | e
        · rw [e, if_pos (by rfl)]
          exact k2
        · rw [e, if_neg (by decide), if_pos (by rfl)]
          exact k2
    · have e6 : ¬ nI (kD M j) = 6 := by rw [eqlit (n := 6) rfl (by omega)]; omega
      have e7 : ¬ nI (kD M j) = 7 := by rw [eqlit (n := 7) rfl (by omega)]; omega
      obtain ⟨h', M', e1, e2, C', Z'⟩ := find_c C (t := 4) (by omega) (by omega)
      refine ⟨h', M', -12, M', ?_, ?_, ag_rf M', inv_mo _ _ _ ⟨A, B, ow, C', Z' Z⟩⟩
      · rw [if_neg e6, if_neg e7]
        simp only [Option.bind_some, if_true]
        rw [show (4 : Int32) = nI 4 from rfl, e1]
        rfl
      · rw [if_neg e6, if_neg e7, show (4 : Int32) = nI 4 from rfl, e2]
        rfl
theorem ok_entry : Ok_entry Inv_ := by
  intro n h M x y hn I
  obtain ⟨A, B, ow, C, Z⟩ := id I
  have W := C.2.2.2.2
  unfold f_X3_entry f_X4_entry j_X4_entry_44
  simp only [if_pos C.2.1.1.1]
  rcases reader_c C x with ⟨a, b⟩ | ⟨j, hj, h16, rfl, a, b⟩
  · obtain ⟨h', M', e1, e2, C', Z'⟩ := find_c C (t := 2) (by omega) (by omega)
    refine ⟨h', M', -12, M', ?_, ?_, ag_rf M', inv_mo _ _ _ ⟨A, B, ow, C', Z' Z⟩⟩
    · rw [a]
      simp only [Option.bind_some, if_true]
      rw [show (2 : Int32) = nI 2 from rfl, e1]
      rfl
    · rw [b]
      simp only [Option.bind_some, if_true]
      rw [show (2 : Int32) = nI 2 from rfl, e2]
      rfl
  · obtain ⟨s1, s2, s3, s4, s5, s6, s7, s8, s9, s10, s11, s12, s13, s14, s15, s16, s17, s18, s19⟩ := C.2.1.2.2.2.2.1 j hj
    obtain ⟨⟨w1, w1a, w1b⟩, -, -, -, -, -, -, -, -, -, -, ⟨w12, w12a, -⟩, w13⟩ := W.2.2.1 j hj
    rw [a, b]
    simp only [Option.bind_some, reduceCtorEq, if_false, s1, if_true, s15, s16, in_nI h16 (show 16 ≤ 65536 by omega), cl_nI (show j < 2 ^ 31 by omega), w1, rI_11 C hj, rI_28 C hj, w12]
    rw [if_neg (show ¬ (1 : Int32) = 0 by decide)]
    by_cases e : kD M j = 4
    · obtain ⟨v1, v2, v3, v4⟩ := w13 e
      have e44 : nI (kD M j) = 4 := by rw [e]; rfl
      rw [if_pos e] at s17
      rw [if_pos e44, if_pos e44, s17]
      rcases pk_ix y (n := 32) (by omega) with hx | hx | ⟨q, hq, rfl⟩
      · exact ⟨h, M, -1, M, by rw [if_pos hx], by rw [if_pos hx], ag_rf M, inv_mo _ _ _ I⟩
      · have z := le_tr hx (by omega) w12a
        refine ⟨h, M, -1, M, ?_, ?_, ag_rf M, inv_mo _ _ _ I⟩
        · rw [if_neg (lt_tr hx (by omega)), if_pos z]
        · rw [if_neg (lt_tr hx (by omega)), if_neg (by rw [Int32.not_lt]; exact z)]
      · by_cases e5 : q < eM M j
        · have sg := (v1 q hq).2
          refine ⟨h, M, m_I M 31 (32 * j + q), M, ?_, ?_, ag_rf M, inv_mo _ _ _ I⟩
          · rw [if_neg (nI_pos (by omega)), if_neg (by rw [nI_leI (by omega) (by omega)]; omega), if_neg (by rw [nI_leI (by omega) (by omega)]; omega), if_pos (in_nI hq (by omega)), cl_nI (by omega), s18 e q hq]
            simp only [Option.bind_some, (s19 e _ sg).1, if_true, rI_62 C hj e sg, (v3 q e5).2.1]
          · rw [if_neg (nI_pos (by omega)), if_pos (by rw [nI_ltI (by omega) (by omega)]; exact e5), show (32 : Int32) * nI j = nI (32 * j) from pk_mul 32 j, nI_add, if_pos (in_nI (by omega) (by omega)), cl_nI (by omega)]
        · refine ⟨h, M, -1, M, ?_, ?_, ag_rf M, inv_mo _ _ _ I⟩
          · rw [if_neg (nI_pos (by omega)), if_pos (by rw [nI_leI (by omega) (by omega)]; omega)]
          · rw [if_neg (nI_pos (by omega)), if_neg (by rw [nI_ltI (by omega) (by omega)]; exact e5)]
    · obtain ⟨h', M', e1, e2, C', Z'⟩ := find_c C (t := 4) (by omega) (by omega)
      have e4 : ¬ nI (kD M j) = 4 := by rw [eqlit (n := 4) rfl (by omega)]; exact e
      refine ⟨h', M', -12, M', ?_, ?_, ag_rf M', inv_mo _ _ _ ⟨A, B, ow, C', Z' Z⟩⟩
      · rw [if_neg e4, show (4 : Int32) = nI 4 from rfl, e1]
        rfl
      · rw [if_neg e4, show (4 : Int32) = nI 4 from rfl, e2]
        rfl
theorem ok_of : Ok_of Inv_ := by
  intro n h M x y hn I
  obtain ⟨A, B, ow, C, Z⟩ := id I
  have W := C.2.2.2.2
  unfold f_X3_of f_X4_of
  simp only [if_pos C.2.1.1.1]
  by_cases y0 : y < 0
  · exact ⟨h, M, -1, M, by rw [if_pos y0], by rw [if_pos y0], ag_rf M, inv_mo _ _ _ I⟩
  · by_cases y8 : y ≤ 8
    · rw [if_neg y0, if_neg y0, if_pos y8, if_pos y8]
      rcases reader_c C x with ⟨a, b⟩ | ⟨j, hj, h16, rfl, a, b⟩
      · obtain ⟨h', M', e1, e2, C', Z'⟩ := find_c C (t := 2) (by omega) (by omega)
        refine ⟨h', M', -12, M', ?_, ?_, ag_rf M', inv_mo _ _ _ ⟨A, B, ow, C', Z' Z⟩⟩
        · rw [a]
          simp only [Option.bind_some, if_true]
          rw [show (2 : Int32) = nI 2 from rfl, e1]
          rfl
        · rw [b]
          simp only [Option.bind_some, if_true]
          rw [show (2 : Int32) = nI 2 from rfl, e2]
          rfl
      · obtain ⟨s1, s2, -⟩ := C.2.1.2.2.2.2.1 j hj
        obtain ⟨⟨w1, w1a, w1b⟩, ⟨-, w2a, -⟩, w3, -⟩ := W.2.2.1 j hj
        obtain ⟨g1, g2, -⟩ := w3 0 (by omega)
        have h8 := W.1.2.1
        have key : ∃ r, (∀ z : Int32, z = r → True) ∧ True := ⟨0, fun _ _ => trivial, trivial⟩
        rw [a, b]
        simp only [Option.bind_some, reduceCtorEq, if_false, s1, s2, if_true, four_j, in_nI h16 (show 16 ≤ 65536 by omega), in_nI (show 4 * j < 64 by omega) (show 64 ≤ 65536 by omega), cl_nI (show j < 2 ^ 31 by omega), cl_nI (show 4 * j < 2 ^ 31 by omega), (C.2.1.2.2.2.1 _ g2).1, rI_60 C g2, (W.2.1 _ g2).2.2.2.2.2.1, rI_11 C hj, rI_18 C hj, rI_19 C hj, rI_20 C hj, rI_28 C hj, rI_16 C hj, rI_21 C hj, placeIn1 C hj (show rG M j 0 < 8 by omega), show m_I M 12 (4 * j) = nI (rG M j 0) from g1, placeIn4 W hj (show rG M j 0 < 8 by omega)]
        rw [if_neg (show ¬ (1 : Int32) = 0 by decide)]
        by_cases c0 : y = 0
        · exact ⟨h, M, _, M, by rw [if_pos c0], by rw [if_pos c0], ag_rf M, inv_mo _ _ _ I⟩
        rw [if_neg c0, if_neg c0]
        by_cases c1 : y = 1
        · exact ⟨h, M, _, M, by rw [if_pos c1], by rw [if_pos c1], ag_rf M, inv_mo _ _ _ I⟩
        rw [if_neg c1, if_neg c1]
        by_cases c2 : y = 2
        · exact ⟨h, M, _, M, by rw [if_pos c2], by rw [if_pos c2], ag_rf M, inv_mo _ _ _ I⟩
        rw [if_neg c2, if_neg c2]
        by_cases c3 : y = 3
        · exact ⟨h, M, _, M, by rw [if_pos c3], by rw [if_pos c3], ag_rf M, inv_mo _ _ _ I⟩
        rw [if_neg c3, if_neg c3]
        by_cases c4 : y = 4
        · exact ⟨h, M, _, M, by rw [if_pos c4], by rw [if_pos c4], ag_rf M, inv_mo _ _ _ I⟩
        rw [if_neg c4, if_neg c4]
        by_cases c5 : y = 5
        · exact ⟨h, M, _, M, by rw [if_pos c5], by rw [if_pos c5], ag_rf M, inv_mo _ _ _ I⟩
        rw [if_neg c5, if_neg c5]
        by_cases c6 : y = 6
        · exact ⟨h, M, _, M, by rw [if_pos c6], by rw [if_pos c6], ag_rf M, inv_mo _ _ _ I⟩
        rw [if_neg c6, if_neg c6]
        by_cases c7 : y = 7
        · exact ⟨h, M, _, M, by rw [if_pos c7], by rw [if_pos c7], ag_rf M, inv_mo _ _ _ I⟩
        rw [if_neg c7, if_neg c7]
        exact ⟨h, M, _, M, rfl, rfl, ag_rf M, inv_mo _ _ _ I⟩
    · exact ⟨h, M, -1, M, by rw [if_neg y0, if_neg y8], by rw [if_neg y0, if_neg y8], ag_rf M, inv_mo _ _ _ I⟩
