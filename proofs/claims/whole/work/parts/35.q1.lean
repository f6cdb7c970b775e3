/-! the calls that only ask -/
theorem ok_made : Ok_made Inv_ := by
  intro n h M hn I
  obtain ⟨A, B, ow, C, Z⟩ := id I
  refine ⟨m_I M 35 0, M, ?_, rfl, ag_rf M, inv_mo _ _ _ I⟩
  unfold f_X3_made
  rw [if_pos C.2.1.1.1, rI_35 C]
theorem ok_by : Ok_by Inv_ := by
  intro n h M hn I
  obtain ⟨A, B, ow, C, Z⟩ := id I
  refine ⟨m_I M 36 0, M, ?_, rfl, ag_rf M, inv_mo _ _ _ I⟩
  unfold f_X3_by
  rw [if_pos C.2.1.1.1, rI_36 C]
theorem ok_circle : Ok_circle Inv_ := by
  intro n h M x hn I
  obtain ⟨A, B, ow, C, Z⟩ := id I
  obtain ⟨k0, r0, r1, r2, r3, k1, n1, k2, n2, k3, n3, k4, n4⟩ := C.2.1.1
  obtain ⟨w, hw, ew⟩ := C.2.2.2.2.1.2.2.2.2.2.2
  have key : ∃ r, f_X3_circle h 0 x = some r ∧ f_X4_circle M x = some r := by
    unfold f_X3_circle f_X4_circle j_X4_circle_12
    rw [rI_40 C, ew, r3]
    rcases pk_ix x (n := 16) (by omega) with hx | hx | ⟨i, hi, rfl⟩
    · exact ⟨-1, by rw [if_pos hx], by rw [if_pos hx]⟩
    · refine ⟨-1, ?_, ?_⟩
      · rw [if_neg (lt_tr hx (by omega)), if_pos k0, if_pos (le_tr hx (by omega) hw)]
      · have := le_tr hx (by omega) hw
        rw [if_neg (lt_tr hx (by omega)), if_neg (by rw [Int32.not_lt]; exact this)]
    · by_cases e : i < w
      · refine ⟨m_I M 39 i, ?_, ?_⟩
        · rw [if_neg (nI_pos (by omega)), if_pos k0, if_neg (by rw [nI_leI (by omega) (by omega)]; omega)]
          simp only [Option.bind_some, k4, n4, if_true, in_nI hi (show 16 ≤ 65536 by omega), cl_nI (show i < 2 ^ 31 by omega), rI_39 C hi]
          rw [if_neg (by rw [nI_leI (by omega) (by omega)]; omega)]
        · rw [if_neg (nI_pos (by omega)), if_pos (by rw [nI_ltI (by omega) (by omega)]; omega), if_pos (in_nI (by omega) (by omega)), cl_nI (by omega)]
      · refine ⟨-1, ?_, ?_⟩
        · rw [if_neg (nI_pos (by omega)), if_pos k0, if_pos (by rw [nI_leI (by omega) (by omega)]; omega)]
        · rw [if_neg (nI_pos (by omega)), if_neg (by rw [nI_ltI (by omega) (by omega)]; omega)]
  obtain ⟨r, e1, e2⟩ := key
  exact ⟨r, M, e1, e2, ag_rf M, inv_mo _ _ _ I⟩
theorem ok_last : Ok_last Inv_ := by
  intro n h M x hn I
  obtain ⟨A, B, ow, C, Z⟩ := id I
  have key : ∃ r, f_X3_last h 0 x = some r ∧ f_X4_last M x = some r := by
    unfold f_X3_last f_X4_last
    rw [if_pos C.2.1.1.1]
    rcases ring_c C x with ⟨a, b⟩ | ⟨r, hr, h8, rfl, a, b⟩
    · rw [a, b]
      exact ⟨0, rfl, rfl⟩
    · rw [a, b]
      refine ⟨m_J M 4 r, ?_, ?_⟩
      · simp only [Option.bind_some, reduceCtorEq, if_false, (C.2.1.2.2.2.1 r hr).1, if_true, rJ_4 C hr]
      · simp only [Option.bind_some]
        rw [if_neg (by decide), if_pos (in_nI h8 (by omega)), cl_nI (by omega)]
  obtain ⟨r, e1, e2⟩ := key
  exact ⟨r, M, e1, e2, ag_rf M, inv_mo _ _ _ I⟩
theorem ok_found : Ok_found Inv_ := by
  intro n h M x hn I
  obtain ⟨A, B, ow, C, Z⟩ := id I
  obtain ⟨k0, r0, r1, r2, r3, k1, n1, k2, n2, k3, n3, k4, n4⟩ := C.2.1.1
  have key : ∃ r, f_X3_found h 0 x = some r ∧ f_X4_found M x = some r := by
    unfold f_X3_found f_X4_found
    unfold j_X4_found_10
    rcases pk_ix x (n := 7) (by omega) with hx | hx | ⟨i, hi, rfl⟩
    · have z0 : ¬ x = 0 := fun q => by rw [q] at hx; exact absurd hx (by decide)
      have z1 : x < 1 := by
        rw [Int32.lt_iff_toInt_lt] at hx ⊢
        have : (0 : Int32).toInt = 0 := rfl
        have : (1 : Int32).toInt = 1 := rfl
        omega
      refine ⟨-1, ?_, ?_⟩
      · simp [z0, z1]
      · simp [hx]
    · have hx' := hx
      rw [Int32.le_iff_toInt_le, nI_toInt (by omega)] at hx
      have z0 : ¬ x = 0 := fun q => by rw [q] at hx; have : (0 : Int32).toInt = 0 := rfl; omega
      have z1 : ¬ x < 1 := by rw [Int32.lt_iff_toInt_lt]; have : (1 : Int32).toInt = 1 := rfl; omega
      have z6 : 6 < x := by rw [Int32.lt_iff_toInt_lt]; have : (6 : Int32).toInt = 6 := rfl; omega
      have z6' : ¬ x ≤ 6 := by rw [Int32.le_iff_toInt_le]; have : (6 : Int32).toInt = 6 := rfl; omega
      refine ⟨-1, ?_, ?_⟩
      · simp [z0, z1, z6, z6']
      · simp [lt_tr hx' (by omega), z6, z6']
    · refine ⟨m_I M 38 i, ?_, ?_⟩
      · by_cases e : i = 0
        · subst e
          rw [if_pos (by rfl), if_pos k0, rI_38z C]
        · have z0 : ¬ nI i = 0 := nI_ne0 (by omega) (by omega)
          have z1 : ¬ nI i < 1 := by rw [ltlit (n := 1) rfl (by omega)]; omega
          have z6 : ¬ 6 < nI i := by rw [litlt (n := 6) rfl (by omega)]; omega
          have z6' : nI i ≤ 6 := by rw [lelit (n := 6) rfl (by omega)]; omega
          simp only [z0, z1, z6, z6', if_false, if_true, k0, r2, Option.bind_some, k3, n3, in_nI hi (show 7 ≤ 65536 by omega), cl_nI (show i < 2 ^ 31 by omega), rI_38 C hi e]
      · have z6 : ¬ 6 < nI i := by rw [litlt (n := 6) rfl (by omega)]; omega
        have z6' : nI i ≤ 6 := by rw [lelit (n := 6) rfl (by omega)]; omega
        simp only [nI_pos (show i < 2 ^ 31 by omega), z6, z6', if_false, if_true, in_nI hi (show 7 ≤ 65536 by omega), cl_nI (show i < 2 ^ 31 by omega)]
  obtain ⟨r, e1, e2⟩ := key
  exact ⟨r, M, e1, e2, ag_rf M, inv_mo _ _ _ I⟩
theorem ok_place : Ok_place Inv_ := by
  intro n h M x y hn I
  obtain ⟨A, B, ow, C, Z⟩ := id I
  have W := C.2.2.2.2
  have key : ∃ r, f_X3_place h 0 x y = some r ∧ f_X4_place M x y = some r := by
    unfold f_X3_place f_X3_placeOf f_X4_place
    simp only [if_pos C.2.1.1.1]
    rcases reader_c C x with ⟨a, b⟩ | ⟨j, hj, h16, rfl, a, b⟩
    · rw [a, b]
      exact ⟨-1, rfl, rfl⟩
    · rw [a, b]
      simp only [Option.bind_some, reduceCtorEq, if_false, (C.2.1.2.2.2.2.1 j hj).1, if_true]
      rcases ring_c C y with ⟨c, d⟩ | ⟨r, hr, h8, rfl, c, d⟩
      · rw [d]
        refine ⟨-1, ?_, ?_⟩
        · rcases pk_ix y (n := 8) (by omega) with hx | hx | ⟨q, hq, rfl⟩
          · unfold f_X1_placeIn
            rw [if_pos hx]
            rfl
          · unfold f_X1_placeIn
            rw [if_neg (lt_tr hx (by omega)), if_pos (by exact hx)]
            rfl
          · rw [placeIn1 C hj hq]
            have hno : ¬ q < nR M := fun z => by
              rw [ringAt_nI C hq, if_pos z] at c
              cases c
            rcases pC_or W hj hq with ⟨p1, -⟩ | ⟨-, -, k, hk, hkq, -⟩
            · rw [p1]
              rfl
            · exact absurd (W.2.2.1 j hj).2.2.1 (fun z => hno (by rw [← hkq]; exact (z k hk).2.1))
        · rfl
      · rw [d]
        refine ⟨pC M j r, ?_, ?_⟩
        · rw [placeIn1 C hj h8]
          rfl
        · simp only [Option.bind_some]
          rw [if_neg (by decide), if_neg (by decide), placeIn4 W hj h8]
          rfl
  obtain ⟨r, e1, e2⟩ := key
  exact ⟨r, M, e1, e2, ag_rf M, inv_mo _ _ _ I⟩
theorem ok_word : Ok_word Inv_ := by
  intro n h M x y hn I
  obtain ⟨A, B, ow, C, Z⟩ := id I
  have W := C.2.2.2.2
  have key : ∃ r, f_X3_word h 0 x y = some r ∧ f_X4_word M x y = some r := by
    unfold f_X3_word f_X4_word j_X3_word_20
    simp only [if_pos C.2.1.1.1]
    rcases reader_c C x with ⟨a, b⟩ | ⟨j, hj, h16, rfl, a, b⟩
    · rw [a, b]
      exact ⟨0, rfl, rfl⟩
    · obtain ⟨s1, s2, s3, s4, s5, s6, s7, s8, -⟩ := C.2.1.2.2.2.2.1 j hj
      rw [a, b]
      simp only [Option.bind_some, reduceCtorEq, if_false, s1, if_true, s4, s5, s6, s7, s8]
      rcases pk_ix y (n := 8) (by omega) with hx | hx | ⟨q, hq, rfl⟩
      · exact ⟨0, by simp [hx], by simp [hx]⟩
      · have z : ¬ y < 8 := by rw [Int32.not_lt]; exact hx
        have z' : (8 : Int32) ≤ y := hx
        exact ⟨0, by simp [lt_tr hx (by omega), z, z'], by simp [lt_tr hx (by omega), z, z']⟩
      · have z : nI q < 8 := by rw [ltlit (n := 8) rfl (by omega)]; exact hq
        have z' : ¬ (8 : Int32) ≤ nI q := by rw [litle (n := 8) rfl (by omega)]; omega
        have e8 : ((8 : Int32) * nI j) + nI q = nI (8 * j + q) := by rw [show (8 : Int32) = nI 8 from rfl, pk_mul, nI_add]
        refine ⟨m_J M 27 (8 * j + q), ?_, ?_⟩
        · simp only [nI_pos (show q < 2 ^ 31 by omega), z, z', if_false, if_true, in_nI hq (show 8 ≤ 65536 by omega), cl_nI (show q < 2 ^ 31 by omega), rJ_27 C hj hq]
        · simp only [nI_pos (show q < 2 ^ 31 by omega), z, z', if_false, if_true, e8, in_nI (show 8 * j + q < 128 by omega) (show 128 ≤ 65536 by omega), cl_nI (show 8 * j + q < 2 ^ 31 by omega)]
          simp
  obtain ⟨r, e1, e2⟩ := key
  exact ⟨r, M, e1, e2, ag_rf M, inv_mo _ _ _ I⟩
