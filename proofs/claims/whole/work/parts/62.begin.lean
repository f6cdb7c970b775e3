/-! the start holds -/
theorem m1_I {f i : Nat} : m_I M_1 f i = if f = 36 ∧ i = 0 then -1 else 0 := by
  unfold M_1
  rw [nI_at]
  rfl
theorem m1_J {f i : Nat} : m_J M_1 f i = 0 := rfl
theorem m1_R : nR M_1 = 0 := by
  unfold nR
  rw [m1_I]
  rfl
theorem m1_D : nD M_1 = 0 := by
  unfold nD
  rw [m1_I]
  rfl
theorem h3_k {a : Nat} (ha : a < 5) : h_k h_3 a = h_k h_2 a := by rw [h_3, gh_k, if_neg (by omega)]
theorem h3_n : h_n h_3 = h_n h_2 := by rw [h_3, gh_n]
theorem h3_I : h_I h_3 = h_I h_2 := by rw [h_3, gh_I]
theorem h3_R : h_R h_3 = h_R h_2 := by rw [h_3, gh_R]
set_option maxRecDepth 100000 in
theorem S0_1 : S0_ h_3 := by
  unfold S0_
  rw [h3_k (by omega), h3_k (by omega), h3_k (by omega), h3_k (by omega), h3_k (by omega), h3_n, h3_R, h_2_kind, h_2_n, h_2_R]
  exact ⟨rfl, rfl, rfl, rfl, rfl, rfl, rfl, rfl, rfl, rfl, rfl, rfl, rfl⟩
set_option maxRecDepth 100000 in
theorem h3_R1 (r : Nat) : h_R h_3 1 r = none := by
  rw [h3_R, h_2_R]
  rfl
set_option maxRecDepth 100000 in
theorem h3_R2 (r : Nat) : h_R h_3 2 r = none := by
  rw [h3_R, h_2_R]
  rfl
set_option maxRecDepth 100000 in
theorem h3_I3 (r : Nat) : h_I h_3 3 r = 0 := by
  rw [h3_I, h_2_I]
  rfl
set_option maxRecDepth 100000 in
theorem h3_I4 (r : Nat) : h_I h_3 4 r = 0 := by
  rw [h3_I, h_2_I]
  rfl
set_option maxRecDepth 100000 in
theorem h3_I0 : h_I h_3 0 4 = 0 ∧ h_I h_3 0 5 = 0 ∧ h_I h_3 0 6 = 0 ∧ h_I h_3 0 7 = 0 ∧ h_I h_3 0 8 = 0 ∧ h_I h_3 0 9 = 0 ∧ h_I h_3 0 10 = -1 ∧ h_I h_3 0 11 = 0 := by
  rw [h3_I, h_2_I]
  exact ⟨rfl, rfl, rfl, rfl, rfl, rfl, rfl, rfl⟩
theorem RI_1 {A B : Nat → Nat} : RI_ A B h_3 M_1 := by
  obtain ⟨i4, i5, i6, i7, i8, i9, i10, i11⟩ := h3_I0
  intro f i hok
  unfold okI at hok
  rw [m1_R, m1_D] at hok
  rw [m1_I]
  split at hok
  all_goals first
    | exact absurd hok (by omega)
    | exact absurd hok.1 (by omega)
    | (subst hok
       first
         | exact i4
         | exact i5
         | exact i6
         | exact i8
         | exact i9
         | exact i10
         | exact i11)
    | (rw [if_neg (by omega)]
       first
         | exact h3_I4 i
         | (by_cases c : i = 0
            · subst c
              exact i7
            · simp only [adI, plI, if_neg c]
              exact h3_I3 i))
    | exact absurd hok (fun z => z)
theorem inv_st : Inv_ 0 h_3 M_1 := by
  refine ⟨fun _ => 0, fun _ => 0, fun _ => 0, ⟨⟨fun _ _ => rfl, fun r hr => ?_, fun j hj => ?_, by rw [m1_R]; omega⟩, ⟨S0_1, fun r hr => ?_, fun j hj => ?_, fun r hr => ?_, fun j hj => ?_, h_3_MR, fun r hr => ?_, fun j hj => ?_⟩, RI_1, fun f i hok => ?_, ?_, fun r hr => ?_, fun j hj => ?_, fun i t => ?_, fun _ r hr => ?_, fun j hj => ?_⟩, fun _ => ⟨fun g hg i => ?_, fun g hg i => rfl, fun j hj => ?_, fun i hi => ?_⟩⟩
  · rw [m1_R] at hr
    omega
  · rw [m1_D] at hj
    omega
  · rw [h3_R1, m1_R, if_neg (by omega)]
  · rw [h3_R2, m1_D, if_neg (by omega)]
  · rw [m1_R] at hr
    omega
  · rw [m1_D] at hj
    omega
  · rw [m1_R] at hr
    omega
  · rw [m1_D] at hj
    omega
  · unfold okJ at hok
    rw [m1_R, m1_D] at hok
    split at hok
    all_goals first
      | exact absurd hok (by omega)
      | exact absurd hok.1 (by omega)
      | exact absurd hok (fun z => z)
  · refine ⟨?_, by rw [m1_R]; omega, ?_, by rw [m1_D]; omega, Or.inl ?_, Or.inl ?_, 0, by omega, ?_⟩
    · rw [m1_R, m1_I]
      rfl
    · rw [m1_D, m1_I]
      rfl
    · rw [m1_I]
      rfl
    · rw [m1_I]
      rfl
    · rw [m1_I]
      rfl
  · rw [m1_R] at hr
    omega
  · rw [m1_D] at hj
    omega
  · have : ∀ a b, ¬ Nm_ M_1 a b := fun a b e => by
      have := e.1
      rw [m1_D] at this
      omega
    cases t with
    | single e => exact this _ _ e
    | tail _ e => exact this _ _ e
  · rw [m1_R] at hr
    omega
  · rw [m1_D] at hj
    omega
  · rw [m1_I, if_neg (by omega)]
  · rw [m1_I, if_neg (by omega)]
  · rw [m1_I, if_neg (by omega)]
theorem oks_ : Oks_ Inv_ := ⟨ok_ring, ok_reader, ok_join, ok_name, ok_circle, ok_begin, ok_made, ok_claim, ok_batch, ok_by, ok_again, ok_fill, ok_copy, ok_publish, ok_close, ok_give, ok_told, ok_last, ok_read, ok_round, ok_got, ok_word, ok_of, ok_place, ok_named, ok_entry, ok_target, ok_why, ok_on, ok_stuck, ok_found⟩
theorem whole_start {p : Program} {e : Env} {s : State} {m : MethodId} {below : List Frame} {meth : Method} {c : Code} (l : Launch) {b L : Nat} {xs : Nat → Int32} (hL : L ≤ 3072) (C0 : lw_At p s m meth c b L xs) : W p l e room_1 s m #[Value.ref b] below meth c s.heap [] 0 0 (lw_Z below #[Value.ref b] s) (entryFrame m ([Value.ref b] : List Value).toArray 4) := whole_of Inv_ inv_0 inv_mo oks_ inv_st l hL C0
