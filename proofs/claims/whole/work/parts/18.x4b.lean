abbrev rm_X4_isKept : Room := { frames := 0, cells := 0, slots := 0, locals := 0 }
def f_X4_isKept (M : Msx) (x1 : Int32) (x2 : Int32) : Option (Int32) :=
  (if in_b x1 8 = true then
  (if (2 : Int32) ≤ (m_I M 3 x1.toNatClampNeg) then
  some (0 : Int32)
  else (if x2 < 0 then
  some (0 : Int32)
  else (if in_b x1 8 = true then
  (if (m_I M 2 x1.toNatClampNeg) ≤ x2 then
  some (0 : Int32)
  else (if in_b x1 8 = true then
  (if x2 < ((m_I M 2 x1.toNatClampNeg) - (m_I M 1 x1.toNatClampNeg)) then
  some (0 : Int32)
  else some (1 : Int32)) else none)) else none))) else none)
set_option maxHeartbeats 4000000 in
theorem q_X4_isKept_0 {v : Evx} {g : Gvx} {h : Hpx} {r : Int32} (X : Cx_ v g cX4_isKept 3 RX4 "isKept" ((some .boolean)) rm_X4_isKept) (hMR : MR_ h) (M : Msx) (hF : Fi_ v g rm_X4_isKept (some (v_I r)) h M) (x1 : Int32) (x2 : Int32) (hm : f_X4_isKept M x1 x2 = some r) : At_ v g 3 h M 0 0 0 [(0, v_R (some 5)), (1, v_I x1), (2, v_I x2)] [] := by
  unfold f_X4_isKept at hm
  refine a_aload_n X dX4_isKept_0 rfl ?_
  refine a_mgetA X hMR 3 (by decide) rfl rfl fl_X4_16 dX4_isKept_1 ?_
  refine a_iload_n X dX4_isKept_4 rfl ?_
  obtain ⟨b21, hm⟩ := i_c hm
  refine a_maldI X hMR 3 (by decide) rfl rfl rfl b21 dX4_isKept_5 ?_
  refine a_iconst (x := 2) X dX4_isKept_6 (by decide) ?_
  refine a_icmp_ge (tgt := 45) X dX4_isKept_7 (by decide) hm (fun c22 hm => ?_) (fun c22 hm => ?_)
  · refine a_iconst (x := 0) X dX4_isKept_45 (by decide) ?_
    exact a_zret X hF (Or.inl rfl) ⟨rfl, rfl, Option.some.inj hm⟩ (by decide) dX4_isKept_46
  · refine a_iload_n X dX4_isKept_10 rfl ?_
    refine a_if_lt (tgt := 45) X dX4_isKept_11 (by decide) hm (fun c23 hm => ?_) (fun c23 hm => ?_)
    · refine a_iconst (x := 0) X dX4_isKept_45 (by decide) ?_
      exact a_zret X hF (Or.inl rfl) ⟨rfl, rfl, Option.some.inj hm⟩ (by decide) dX4_isKept_46
    · refine a_iload_n X dX4_isKept_14 rfl ?_
      refine a_aload_n X dX4_isKept_15 rfl ?_
      refine a_mgetA X hMR 2 (by decide) rfl rfl fl_X4_13 dX4_isKept_16 ?_
      refine a_iload_n X dX4_isKept_19 rfl ?_
      obtain ⟨b24, hm⟩ := i_c hm
      refine a_maldI X hMR 2 (by decide) rfl rfl rfl b24 dX4_isKept_20 ?_
      refine a_icmp_ge (tgt := 45) X dX4_isKept_21 (by decide) hm (fun c25 hm => ?_) (fun c25 hm => ?_)
      · refine a_iconst (x := 0) X dX4_isKept_45 (by decide) ?_
        exact a_zret X hF (Or.inl rfl) ⟨rfl, rfl, Option.some.inj hm⟩ (by decide) dX4_isKept_46
      · refine a_iload_n X dX4_isKept_24 rfl ?_
        refine a_aload_n X dX4_isKept_25 rfl ?_
        refine a_mgetA X hMR 2 (by decide) rfl rfl fl_X4_13 dX4_isKept_26 ?_
        refine a_iload_n X dX4_isKept_29 rfl ?_
        refine a_maldI X hMR 2 (by decide) rfl rfl rfl b24 dX4_isKept_30 ?_
        refine a_aload_n X dX4_isKept_31 rfl ?_
        refine a_mgetA X hMR 1 (by decide) rfl rfl fl_X4_7 dX4_isKept_32 ?_
        refine a_iload_n X dX4_isKept_35 rfl ?_
        obtain ⟨b26, hm⟩ := i_c hm
        refine a_maldI X hMR 1 (by decide) rfl rfl rfl b26 dX4_isKept_36 ?_
        refine a_isub X dX4_isKept_37 ?_
        refine a_icmp_lt (tgt := 45) X dX4_isKept_38 (by decide) hm (fun c27 hm => ?_) (fun c27 hm => ?_)
        · refine a_iconst (x := 0) X dX4_isKept_45 (by decide) ?_
          exact a_zret X hF (Or.inl rfl) ⟨rfl, rfl, Option.some.inj hm⟩ (by decide) dX4_isKept_46
        · refine a_iconst (x := 1) X dX4_isKept_41 (by decide) ?_
          refine a_goto (tgt := 46) X dX4_isKept_42 (by decide) ?_
          exact a_zret X hF (Or.inr rfl) ⟨rfl, rfl, Option.some.inj hm⟩ (by decide) dX4_isKept_46
theorem c_X4_isKept {l : Launch} {g : Gvx} {h : Hpx} {M : Msx} {r : Int32} {x1 : Int32} {x2 : Int32} (hMR : MR_ h) (hm : f_X4_isKept M x1 x2 = some r) : Mt_ l g yX4_isKept cX4_isKept 3 ((some .boolean)) rm_X4_isKept [v_R (some 5), v_I x1, v_I x2] h M (some (v_I r)) h M := mt_of (by decide) (Nat.le_of_ble_eq_true rfl) (fun v _ X hF => q_X4_isKept_0 X hMR M hF x1 x2 hm)
theorem yv_X4_isKept : Yv_ yX4_isKept cX4_isKept 3 ((some .boolean)) 2 4 := ⟨rfl, by decide, ⟨by decide, by decide, by decide +kernel⟩, co_X4_isKept, im_X4_isKept, se_X4_isKept, ini_X4⟩

abbrev rm_X4_isOpen : Room := { frames := 1, cells := 0, slots := 0, locals := 22 }
def f_X4_isOpen (M : Msx) (x1 : Int32) (x2 : Int32) : Option (Int32) :=
  (f_X4_isKept M x1 x2).bind fun r22 =>
  (if r22 = 0 then
  some (0 : Int32)
  else (f_X4_slot M x1 x2).bind fun r25 =>
  (if in_b r25 512 = true then
  (if (m_I M 5 r25.toNatClampNeg) = 0 then
  some (0 : Int32)
  else some (1 : Int32)) else none))
set_option maxHeartbeats 4000000 in
theorem q_X4_isOpen_0 {v : Evx} {g : Gvx} {h : Hpx} {r : Int32} (X : Cx_ v g cX4_isOpen 3 RX4 "isOpen" ((some .boolean)) rm_X4_isOpen) (hMR : MR_ h) (M : Msx) (hF : Fi_ v g rm_X4_isOpen (some (v_I r)) h M) (x1 : Int32) (x2 : Int32) (hm : f_X4_isOpen M x1 x2 = some r) : At_ v g 3 h M 0 0 0 [(0, v_R (some 5)), (1, v_I x1), (2, v_I x2)] [] := by
  unfold f_X4_isOpen at hm
  refine a_aload_n X dX4_isOpen_0 rfl ?_
  refine a_iload_n X dX4_isOpen_1 rfl ?_
  refine a_iload_n X dX4_isOpen_2 rfl ?_
  obtain ⟨r22, q21, hm⟩ := i_b hm
  refine a_callV (k' := 0) (n' := 0) (st := []) X (c_X4_isKept hMR q21) yv_X4_isKept ml_X4_168 rfl (Or.inr (mr5_ hMR)) ⟨by decide, by decide, by decide, by decide, Nat.le_of_ble_eq_true rfl⟩ rfl rfl dX4_isOpen_3 rfl rfl ?_
  show At_ v g 3 h M 0 0 6 [(0, v_R (some 5)), (1, v_I x1), (2, v_I x2)] [v_I r22]
  refine a_if_eq (tgt := 27) X dX4_isOpen_6 (by decide) hm (fun c23 hm => ?_) (fun c23 hm => ?_)
  · refine a_iconst (x := 0) X dX4_isOpen_27 (by decide) ?_
    exact a_zret X hF (Or.inl rfl) ⟨rfl, rfl, Option.some.inj hm⟩ (by decide) dX4_isOpen_28
  · refine a_aload_n X dX4_isOpen_9 rfl ?_
    refine a_mgetA X hMR 5 (by decide) rfl rfl fl_X4_23 dX4_isOpen_10 ?_
    refine a_aload_n X dX4_isOpen_13 rfl ?_
    refine a_iload_n X dX4_isOpen_14 rfl ?_
    refine a_iload_n X dX4_isOpen_15 rfl ?_
    obtain ⟨r25, q24, hm⟩ := i_b hm
    refine a_callV (k' := 0) (n' := 0) (st := [v_R (some 10)]) X (c_X4_slot hMR q24) yv_X4_slot ml_X4_171 rfl (Or.inr (mr5_ hMR)) ⟨by decide, by decide, by decide, by decide, Nat.le_of_ble_eq_true rfl⟩ rfl rfl dX4_isOpen_16 rfl rfl ?_
    show At_ v g 3 h M 0 0 19 [(0, v_R (some 5)), (1, v_I x1), (2, v_I x2)] [v_I r25, v_R (some 10)]
    obtain ⟨b26, hm⟩ := i_c hm
    refine a_maldZ X hMR 5 (by decide) rfl rfl rfl b26 dX4_isOpen_19 ?_
    refine a_if_eq (tgt := 27) X dX4_isOpen_20 (by decide) hm (fun c27 hm => ?_) (fun c27 hm => ?_)
    · refine a_iconst (x := 0) X dX4_isOpen_27 (by decide) ?_
      exact a_zret X hF (Or.inl rfl) ⟨rfl, rfl, Option.some.inj hm⟩ (by decide) dX4_isOpen_28
    · refine a_iconst (x := 1) X dX4_isOpen_23 (by decide) ?_
      refine a_goto (tgt := 28) X dX4_isOpen_24 (by decide) ?_
      exact a_zret X hF (Or.inr rfl) ⟨rfl, rfl, Option.some.inj hm⟩ (by decide) dX4_isOpen_28
theorem c_X4_isOpen {l : Launch} {g : Gvx} {h : Hpx} {M : Msx} {r : Int32} {x1 : Int32} {x2 : Int32} (hMR : MR_ h) (hm : f_X4_isOpen M x1 x2 = some r) : Mt_ l g yX4_isOpen cX4_isOpen 3 ((some .boolean)) rm_X4_isOpen [v_R (some 5), v_I x1, v_I x2] h M (some (v_I r)) h M := mt_of (by decide) (Nat.le_of_ble_eq_true rfl) (fun v _ X hF => q_X4_isOpen_0 X hMR M hF x1 x2 hm)
theorem yv_X4_isOpen : Yv_ yX4_isOpen cX4_isOpen 3 ((some .boolean)) 2 4 := ⟨rfl, by decide, ⟨by decide, by decide, by decide +kernel⟩, co_X4_isOpen, im_X4_isOpen, se_X4_isOpen, ini_X4⟩

abbrev rm_X4_isPublished : Room := { frames := 1, cells := 0, slots := 0, locals := 22 }
def f_X4_isPublished (M : Msx) (x1 : Int32) (x2 : Int32) : Option (Int32) :=
  (f_X4_isKept M x1 x2).bind fun r22 =>
  (if r22 = 0 then
  some (0 : Int32)
  else (f_X4_slot M x1 x2).bind fun r25 =>
  (if in_b r25 512 = true then
  (if (m_I M 5 r25.toNatClampNeg) = 0 then
  some (1 : Int32)
  else some (0 : Int32)) else none))
set_option maxHeartbeats 4000000 in
theorem q_X4_isPublished_0 {v : Evx} {g : Gvx} {h : Hpx} {r : Int32} (X : Cx_ v g cX4_isPublished 3 RX4 "isPublished" ((some .boolean)) rm_X4_isPublished) (hMR : MR_ h) (M : Msx) (hF : Fi_ v g rm_X4_isPublished (some (v_I r)) h M) (x1 : Int32) (x2 : Int32) (hm : f_X4_isPublished M x1 x2 = some r) : At_ v g 3 h M 0 0 0 [(0, v_R (some 5)), (1, v_I x1), (2, v_I x2)] [] := by
  unfold f_X4_isPublished at hm
  refine a_aload_n X dX4_isPublished_0 rfl ?_
  refine a_iload_n X dX4_isPublished_1 rfl ?_
  refine a_iload_n X dX4_isPublished_2 rfl ?_
  obtain ⟨r22, q21, hm⟩ := i_b hm
  refine a_callV (k' := 0) (n' := 0) (st := []) X (c_X4_isKept hMR q21) yv_X4_isKept ml_X4_168 rfl (Or.inr (mr5_ hMR)) ⟨by decide, by decide, by decide, by decide, Nat.le_of_ble_eq_true rfl⟩ rfl rfl dX4_isPublished_3 rfl rfl ?_
  show At_ v g 3 h M 0 0 6 [(0, v_R (some 5)), (1, v_I x1), (2, v_I x2)] [v_I r22]
  refine a_if_eq (tgt := 27) X dX4_isPublished_6 (by decide) hm (fun c23 hm => ?_) (fun c23 hm => ?_)
  · refine a_iconst (x := 0) X dX4_isPublished_27 (by decide) ?_
    exact a_zret X hF (Or.inl rfl) ⟨rfl, rfl, Option.some.inj hm⟩ (by decide) dX4_isPublished_28
  · refine a_aload_n X dX4_isPublished_9 rfl ?_
    refine a_mgetA X hMR 5 (by decide) rfl rfl fl_X4_23 dX4_isPublished_10 ?_
    refine a_aload_n X dX4_isPublished_13 rfl ?_
    refine a_iload_n X dX4_isPublished_14 rfl ?_
    refine a_iload_n X dX4_isPublished_15 rfl ?_
    obtain ⟨r25, q24, hm⟩ := i_b hm
    refine a_callV (k' := 0) (n' := 0) (st := [v_R (some 10)]) X (c_X4_slot hMR q24) yv_X4_slot ml_X4_171 rfl (Or.inr (mr5_ hMR)) ⟨by decide, by decide, by decide, by decide, Nat.le_of_ble_eq_true rfl⟩ rfl rfl dX4_isPublished_16 rfl rfl ?_
    show At_ v g 3 h M 0 0 19 [(0, v_R (some 5)), (1, v_I x1), (2, v_I x2)] [v_I r25, v_R (some 10)]
    obtain ⟨b26, hm⟩ := i_c hm
    refine a_maldZ X hMR 5 (by decide) rfl rfl rfl b26 dX4_isPublished_19 ?_
    refine a_if_ne (tgt := 27) X dX4_isPublished_20 (by decide) hm (fun c27 hm => ?_) (fun c27 hm => ?_)
    · refine a_iconst (x := 0) X dX4_isPublished_27 (by decide) ?_
      exact a_zret X hF (Or.inl rfl) ⟨rfl, rfl, Option.some.inj hm⟩ (by decide) dX4_isPublished_28
    · refine a_iconst (x := 1) X dX4_isPublished_23 (by decide) ?_
      refine a_goto (tgt := 28) X dX4_isPublished_24 (by decide) ?_
      exact a_zret X hF (Or.inr rfl) ⟨rfl, rfl, Option.some.inj hm⟩ (by decide) dX4_isPublished_28
theorem c_X4_isPublished {l : Launch} {g : Gvx} {h : Hpx} {M : Msx} {r : Int32} {x1 : Int32} {x2 : Int32} (hMR : MR_ h) (hm : f_X4_isPublished M x1 x2 = some r) : Mt_ l g yX4_isPublished cX4_isPublished 3 ((some .boolean)) rm_X4_isPublished [v_R (some 5), v_I x1, v_I x2] h M (some (v_I r)) h M := mt_of (by decide) (Nat.le_of_ble_eq_true rfl) (fun v _ X hF => q_X4_isPublished_0 X hMR M hF x1 x2 hm)
theorem yv_X4_isPublished : Yv_ yX4_isPublished cX4_isPublished 3 ((some .boolean)) 2 4 := ⟨rfl, by decide, ⟨by decide, by decide, by decide +kernel⟩, co_X4_isPublished, im_X4_isPublished, se_X4_isPublished, ini_X4⟩

abbrev rm_X4_isHolder : Room := { frames := 1, cells := 0, slots := 0, locals := 24 }
def j_X4_isHolder_29 (M : Msx) (x1 : Int32) (x2 : Int32) : Option (Int32) :=
  (f_X4_index M x1 x2).bind fun r27 =>
  (if r27 < 0 then
  some (0 : Int32)
  else some (1 : Int32))
set_option maxHeartbeats 4000000 in
theorem q_X4_isHolder_29 {v : Evx} {g : Gvx} {h : Hpx} {r : Int32} (X : Cx_ v g cX4_isHolder 4 RX4 "isHolder" ((some .boolean)) rm_X4_isHolder) (hMR : MR_ h) (M : Msx) (hF : Fi_ v g rm_X4_isHolder (some (v_I r)) h M) (x1 : Int32) (x2 : Int32) (hm : j_X4_isHolder_29 M x1 x2 = some r) : At_ v g 4 h M 0 0 29 [(0, v_R (some 5)), (1, v_I x1), (2, v_I x2)] [] := by
  unfold j_X4_isHolder_29 at hm
  refine a_aload_n X dX4_isHolder_29 rfl ?_
  refine a_iload_n X dX4_isHolder_30 rfl ?_
  refine a_iload_n X dX4_isHolder_31 rfl ?_
  obtain ⟨r27, q26, hm⟩ := i_b hm
  refine a_callV (k' := 0) (n' := 0) (st := []) X (c_X4_index hMR q26) yv_X4_index ml_X4_127 rfl (Or.inr (mr5_ hMR)) ⟨by decide, by decide, by decide, by decide, Nat.le_of_ble_eq_true rfl⟩ rfl rfl dX4_isHolder_32 rfl rfl ?_
  show At_ v g 4 h M 0 0 35 [(0, v_R (some 5)), (1, v_I x1), (2, v_I x2)] [v_I r27]
  refine a_if_lt (tgt := 42) X dX4_isHolder_35 (by decide) hm (fun c28 hm => ?_) (fun c28 hm => ?_)
  · refine a_iconst (x := 0) X dX4_isHolder_42 (by decide) ?_
    exact a_zret X hF (Or.inl rfl) ⟨rfl, rfl, Option.some.inj hm⟩ (by decide) dX4_isHolder_43
  · refine a_iconst (x := 1) X dX4_isHolder_38 (by decide) ?_
    refine a_goto (tgt := 43) X dX4_isHolder_39 (by decide) ?_
    exact a_zret X hF (Or.inr rfl) ⟨rfl, rfl, Option.some.inj hm⟩ (by decide) dX4_isHolder_43
def f_X4_isHolder (M : Msx) (x1 : Int32) (x2 : Int32) : Option (Int32) :=
  (if in_b x1 16 = true then
  (if (m_I M 11 x1.toNatClampNeg) = (2 : Int32) then
  j_X4_isHolder_29 M x1 x2
  else (if (m_I M 11 x1.toNatClampNeg) = (6 : Int32) then
  j_X4_isHolder_29 M x1 x2
  else (if (m_I M 11 x1.toNatClampNeg) = (7 : Int32) then
  j_X4_isHolder_29 M x1 x2
  else (if (m_I M 11 x1.toNatClampNeg) = (5 : Int32) then
  j_X4_isHolder_29 M x1 x2
  else some (0 : Int32))))) else none)
set_option maxHeartbeats 4000000 in
theorem q_X4_isHolder_0 {v : Evx} {g : Gvx} {h : Hpx} {r : Int32} (X : Cx_ v g cX4_isHolder 4 RX4 "isHolder" ((some .boolean)) rm_X4_isHolder) (hMR : MR_ h) (M : Msx) (hF : Fi_ v g rm_X4_isHolder (some (v_I r)) h M) (x1 : Int32) (x2 : Int32) (hm : f_X4_isHolder M x1 x2 = some r) : At_ v g 4 h M 0 0 0 [(0, v_R (some 5)), (1, v_I x1), (2, v_I x2)] [] := by
  unfold f_X4_isHolder at hm
  refine a_aload_n X dX4_isHolder_0 rfl ?_
  refine a_mgetA X hMR 11 (by decide) rfl rfl fl_X4_39 dX4_isHolder_1 ?_
  refine a_iload_n X dX4_isHolder_4 rfl ?_
  obtain ⟨b21, hm⟩ := i_c hm
  refine a_maldI X hMR 11 (by decide) rfl rfl rfl b21 dX4_isHolder_5 ?_
  refine a_istore_n (lv' := [(0, v_R (some 5)), (1, v_I x1), (2, v_I x2), (3, v_I (m_I M 11 x1.toNatClampNeg))]) X dX4_isHolder_6 (by decide) rfl ?_
  refine a_iload_n X dX4_isHolder_7 rfl ?_
  refine a_iconst (x := 2) X dX4_isHolder_8 (by decide) ?_
  refine a_icmp_eq (tgt := 29) X dX4_isHolder_9 (by decide) hm (fun c22 hm => ?_) (fun c22 hm => ?_)
  · refine a_pick (lv' := [(0, v_R (some 5)), (1, v_I x1), (2, v_I x2)]) [0, 1, 2] rfl ?_
    exact q_X4_isHolder_29 X hMR M hF x1 x2 hm
  · refine a_iload_n X dX4_isHolder_12 rfl ?_
    refine a_bipush (x := 6) X dX4_isHolder_13 (by decide) ?_
    refine a_icmp_eq (tgt := 29) X dX4_isHolder_15 (by decide) hm (fun c23 hm => ?_) (fun c23 hm => ?_)
    · refine a_pick (lv' := [(0, v_R (some 5)), (1, v_I x1), (2, v_I x2)]) [0, 1, 2] rfl ?_
      exact q_X4_isHolder_29 X hMR M hF x1 x2 hm
    · refine a_iload_n X dX4_isHolder_18 rfl ?_
      refine a_bipush (x := 7) X dX4_isHolder_19 (by decide) ?_
      refine a_icmp_eq (tgt := 29) X dX4_isHolder_21 (by decide) hm (fun c24 hm => ?_) (fun c24 hm => ?_)
      · refine a_pick (lv' := [(0, v_R (some 5)), (1, v_I x1), (2, v_I x2)]) [0, 1, 2] rfl ?_
        exact q_X4_isHolder_29 X hMR M hF x1 x2 hm
      · refine a_iload_n X dX4_isHolder_24 rfl ?_
        refine a_iconst (x := 5) X dX4_isHolder_25 (by decide) ?_
        refine a_icmp_ne (tgt := 42) X dX4_isHolder_26 (by decide) hm (fun c25 hm => ?_) (fun c25 hm => ?_)
        · refine a_iconst (x := 0) X dX4_isHolder_42 (by decide) ?_
          exact a_zret X hF (Or.inl rfl) ⟨rfl, rfl, Option.some.inj hm⟩ (by decide) dX4_isHolder_43
        · refine a_pick (lv' := [(0, v_R (some 5)), (1, v_I x1), (2, v_I x2)]) [0, 1, 2] rfl ?_
          exact q_X4_isHolder_29 X hMR M hF x1 x2 hm
theorem c_X4_isHolder {l : Launch} {g : Gvx} {h : Hpx} {M : Msx} {r : Int32} {x1 : Int32} {x2 : Int32} (hMR : MR_ h) (hm : f_X4_isHolder M x1 x2 = some r) : Mt_ l g yX4_isHolder cX4_isHolder 4 ((some .boolean)) rm_X4_isHolder [v_R (some 5), v_I x1, v_I x2] h M (some (v_I r)) h M := mt_of (by decide) (Nat.le_of_ble_eq_true rfl) (fun v _ X hF => q_X4_isHolder_0 X hMR M hF x1 x2 hm)
theorem yv_X4_isHolder : Yv_ yX4_isHolder cX4_isHolder 4 ((some .boolean)) 2 4 := ⟨rfl, by decide, ⟨by decide, by decide, by decide +kernel⟩, co_X4_isHolder, im_X4_isHolder, se_X4_isHolder, ini_X4⟩

abbrev rm_X4_holderOf : Room := { frames := 2, cells := 0, slots := 0, locals := 47 }
def j_X4_holderOf_10 (M : Msx) (rec_10 : Int32 → Int32 → Int32 → Int32 → Option (Int32)) (x1 : Int32) (x2 : Int32) (x3 : Int32) (x4 : Int32) : Option (Int32) :=
  (if x4 < 0 then
  some x3
  else (f_X4_isHolder M x4 x1).bind fun r23 =>
  (if r23 = 0 then
  rec_10 x1 x2 x3 (x4 + (-1 : Int32))
  else (f_X4_placeIn M x4 x1).bind fun r26 =>
  (if in_b x1 8 = true then
  (if (x2 - (m_I M 1 x1.toNatClampNeg)) < r26 then
  rec_10 x1 x2 x3 (x4 + (-1 : Int32))
  else rec_10 x1 x2 x4 (x4 + (-1 : Int32))) else none)))
set_option maxHeartbeats 4000000 in
theorem q_X4_holderOf_10 {v : Evx} {g : Gvx} {h : Hpx} {r : Int32} (X : Cx_ v g cX4_holderOf 5 RX4 "holderOf" ((some .int)) rm_X4_holderOf) (hMR : MR_ h) (M : Msx) (hF : Fi_ v g rm_X4_holderOf (some (v_I r)) h M) (rec_10 : Int32 → Int32 → Int32 → Int32 → Option (Int32)) (hr_10 : ∀ (x1 : Int32) (x2 : Int32) (x3 : Int32) (x4 : Int32), rec_10 x1 x2 x3 x4 = some r → At_ v g 5 h M 0 0 10 [(0, v_R (some 5)), (1, v_I x1), (2, v_I x2), (3, v_I x3), (4, v_I x4)] []) (x1 : Int32) (x2 : Int32) (x3 : Int32) (x4 : Int32) (hm : j_X4_holderOf_10 M rec_10 x1 x2 x3 x4 = some r) : At_ v g 5 h M 0 0 10 [(0, v_R (some 5)), (1, v_I x1), (2, v_I x2), (3, v_I x3), (4, v_I x4)] [] := by
  unfold j_X4_holderOf_10 at hm
  refine a_iload X dX4_holderOf_10 rfl ?_
  refine a_if_lt (tgt := 56) X dX4_holderOf_12 (by decide) hm (fun c21 hm => ?_) (fun c21 hm => ?_)
  · refine a_iload_n X dX4_holderOf_56 rfl ?_
    exact a_iret X hF ⟨rfl, rfl, Option.some.inj hm⟩ (by decide) dX4_holderOf_57
  · refine a_aload_n X dX4_holderOf_15 rfl ?_
    refine a_iload X dX4_holderOf_16 rfl ?_
    refine a_iload_n X dX4_holderOf_18 rfl ?_
    obtain ⟨r23, q22, hm⟩ := i_b hm
    refine a_callV (k' := 0) (n' := 0) (st := []) X (c_X4_isHolder hMR q22) yv_X4_isHolder ml_X4_174 rfl (Or.inr (mr5_ hMR)) ⟨by decide, by decide, by decide, by decide, Nat.le_of_ble_eq_true rfl⟩ rfl rfl dX4_holderOf_19 rfl rfl ?_
    show At_ v g 5 h M 0 0 22 [(0, v_R (some 5)), (1, v_I x1), (2, v_I x2), (3, v_I x3), (4, v_I x4)] [v_I r23]
    refine a_if_eq (tgt := 48) X dX4_holderOf_22 (by decide) hm (fun c24 hm => ?_) (fun c24 hm => ?_)
    · refine a_iload_n X dX4_holderOf_48 rfl ?_
      refine a_istore_n (lv' := [(0, v_R (some 5)), (1, v_I x1), (2, v_I x2), (3, v_I x3), (4, v_I x4)]) X dX4_holderOf_49 (by decide) rfl ?_
      refine a_iinc (y := x4 + (-1 : Int32)) (lv' := [(0, v_R (some 5)), (1, v_I x1), (2, v_I x2), (3, v_I x3), (4, v_I (x4 + (-1 : Int32)))]) X dX4_holderOf_50 rfl rfl (by decide) rfl ?_
      refine a_goto (tgt := 10) X dX4_holderOf_53 (by decide) ?_
      exact hr_10 x1 x2 x3 (x4 + (-1 : Int32)) hm
    · refine a_aload_n X dX4_holderOf_25 rfl ?_
      refine a_iload X dX4_holderOf_26 rfl ?_
      refine a_iload_n X dX4_holderOf_28 rfl ?_
      obtain ⟨r26, q25, hm⟩ := i_b hm
      refine a_callV (k' := 0) (n' := 0) (st := []) X (c_X4_placeIn hMR q25) yv_X4_placeIn ml_X4_177 rfl (Or.inr (mr5_ hMR)) ⟨by decide, by decide, by decide, by decide, Nat.le_of_ble_eq_true rfl⟩ rfl rfl dX4_holderOf_29 rfl rfl ?_
      show At_ v g 5 h M 0 0 32 [(0, v_R (some 5)), (1, v_I x1), (2, v_I x2), (3, v_I x3), (4, v_I x4)] [v_I r26]
      refine a_iload_n X dX4_holderOf_32 rfl ?_
      refine a_aload_n X dX4_holderOf_33 rfl ?_
      refine a_mgetA X hMR 1 (by decide) rfl rfl fl_X4_7 dX4_holderOf_34 ?_
      refine a_iload_n X dX4_holderOf_37 rfl ?_
      obtain ⟨b27, hm⟩ := i_c hm
      refine a_maldI X hMR 1 (by decide) rfl rfl rfl b27 dX4_holderOf_38 ?_
      refine a_isub X dX4_holderOf_39 ?_
      refine a_icmp_gt (tgt := 48) X dX4_holderOf_40 (by decide) hm (fun c28 hm => ?_) (fun c28 hm => ?_)
      · refine a_iload_n X dX4_holderOf_48 rfl ?_
        refine a_istore_n (lv' := [(0, v_R (some 5)), (1, v_I x1), (2, v_I x2), (3, v_I x3), (4, v_I x4)]) X dX4_holderOf_49 (by decide) rfl ?_
        refine a_iinc (y := x4 + (-1 : Int32)) (lv' := [(0, v_R (some 5)), (1, v_I x1), (2, v_I x2), (3, v_I x3), (4, v_I (x4 + (-1 : Int32)))]) X dX4_holderOf_50 rfl rfl (by decide) rfl ?_
        refine a_goto (tgt := 10) X dX4_holderOf_53 (by decide) ?_
        exact hr_10 x1 x2 x3 (x4 + (-1 : Int32)) hm
      · refine a_iload X dX4_holderOf_43 rfl ?_
        refine a_goto (tgt := 49) X dX4_holderOf_45 (by decide) ?_
        refine a_istore_n (lv' := [(0, v_R (some 5)), (1, v_I x1), (2, v_I x2), (3, v_I x4), (4, v_I x4)]) X dX4_holderOf_49 (by decide) rfl ?_
        refine a_iinc (y := x4 + (-1 : Int32)) (lv' := [(0, v_R (some 5)), (1, v_I x1), (2, v_I x2), (3, v_I x4), (4, v_I (x4 + (-1 : Int32)))]) X dX4_holderOf_50 rfl rfl (by decide) rfl ?_
        refine a_goto (tgt := 10) X dX4_holderOf_53 (by decide) ?_
        exact hr_10 x1 x2 x4 (x4 + (-1 : Int32)) hm
def l_X4_holderOf_10 (M : Msx) (n : Nat) : Int32 → Int32 → Int32 → Int32 → Option (Int32) := lp_ (fun rec_10 => j_X4_holderOf_10 M rec_10) (fun _ _ _ _ => none) n
theorem ql_X4_holderOf_10 {v : Evx} {g : Gvx} {h : Hpx} {r : Int32} (X : Cx_ v g cX4_holderOf 5 RX4 "holderOf" ((some .int)) rm_X4_holderOf) (hMR : MR_ h) (M : Msx) (hF : Fi_ v g rm_X4_holderOf (some (v_I r)) h M) : ∀ (n : Nat) (x1 : Int32) (x2 : Int32) (x3 : Int32) (x4 : Int32), l_X4_holderOf_10 M n x1 x2 x3 x4 = some r → At_ v g 5 h M 0 0 10 [(0, v_R (some 5)), (1, v_I x1), (2, v_I x2), (3, v_I x3), (4, v_I x4)] [] := by
  intro n
  induction n with
  | zero => intro x1 x2 x3 x4 hm; cases hm
  | succ n ih =>
    intro x1 x2 x3 x4 hm
    exact q_X4_holderOf_10 X hMR M hF (l_X4_holderOf_10 M n) ih x1 x2 x3 x4 hm
def f_X4_holderOf (M : Msx) (x1 : Int32) (x2 : Int32) : Option (Int32) :=
  l_X4_holderOf_10 M 70 x1 x2 (-1 : Int32) ((m_I M 10 0) - (1 : Int32))
set_option maxHeartbeats 4000000 in
theorem q_X4_holderOf_0 {v : Evx} {g : Gvx} {h : Hpx} {r : Int32} (X : Cx_ v g cX4_holderOf 5 RX4 "holderOf" ((some .int)) rm_X4_holderOf) (hMR : MR_ h) (M : Msx) (hF : Fi_ v g rm_X4_holderOf (some (v_I r)) h M) (x1 : Int32) (x2 : Int32) (hm : f_X4_holderOf M x1 x2 = some r) : At_ v g 5 h M 0 0 0 [(0, v_R (some 5)), (1, v_I x1), (2, v_I x2)] [] := by
  unfold f_X4_holderOf at hm
  refine a_iconst (x := -1) X dX4_holderOf_0 (by decide) ?_
  refine a_istore_n (lv' := [(0, v_R (some 5)), (1, v_I x1), (2, v_I x2), (3, v_I (-1 : Int32))]) X dX4_holderOf_1 (by decide) rfl ?_
  refine a_aload_n X dX4_holderOf_2 rfl ?_
  refine a_mgetI X hMR 10 (by decide) rfl fl_X4_124 dX4_holderOf_3 ?_
  refine a_iconst (x := 1) X dX4_holderOf_6 (by decide) ?_
  refine a_isub X dX4_holderOf_7 ?_
  refine a_istore (lv' := [(0, v_R (some 5)), (1, v_I x1), (2, v_I x2), (3, v_I (-1 : Int32)), (4, v_I ((m_I M 10 0) - (1 : Int32)))]) X dX4_holderOf_8 (by decide) rfl ?_
  exact ql_X4_holderOf_10 X hMR M hF 70 x1 x2 (-1 : Int32) ((m_I M 10 0) - (1 : Int32)) hm
theorem c_X4_holderOf {l : Launch} {g : Gvx} {h : Hpx} {M : Msx} {r : Int32} {x1 : Int32} {x2 : Int32} (hMR : MR_ h) (hm : f_X4_holderOf M x1 x2 = some r) : Mt_ l g yX4_holderOf cX4_holderOf 5 ((some .int)) rm_X4_holderOf [v_R (some 5), v_I x1, v_I x2] h M (some (v_I r)) h M := mt_of (by decide) (Nat.le_of_ble_eq_true rfl) (fun v _ X hF => q_X4_holderOf_0 X hMR M hF x1 x2 hm)
theorem yv_X4_holderOf : Yv_ yX4_holderOf cX4_holderOf 5 ((some .int)) 2 4 := ⟨rfl, by decide, ⟨by decide, by decide, by decide +kernel⟩, co_X4_holderOf, im_X4_holderOf, se_X4_holderOf, ini_X4⟩

abbrev rm_X4_isHeld : Room := { frames := 3, cells := 0, slots := 0, locals := 71 }
def j_X4_isHeld_25 (M : Msx) : Option (Int32) :=
  some (1 : Int32)
set_option maxHeartbeats 4000000 in
theorem q_X4_isHeld_25 {v : Evx} {g : Gvx} {h : Hpx} {r : Int32} (X : Cx_ v g cX4_isHeld 3 RX4 "isHeld" ((some .boolean)) rm_X4_isHeld) (hMR : MR_ h) (M : Msx) (hF : Fi_ v g rm_X4_isHeld (some (v_I r)) h M) (hm : j_X4_isHeld_25 M  = some r) : At_ v g 3 h M 0 0 25 [(0, v_R (some 5))] [] := by
  unfold j_X4_isHeld_25 at hm
  refine a_iconst (x := 1) X dX4_isHeld_25 (by decide) ?_
  refine a_goto (tgt := 30) X dX4_isHeld_26 (by decide) ?_
  exact a_zret X hF (Or.inr rfl) ⟨rfl, rfl, Option.some.inj hm⟩ (by decide) dX4_isHeld_30
def f_X4_isHeld (M : Msx) (x1 : Int32) (x2 : Int32) : Option (Int32) :=
  (if in_b x1 8 = true then
  (f_X4_isOpen M x1 (x2 - (m_I M 1 x1.toNatClampNeg))).bind fun r23 =>
  (if r23 = 0 then
  (f_X4_holderOf M x1 x2).bind fun r26 =>
  (if r26 < 0 then
  some (0 : Int32)
  else j_X4_isHeld_25 M )
  else j_X4_isHeld_25 M ) else none)
set_option maxHeartbeats 4000000 in
theorem q_X4_isHeld_0 {v : Evx} {g : Gvx} {h : Hpx} {r : Int32} (X : Cx_ v g cX4_isHeld 3 RX4 "isHeld" ((some .boolean)) rm_X4_isHeld) (hMR : MR_ h) (M : Msx) (hF : Fi_ v g rm_X4_isHeld (some (v_I r)) h M) (x1 : Int32) (x2 : Int32) (hm : f_X4_isHeld M x1 x2 = some r) : At_ v g 3 h M 0 0 0 [(0, v_R (some 5)), (1, v_I x1), (2, v_I x2)] [] := by
  unfold f_X4_isHeld at hm
  refine a_aload_n X dX4_isHeld_0 rfl ?_
  refine a_iload_n X dX4_isHeld_1 rfl ?_
  refine a_iload_n X dX4_isHeld_2 rfl ?_
  refine a_aload_n X dX4_isHeld_3 rfl ?_
  refine a_mgetA X hMR 1 (by decide) rfl rfl fl_X4_7 dX4_isHeld_4 ?_
  refine a_iload_n X dX4_isHeld_7 rfl ?_
  obtain ⟨b21, hm⟩ := i_c hm
  refine a_maldI X hMR 1 (by decide) rfl rfl rfl b21 dX4_isHeld_8 ?_
  refine a_isub X dX4_isHeld_9 ?_
  obtain ⟨r23, q22, hm⟩ := i_b hm
  refine a_callV (k' := 0) (n' := 0) (st := []) X (c_X4_isOpen hMR q22) yv_X4_isOpen ml_X4_180 rfl (Or.inr (mr5_ hMR)) ⟨by decide, by decide, by decide, by decide, Nat.le_of_ble_eq_true rfl⟩ rfl rfl dX4_isHeld_10 rfl rfl ?_
  show At_ v g 3 h M 0 0 13 [(0, v_R (some 5)), (1, v_I x1), (2, v_I x2)] [v_I r23]
  refine a_if_ne (tgt := 25) X dX4_isHeld_13 (by decide) hm (fun c24 hm => ?_) (fun c24 hm => ?_)
  · refine a_pick (lv' := [(0, v_R (some 5))]) [0] rfl ?_
    exact q_X4_isHeld_25 X hMR M hF  hm
  · refine a_aload_n X dX4_isHeld_16 rfl ?_
    refine a_iload_n X dX4_isHeld_17 rfl ?_
    refine a_iload_n X dX4_isHeld_18 rfl ?_
    obtain ⟨r26, q25, hm⟩ := i_b hm
    refine a_callV (k' := 0) (n' := 0) (st := []) X (c_X4_holderOf hMR q25) yv_X4_holderOf ml_X4_183 rfl (Or.inr (mr5_ hMR)) ⟨by decide, by decide, by decide, by decide, Nat.le_of_ble_eq_true rfl⟩ rfl rfl dX4_isHeld_19 rfl rfl ?_
    show At_ v g 3 h M 0 0 22 [(0, v_R (some 5)), (1, v_I x1), (2, v_I x2)] [v_I r26]
    refine a_if_lt (tgt := 29) X dX4_isHeld_22 (by decide) hm (fun c27 hm => ?_) (fun c27 hm => ?_)
    · refine a_iconst (x := 0) X dX4_isHeld_29 (by decide) ?_
      exact a_zret X hF (Or.inl rfl) ⟨rfl, rfl, Option.some.inj hm⟩ (by decide) dX4_isHeld_30
    · refine a_pick (lv' := [(0, v_R (some 5))]) [0] rfl ?_
      exact q_X4_isHeld_25 X hMR M hF  hm
theorem c_X4_isHeld {l : Launch} {g : Gvx} {h : Hpx} {M : Msx} {r : Int32} {x1 : Int32} {x2 : Int32} (hMR : MR_ h) (hm : f_X4_isHeld M x1 x2 = some r) : Mt_ l g yX4_isHeld cX4_isHeld 3 ((some .boolean)) rm_X4_isHeld [v_R (some 5), v_I x1, v_I x2] h M (some (v_I r)) h M := mt_of (by decide) (Nat.le_of_ble_eq_true rfl) (fun v _ X hF => q_X4_isHeld_0 X hMR M hF x1 x2 hm)
theorem yv_X4_isHeld : Yv_ yX4_isHeld cX4_isHeld 3 ((some .boolean)) 2 4 := ⟨rfl, by decide, ⟨by decide, by decide, by decide +kernel⟩, co_X4_isHeld, im_X4_isHeld, se_X4_isHeld, ini_X4⟩

abbrev rm_X4_isHeldUp : Room := { frames := 4, cells := 0, slots := 0, locals := 93 }
def f_X4_isHeldUp (M : Msx) (x1 : Int32) : Option (Int32) :=
  (if in_b x1 8 = true then
  (f_X4_isHeld M x1 (m_I M 2 x1.toNatClampNeg)).bind fun r23 =>
  (if r23 = 0 ∨ r23 = 1 then
  some r23 else none) else none)
set_option maxHeartbeats 4000000 in
theorem q_X4_isHeldUp_0 {v : Evx} {g : Gvx} {h : Hpx} {r : Int32} (X : Cx_ v g cX4_isHeldUp 2 RX4 "isHeldUp" ((some .boolean)) rm_X4_isHeldUp) (hMR : MR_ h) (M : Msx) (hF : Fi_ v g rm_X4_isHeldUp (some (v_I r)) h M) (x1 : Int32) (hm : f_X4_isHeldUp M x1 = some r) : At_ v g 2 h M 0 0 0 [(0, v_R (some 5)), (1, v_I x1)] [] := by
  unfold f_X4_isHeldUp at hm
  refine a_aload_n X dX4_isHeldUp_0 rfl ?_
  refine a_iload_n X dX4_isHeldUp_1 rfl ?_
  refine a_aload_n X dX4_isHeldUp_2 rfl ?_
  refine a_mgetA X hMR 2 (by decide) rfl rfl fl_X4_13 dX4_isHeldUp_3 ?_
  refine a_iload_n X dX4_isHeldUp_6 rfl ?_
  obtain ⟨b21, hm⟩ := i_c hm
  refine a_maldI X hMR 2 (by decide) rfl rfl rfl b21 dX4_isHeldUp_7 ?_
  obtain ⟨r23, q22, hm⟩ := i_b hm
  refine a_callV (k' := 0) (n' := 0) (st := []) X (c_X4_isHeld hMR q22) yv_X4_isHeld ml_X4_186 rfl (Or.inr (mr5_ hMR)) ⟨by decide, by decide, by decide, by decide, Nat.le_of_ble_eq_true rfl⟩ rfl rfl dX4_isHeldUp_8 rfl rfl ?_
  show At_ v g 2 h M 0 0 11 [(0, v_R (some 5)), (1, v_I x1)] [v_I r23]
  obtain ⟨b24, hm⟩ := i_c hm
  exact a_zret X hF b24 ⟨rfl, rfl, Option.some.inj hm⟩ (by decide) dX4_isHeldUp_11
theorem c_X4_isHeldUp {l : Launch} {g : Gvx} {h : Hpx} {M : Msx} {r : Int32} {x1 : Int32} (hMR : MR_ h) (hm : f_X4_isHeldUp M x1 = some r) : Mt_ l g yX4_isHeldUp cX4_isHeldUp 2 ((some .boolean)) rm_X4_isHeldUp [v_R (some 5), v_I x1] h M (some (v_I r)) h M := mt_of (by decide) (Nat.le_of_ble_eq_true rfl) (fun v _ X hF => q_X4_isHeldUp_0 X hMR M hF x1 hm)
theorem yv_X4_isHeldUp : Yv_ yX4_isHeldUp cX4_isHeldUp 2 ((some .boolean)) 1 4 := ⟨rfl, by decide, ⟨by decide, by decide, by decide +kernel⟩, co_X4_isHeldUp, im_X4_isHeldUp, se_X4_isHeldUp, ini_X4⟩

abbrev rm_X4_make : Room := { frames := 1, cells := 0, slots := 0, locals := 22 }
def j_X4_make_48 (rec_48 : Msx → Int32 → Int64 → Int32 → Int32 → Option (Msx)) (M : Msx) (x1 : Int32) (x2 : Int64) (x4 : Int32) (x5 : Int32) : Option (Msx) :=
  (if (8 : Int32) ≤ x5 then
  (if in_b x1 8 = true then
  b_d (n_I M 2 x1.toNatClampNeg ((m_I M 2 x1.toNatClampNeg) + (1 : Int32))) fun M34 =>
  (if in_b x1 8 = true then
  b_d (n_J M34 4 x1.toNatClampNeg x2) fun M36 =>
  some M36 else none) else none)
  else (if in_b (((8 : Int32) * x4) + x5) 4096 = true then
  b_d (n_J M 9 (((8 : Int32) * x4) + x5).toNatClampNeg (0 : Int64)) fun M38 =>
  rec_48 M38 x1 x2 x4 (x5 + (1 : Int32)) else none))
set_option maxHeartbeats 4000000 in
theorem q_X4_make_48 {v : Evx} {g : Gvx} {h : Hpx} {M' : Msx} (X : Cx_ v g cX4_make 6 RX4 "make" (none) rm_X4_make) (hMR : MR_ h) (hF : Fi_ v g rm_X4_make (none) h M') (rec_48 : Msx → Int32 → Int64 → Int32 → Int32 → Option (Msx)) (hr_48 : ∀ (M : Msx) (x1 : Int32) (x2 : Int64) (x4 : Int32) (x5 : Int32), rec_48 M x1 x2 x4 x5 = some M' → At_ v g 6 h M 0 0 48 [(0, v_R (some 5)), (1, v_I x1), (2, v_J x2), (4, v_I x4), (5, v_I x5)] []) (M : Msx) (x1 : Int32) (x2 : Int64) (x4 : Int32) (x5 : Int32) (hm : j_X4_make_48 rec_48 M x1 x2 x4 x5 = some M') : At_ v g 6 h M 0 0 48 [(0, v_R (some 5)), (1, v_I x1), (2, v_J x2), (4, v_I x4), (5, v_I x5)] [] := by
  unfold j_X4_make_48 at hm
  refine a_iload X dX4_make_48 rfl ?_
  refine a_bipush (x := 8) X dX4_make_50 (by decide) ?_
  refine a_icmp_ge (tgt := 75) X dX4_make_52 (by decide) hm (fun c32 hm => ?_) (fun c32 hm => ?_)
  · refine a_aload_n X dX4_make_75 rfl ?_
    refine a_mgetA X hMR 2 (by decide) rfl rfl fl_X4_13 dX4_make_76 ?_
    refine a_iload_n X dX4_make_79 rfl ?_
    refine a_dup2 X dX4_make_80 rfl rfl ?_
    obtain ⟨b33, hm⟩ := i_c hm
    refine a_maldI X hMR 2 (by decide) rfl rfl rfl b33 dX4_make_81 ?_
    refine a_iconst (x := 1) X dX4_make_82 (by decide) ?_
    refine a_iadd X dX4_make_83 ?_
    obtain ⟨M34, eM34, hm⟩ := i_d hm
    refine a_mastI X hMR 2 (by decide) rfl rfl rfl b33 dX4_make_84 ?_
    rw [← eM34]
    refine a_aload_n X dX4_make_85 rfl ?_
    refine a_mgetA X hMR 4 (by decide) rfl rfl fl_X4_19 dX4_make_86 ?_
    refine a_iload_n X dX4_make_89 rfl ?_
    refine a_lload_n X dX4_make_90 rfl ?_
    obtain ⟨b35, hm⟩ := i_c hm
    obtain ⟨M36, eM36, hm⟩ := i_d hm
    refine a_mastJ X hMR 4 (by decide) rfl rfl rfl b35 dX4_make_91 ?_
    rw [← eM36]
    exact a_vret X hF ⟨rfl, Option.some.inj hm⟩ (by decide) dX4_make_92
  · refine a_aload_n X dX4_make_55 rfl ?_
    refine a_mgetA X hMR 9 (by decide) rfl rfl fl_X4_36 dX4_make_56 ?_
    refine a_bipush (x := 8) X dX4_make_59 (by decide) ?_
    refine a_iload X dX4_make_61 rfl ?_
    refine a_imul X dX4_make_63 ?_
    refine a_iload X dX4_make_64 rfl ?_
    refine a_iadd X dX4_make_66 ?_
    refine a_lconst (x := 0) X dX4_make_67 (by decide) ?_
    obtain ⟨b37, hm⟩ := i_c hm
    obtain ⟨M38, eM38, hm⟩ := i_d hm
    refine a_mastJ X hMR 9 (by decide) rfl rfl rfl b37 dX4_make_68 ?_
    rw [← eM38]
    refine a_iinc (y := x5 + (1 : Int32)) (lv' := [(0, v_R (some 5)), (1, v_I x1), (2, v_J x2), (4, v_I x4), (5, v_I (x5 + (1 : Int32)))]) X dX4_make_69 rfl rfl (by decide) rfl ?_
    refine a_goto (tgt := 48) X dX4_make_72 (by decide) ?_
    exact hr_48 M38 x1 x2 x4 (x5 + (1 : Int32)) hm
def l_X4_make_48 (n : Nat) : Msx → Int32 → Int64 → Int32 → Int32 → Option (Msx) := lp_ (fun rec_48 => j_X4_make_48 rec_48) (fun _ _ _ _ _ => none) n
theorem ql_X4_make_48 {v : Evx} {g : Gvx} {h : Hpx} {M' : Msx} (X : Cx_ v g cX4_make 6 RX4 "make" (none) rm_X4_make) (hMR : MR_ h) (hF : Fi_ v g rm_X4_make (none) h M') : ∀ (n : Nat) (M : Msx) (x1 : Int32) (x2 : Int64) (x4 : Int32) (x5 : Int32), l_X4_make_48 n M x1 x2 x4 x5 = some M' → At_ v g 6 h M 0 0 48 [(0, v_R (some 5)), (1, v_I x1), (2, v_J x2), (4, v_I x4), (5, v_I x5)] [] := by
  intro n
  induction n with
  | zero => intro M x1 x2 x4 x5 hm; cases hm
  | succ n ih =>
    intro M x1 x2 x4 x5 hm
    exact q_X4_make_48 X hMR hF (l_X4_make_48 n) ih M x1 x2 x4 x5 hm
def f_X4_make (M : Msx) (x1 : Int32) (x2 : Int64) : Option (Msx) :=
  (if in_b x1 8 = true then
  (f_X4_slot M x1 (m_I M 2 x1.toNatClampNeg)).bind fun r23 =>
  (if in_b r23 512 = true then
  b_d (n_I M 5 r23.toNatClampNeg (1 : Int32)) fun M25 =>
  (if in_b r23 512 = true then
  b_d (n_J M25 6 r23.toNatClampNeg x2) fun M27 =>
  (if in_b r23 512 = true then
  b_d (n_I M27 7 r23.toNatClampNeg (0 : Int32)) fun M29 =>
  (if in_b r23 512 = true then
  b_d (n_I M29 8 r23.toNatClampNeg (0 : Int32)) fun M31 =>
  l_X4_make_48 70 M31 x1 x2 r23 (0 : Int32) else none) else none) else none) else none) else none)
set_option maxHeartbeats 4000000 in
theorem q_X4_make_0 {v : Evx} {g : Gvx} {h : Hpx} {M' : Msx} (X : Cx_ v g cX4_make 6 RX4 "make" (none) rm_X4_make) (hMR : MR_ h) (hF : Fi_ v g rm_X4_make (none) h M') (M : Msx) (x1 : Int32) (x2 : Int64) (hm : f_X4_make M x1 x2 = some M') : At_ v g 6 h M 0 0 0 [(0, v_R (some 5)), (1, v_I x1), (2, v_J x2)] [] := by
  unfold f_X4_make at hm
  refine a_aload_n X dX4_make_0 rfl ?_
  refine a_iload_n X dX4_make_1 rfl ?_
  refine a_aload_n X dX4_make_2 rfl ?_
  refine a_mgetA X hMR 2 (by decide) rfl rfl fl_X4_13 dX4_make_3 ?_
  refine a_iload_n X dX4_make_6 rfl ?_
  obtain ⟨b21, hm⟩ := i_c hm
  refine a_maldI X hMR 2 (by decide) rfl rfl rfl b21 dX4_make_7 ?_
  obtain ⟨r23, q22, hm⟩ := i_b hm
  refine a_callV (k' := 0) (n' := 0) (st := []) X (c_X4_slot hMR q22) yv_X4_slot ml_X4_171 rfl (Or.inr (mr5_ hMR)) ⟨by decide, by decide, by decide, by decide, Nat.le_of_ble_eq_true rfl⟩ rfl rfl dX4_make_8 rfl rfl ?_
  show At_ v g 6 h M 0 0 11 [(0, v_R (some 5)), (1, v_I x1), (2, v_J x2)] [v_I r23]
  refine a_istore (lv' := [(0, v_R (some 5)), (1, v_I x1), (2, v_J x2), (4, v_I r23)]) X dX4_make_11 (by decide) rfl ?_
  refine a_aload_n X dX4_make_13 rfl ?_
  refine a_mgetA X hMR 5 (by decide) rfl rfl fl_X4_23 dX4_make_14 ?_
  refine a_iload X dX4_make_17 rfl ?_
  refine a_iconst (x := 1) X dX4_make_19 (by decide) ?_
  obtain ⟨b24, hm⟩ := i_c hm
  obtain ⟨M25, eM25, hm⟩ := i_d hm
  refine a_mastZ X hMR 5 (by decide) rfl rfl rfl b24 (Or.inr rfl) dX4_make_20 ?_
  rw [← eM25]
  refine a_aload_n X dX4_make_21 rfl ?_
  refine a_mgetA X hMR 6 (by decide) rfl rfl fl_X4_27 dX4_make_22 ?_
  refine a_iload X dX4_make_25 rfl ?_
  refine a_lload_n X dX4_make_27 rfl ?_
  obtain ⟨b26, hm⟩ := i_c hm
  obtain ⟨M27, eM27, hm⟩ := i_d hm
  refine a_mastJ X hMR 6 (by decide) rfl rfl rfl b26 dX4_make_28 ?_
  rw [← eM27]
  refine a_aload_n X dX4_make_29 rfl ?_
  refine a_mgetA X hMR 7 (by decide) rfl rfl fl_X4_30 dX4_make_30 ?_
  refine a_iload X dX4_make_33 rfl ?_
  refine a_iconst (x := 0) X dX4_make_35 (by decide) ?_
  obtain ⟨b28, hm⟩ := i_c hm
  obtain ⟨M29, eM29, hm⟩ := i_d hm
  refine a_mastI X hMR 7 (by decide) rfl rfl rfl b28 dX4_make_36 ?_
  rw [← eM29]
  refine a_aload_n X dX4_make_37 rfl ?_
  refine a_mgetA X hMR 8 (by decide) rfl rfl fl_X4_33 dX4_make_38 ?_
  refine a_iload X dX4_make_41 rfl ?_
  refine a_iconst (x := 0) X dX4_make_43 (by decide) ?_
  obtain ⟨b30, hm⟩ := i_c hm
  obtain ⟨M31, eM31, hm⟩ := i_d hm
  refine a_mastI X hMR 8 (by decide) rfl rfl rfl b30 dX4_make_44 ?_
  rw [← eM31]
  refine a_iconst (x := 0) X dX4_make_45 (by decide) ?_
  refine a_istore (lv' := [(0, v_R (some 5)), (1, v_I x1), (2, v_J x2), (4, v_I r23), (5, v_I (0 : Int32))]) X dX4_make_46 (by decide) rfl ?_
  exact ql_X4_make_48 X hMR hF 70 M31 x1 x2 r23 (0 : Int32) hm
theorem c_X4_make {l : Launch} {g : Gvx} {h : Hpx} {M : Msx} {M' : Msx} {x1 : Int32} {x2 : Int64} (hMR : MR_ h) (hm : f_X4_make M x1 x2 = some M') : Mt_ l g yX4_make cX4_make 6 (none) rm_X4_make [v_R (some 5), v_I x1, v_J x2] h M (none) h M' := mt_of (by decide) (Nat.le_of_ble_eq_true rfl) (fun v _ X hF => q_X4_make_0 X hMR hF M x1 x2 hm)
theorem yv_X4_make : Yv_ yX4_make cX4_make 6 (none) 2 4 := ⟨rfl, by decide, ⟨by decide, by decide, by decide +kernel⟩, co_X4_make, im_X4_make, se_X4_make, ini_X4⟩

abbrev rm_X4_hinders : Room := { frames := 4, cells := 0, slots := 0, locals := 93 }
def j_X4_hinders_89 (rec_89 : Msx → Int32 → Int32 → Int32 → Option (Msx × Int32)) (M : Msx) (x1 : Int32) (x4 : Int32) (x5 : Int32) : Option (Msx × Int32) :=
  (if x4 ≤ x5 then
  some (M, (0 : Int32))
  else (if in_b x1 8 = true then
  (f_X4_isHeld M x1 ((m_I M 2 x1.toNatClampNeg) + x5)).bind fun r38 =>
  (if r38 = 0 then
  rec_89 M x1 x4 (x5 + (1 : Int32))
  else (f_X4_holderOf M x1 ((m_I M 2 x1.toNatClampNeg) + x5)).bind fun r41 =>
  b_d (n_I M 36 0 r41) fun M42 =>
  some (M42, (-10 : Int32))) else none))
set_option maxHeartbeats 4000000 in
theorem q_X4_hinders_89 {v : Evx} {g : Gvx} {h : Hpx} {M' : Msx} {r : Int32} (X : Cx_ v g cX4_hinders 7 RX4 "hinders" ((some .int)) rm_X4_hinders) (hMR : MR_ h) (hF : Fi_ v g rm_X4_hinders (some (v_I r)) h M') (rec_89 : Msx → Int32 → Int32 → Int32 → Option (Msx × Int32)) (hr_89 : ∀ (M : Msx) (x1 : Int32) (x4 : Int32) (x5 : Int32), rec_89 M x1 x4 x5 = some (M', r) → At_ v g 7 h M 0 0 89 [(0, v_R (some 5)), (1, v_I x1), (4, v_I x4), (5, v_I x5)] []) (M : Msx) (x1 : Int32) (x4 : Int32) (x5 : Int32) (hm : j_X4_hinders_89 rec_89 M x1 x4 x5 = some (M', r)) : At_ v g 7 h M 0 0 89 [(0, v_R (some 5)), (1, v_I x1), (4, v_I x4), (5, v_I x5)] [] := by
  unfold j_X4_hinders_89 at hm
  refine a_iload X dX4_hinders_89 rfl ?_
  refine a_iload X dX4_hinders_91 rfl ?_
  refine a_icmp_ge (tgt := 137) X dX4_hinders_93 (by decide) hm (fun c35 hm => ?_) (fun c35 hm => ?_)
  · refine a_iconst (x := 0) X dX4_hinders_137 (by decide) ?_
    exact a_iret X hF ⟨rfl, (Prod.mk.inj (Option.some.inj hm)).1, (Prod.mk.inj (Option.some.inj hm)).2⟩ (by decide) dX4_hinders_138
  · refine a_aload_n X dX4_hinders_96 rfl ?_
    refine a_mgetA X hMR 2 (by decide) rfl rfl fl_X4_13 dX4_hinders_97 ?_
    refine a_iload_n X dX4_hinders_100 rfl ?_
    obtain ⟨b36, hm⟩ := i_c hm
    refine a_maldI X hMR 2 (by decide) rfl rfl rfl b36 dX4_hinders_101 ?_
    refine a_iload X dX4_hinders_102 rfl ?_
    refine a_iadd X dX4_hinders_104 ?_
    refine a_istore (lv' := [(0, v_R (some 5)), (1, v_I x1), (4, v_I x4), (5, v_I x5), (6, v_I ((m_I M 2 x1.toNatClampNeg) + x5))]) X dX4_hinders_105 (by decide) rfl ?_
    refine a_aload_n X dX4_hinders_107 rfl ?_
    refine a_iload_n X dX4_hinders_108 rfl ?_
    refine a_iload X dX4_hinders_109 rfl ?_
    obtain ⟨r38, q37, hm⟩ := i_b hm
    refine a_callV (k' := 0) (n' := 0) (st := []) X (c_X4_isHeld hMR q37) yv_X4_isHeld ml_X4_186 rfl (Or.inr (mr5_ hMR)) ⟨by decide, by decide, by decide, by decide, Nat.le_of_ble_eq_true rfl⟩ rfl rfl dX4_hinders_111 rfl rfl ?_
    show At_ v g 7 h M 0 0 114 [(0, v_R (some 5)), (1, v_I x1), (4, v_I x4), (5, v_I x5), (6, v_I ((m_I M 2 x1.toNatClampNeg) + x5))] [v_I r38]
    refine a_if_eq (tgt := 131) X dX4_hinders_114 (by decide) hm (fun c39 hm => ?_) (fun c39 hm => ?_)
    · refine a_iinc (y := x5 + (1 : Int32)) (lv' := [(0, v_R (some 5)), (1, v_I x1), (4, v_I x4), (5, v_I (x5 + (1 : Int32))), (6, v_I ((m_I M 2 x1.toNatClampNeg) + x5))]) X dX4_hinders_131 rfl rfl (by decide) rfl ?_
      refine a_goto (tgt := 89) X dX4_hinders_134 (by decide) ?_
      refine a_pick (lv' := [(0, v_R (some 5)), (1, v_I x1), (4, v_I x4), (5, v_I (x5 + (1 : Int32)))]) [0, 1, 2, 3] rfl ?_
      exact hr_89 M x1 x4 (x5 + (1 : Int32)) hm
    · refine a_aload_n X dX4_hinders_117 rfl ?_
      refine a_aload_n X dX4_hinders_118 rfl ?_
      refine a_iload_n X dX4_hinders_119 rfl ?_
      refine a_iload X dX4_hinders_120 rfl ?_
      obtain ⟨r41, q40, hm⟩ := i_b hm
      refine a_callV (k' := 0) (n' := 0) (st := [v_R (some 5)]) X (c_X4_holderOf hMR q40) yv_X4_holderOf ml_X4_183 rfl (Or.inr (mr5_ hMR)) ⟨by decide, by decide, by decide, by decide, Nat.le_of_ble_eq_true rfl⟩ rfl rfl dX4_hinders_122 rfl rfl ?_
      show At_ v g 7 h M 0 0 125 [(0, v_R (some 5)), (1, v_I x1), (4, v_I x4), (5, v_I x5), (6, v_I ((m_I M 2 x1.toNatClampNeg) + x5))] [v_I r41, v_R (some 5)]
      obtain ⟨M42, eM42, hm⟩ := i_d hm
      refine a_mputI X hMR 36 (by decide) rfl rfl rfl rfl fl_X4_108 dX4_hinders_125 ?_
      rw [← eM42]
      refine a_bipush (x := -10) X dX4_hinders_128 (by decide) ?_
      exact a_iret X hF ⟨rfl, (Prod.mk.inj (Option.some.inj hm)).1, (Prod.mk.inj (Option.some.inj hm)).2⟩ (by decide) dX4_hinders_130
def l_X4_hinders_89 (n : Nat) : Msx → Int32 → Int32 → Int32 → Option (Msx × Int32) := lp_ (fun rec_89 => j_X4_hinders_89 rec_89) (fun _ _ _ _ => none) n
theorem ql_X4_hinders_89 {v : Evx} {g : Gvx} {h : Hpx} {M' : Msx} {r : Int32} (X : Cx_ v g cX4_hinders 7 RX4 "hinders" ((some .int)) rm_X4_hinders) (hMR : MR_ h) (hF : Fi_ v g rm_X4_hinders (some (v_I r)) h M') : ∀ (n : Nat) (M : Msx) (x1 : Int32) (x4 : Int32) (x5 : Int32), l_X4_hinders_89 n M x1 x4 x5 = some (M', r) → At_ v g 7 h M 0 0 89 [(0, v_R (some 5)), (1, v_I x1), (4, v_I x4), (5, v_I x5)] [] := by
  intro n
  induction n with
  | zero => intro M x1 x4 x5 hm; cases hm
  | succ n ih =>
    intro M x1 x4 x5 hm
    exact q_X4_hinders_89 X hMR hF (l_X4_hinders_89 n) ih M x1 x4 x5 hm
def f_X4_hinders (M : Msx) (x1 : Int32) (x2 : Int64) (x4 : Int32) : Option (Msx × Int32) :=
  (f_X4_isRing M x1).bind fun r22 =>
  (if r22 = 0 then
  some (M, (-1 : Int32))
  else (if x4 < (1 : Int32) then
  some (M, (-1 : Int32))
  else (if in_b x1 8 = true then
  (if x4 ≤ (m_I M 1 x1.toNatClampNeg) then
  (if (m_I M 34 0) = 0 then
  some (M, (-2 : Int32))
  else (if in_b x1 8 = true then
  (if (m_I M 3 x1.toNatClampNeg) = (2 : Int32) then
  some (M, (-7 : Int32))
  else (if (m_I M 3 x1.toNatClampNeg) = (1 : Int32) then
  some (M, (-8 : Int32))
  else (if in_b x1 8 = true then
  (if (m_I M 2 x1.toNatClampNeg) ≤ 0 then
  l_X4_hinders_89 70 M x1 x4 (0 : Int32)
  else (if in_b x1 8 = true then
  (if 0 ≤ (lg_cmp x2 (m_J M 4 x1.toNatClampNeg)) then
  l_X4_hinders_89 70 M x1 x4 (0 : Int32)
  else some (M, (-9 : Int32))) else none)) else none))) else none))
  else some (M, (-1 : Int32))) else none)))
set_option maxHeartbeats 4000000 in
theorem q_X4_hinders_0 {v : Evx} {g : Gvx} {h : Hpx} {M' : Msx} {r : Int32} (X : Cx_ v g cX4_hinders 7 RX4 "hinders" ((some .int)) rm_X4_hinders) (hMR : MR_ h) (hF : Fi_ v g rm_X4_hinders (some (v_I r)) h M') (M : Msx) (x1 : Int32) (x2 : Int64) (x4 : Int32) (hm : f_X4_hinders M x1 x2 x4 = some (M', r)) : At_ v g 7 h M 0 0 0 [(0, v_R (some 5)), (1, v_I x1), (2, v_J x2), (4, v_I x4)] [] := by
  unfold f_X4_hinders at hm
  refine a_aload_n X dX4_hinders_0 rfl ?_
  refine a_iload_n X dX4_hinders_1 rfl ?_
  obtain ⟨r22, q21, hm⟩ := i_b hm
  refine a_callV (k' := 0) (n' := 0) (st := []) X (c_X4_isRing hMR q21) yv_X4_isRing ml_X4_142 rfl (Or.inr (mr5_ hMR)) ⟨by decide, by decide, by decide, by decide, Nat.le_of_ble_eq_true rfl⟩ rfl rfl dX4_hinders_2 rfl rfl ?_
  show At_ v g 7 h M 0 0 5 [(0, v_R (some 5)), (1, v_I x1), (2, v_J x2), (4, v_I x4)] [v_I r22]
  refine a_if_eq (tgt := 25) X dX4_hinders_5 (by decide) hm (fun c23 hm => ?_) (fun c23 hm => ?_)
  · refine a_iconst (x := -1) X dX4_hinders_25 (by decide) ?_
    exact a_iret X hF ⟨rfl, (Prod.mk.inj (Option.some.inj hm)).1, (Prod.mk.inj (Option.some.inj hm)).2⟩ (by decide) dX4_hinders_26
  · refine a_iload X dX4_hinders_8 rfl ?_
    refine a_iconst (x := 1) X dX4_hinders_10 (by decide) ?_
    refine a_icmp_lt (tgt := 25) X dX4_hinders_11 (by decide) hm (fun c24 hm => ?_) (fun c24 hm => ?_)
    · refine a_iconst (x := -1) X dX4_hinders_25 (by decide) ?_
      exact a_iret X hF ⟨rfl, (Prod.mk.inj (Option.some.inj hm)).1, (Prod.mk.inj (Option.some.inj hm)).2⟩ (by decide) dX4_hinders_26
    · refine a_iload X dX4_hinders_14 rfl ?_
      refine a_aload_n X dX4_hinders_16 rfl ?_
      refine a_mgetA X hMR 1 (by decide) rfl rfl fl_X4_7 dX4_hinders_17 ?_
      refine a_iload_n X dX4_hinders_20 rfl ?_
      obtain ⟨b25, hm⟩ := i_c hm
      refine a_maldI X hMR 1 (by decide) rfl rfl rfl b25 dX4_hinders_21 ?_
      refine a_icmp_le (tgt := 27) X dX4_hinders_22 (by decide) hm (fun c26 hm => ?_) (fun c26 hm => ?_)
      · refine a_aload_n X dX4_hinders_27 rfl ?_
        refine a_mgetI X hMR 34 (by decide) rfl fl_X4_135 dX4_hinders_28 ?_
        refine a_if_ne (tgt := 37) X dX4_hinders_31 (by decide) hm (fun c27 hm => ?_) (fun c27 hm => ?_)
        · refine a_aload_n X dX4_hinders_37 rfl ?_
          refine a_mgetA X hMR 3 (by decide) rfl rfl fl_X4_16 dX4_hinders_38 ?_
          refine a_iload_n X dX4_hinders_41 rfl ?_
          obtain ⟨b28, hm⟩ := i_c hm
          refine a_maldI X hMR 3 (by decide) rfl rfl rfl b28 dX4_hinders_42 ?_
          refine a_iconst (x := 2) X dX4_hinders_43 (by decide) ?_
          refine a_icmp_ne (tgt := 50) X dX4_hinders_44 (by decide) hm (fun c29 hm => ?_) (fun c29 hm => ?_)
          · refine a_aload_n X dX4_hinders_50 rfl ?_
            refine a_mgetA X hMR 3 (by decide) rfl rfl fl_X4_16 dX4_hinders_51 ?_
            refine a_iload_n X dX4_hinders_54 rfl ?_
            refine a_maldI X hMR 3 (by decide) rfl rfl rfl b28 dX4_hinders_55 ?_
            refine a_iconst (x := 1) X dX4_hinders_56 (by decide) ?_
            refine a_icmp_ne (tgt := 63) X dX4_hinders_57 (by decide) hm (fun c30 hm => ?_) (fun c30 hm => ?_)
            · refine a_aload_n X dX4_hinders_63 rfl ?_
              refine a_mgetA X hMR 2 (by decide) rfl rfl fl_X4_13 dX4_hinders_64 ?_
              refine a_iload_n X dX4_hinders_67 rfl ?_
              obtain ⟨b31, hm⟩ := i_c hm
              refine a_maldI X hMR 2 (by decide) rfl rfl rfl b31 dX4_hinders_68 ?_
              refine a_if_le (tgt := 86) X dX4_hinders_69 (by decide) hm (fun c32 hm => ?_) (fun c32 hm => ?_)
              · refine a_iconst (x := 0) X dX4_hinders_86 (by decide) ?_
                refine a_istore (lv' := [(0, v_R (some 5)), (1, v_I x1), (2, v_J x2), (4, v_I x4), (5, v_I (0 : Int32))]) X dX4_hinders_87 (by decide) rfl ?_
                refine a_pick (lv' := [(0, v_R (some 5)), (1, v_I x1), (4, v_I x4), (5, v_I (0 : Int32))]) [0, 1, 3, 4] rfl ?_
                exact ql_X4_hinders_89 X hMR hF 70 M x1 x4 (0 : Int32) hm
              · refine a_lload_n X dX4_hinders_72 rfl ?_
                refine a_aload_n X dX4_hinders_73 rfl ?_
                refine a_mgetA X hMR 4 (by decide) rfl rfl fl_X4_19 dX4_hinders_74 ?_
                refine a_iload_n X dX4_hinders_77 rfl ?_
                obtain ⟨b33, hm⟩ := i_c hm
                refine a_maldJ X hMR 4 (by decide) rfl rfl rfl b33 dX4_hinders_78 ?_
                refine a_lcmp X dX4_hinders_79 ?_
                refine a_if_ge (tgt := 86) X dX4_hinders_80 (by decide) hm (fun c34 hm => ?_) (fun c34 hm => ?_)
                · refine a_iconst (x := 0) X dX4_hinders_86 (by decide) ?_
                  refine a_istore (lv' := [(0, v_R (some 5)), (1, v_I x1), (2, v_J x2), (4, v_I x4), (5, v_I (0 : Int32))]) X dX4_hinders_87 (by decide) rfl ?_
                  refine a_pick (lv' := [(0, v_R (some 5)), (1, v_I x1), (4, v_I x4), (5, v_I (0 : Int32))]) [0, 1, 3, 4] rfl ?_
                  exact ql_X4_hinders_89 X hMR hF 70 M x1 x4 (0 : Int32) hm
                · refine a_bipush (x := -9) X dX4_hinders_83 (by decide) ?_
                  exact a_iret X hF ⟨rfl, (Prod.mk.inj (Option.some.inj hm)).1, (Prod.mk.inj (Option.some.inj hm)).2⟩ (by decide) dX4_hinders_85
            · refine a_bipush (x := -8) X dX4_hinders_60 (by decide) ?_
              exact a_iret X hF ⟨rfl, (Prod.mk.inj (Option.some.inj hm)).1, (Prod.mk.inj (Option.some.inj hm)).2⟩ (by decide) dX4_hinders_62
          · refine a_bipush (x := -7) X dX4_hinders_47 (by decide) ?_
            exact a_iret X hF ⟨rfl, (Prod.mk.inj (Option.some.inj hm)).1, (Prod.mk.inj (Option.some.inj hm)).2⟩ (by decide) dX4_hinders_49
        · refine a_bipush (x := -2) X dX4_hinders_34 (by decide) ?_
          exact a_iret X hF ⟨rfl, (Prod.mk.inj (Option.some.inj hm)).1, (Prod.mk.inj (Option.some.inj hm)).2⟩ (by decide) dX4_hinders_36
      · refine a_iconst (x := -1) X dX4_hinders_25 (by decide) ?_
        exact a_iret X hF ⟨rfl, (Prod.mk.inj (Option.some.inj hm)).1, (Prod.mk.inj (Option.some.inj hm)).2⟩ (by decide) dX4_hinders_26
theorem c_X4_hinders {l : Launch} {g : Gvx} {h : Hpx} {M : Msx} {M' : Msx} {r : Int32} {x1 : Int32} {x2 : Int64} {x4 : Int32} (hMR : MR_ h) (hm : f_X4_hinders M x1 x2 x4 = some (M', r)) : Mt_ l g yX4_hinders cX4_hinders 7 ((some .int)) rm_X4_hinders [v_R (some 5), v_I x1, v_J x2, v_I x4] h M (some (v_I r)) h M' := mt_of (by decide) (Nat.le_of_ble_eq_true rfl) (fun v _ X hF => q_X4_hinders_0 X hMR hF M x1 x2 x4 hm)
theorem yv_X4_hinders : Yv_ yX4_hinders cX4_hinders 7 ((some .int)) 3 4 := ⟨rfl, by decide, ⟨by decide, by decide, by decide +kernel⟩, co_X4_hinders, im_X4_hinders, se_X4_hinders, ini_X4⟩

abbrev rm_X4_makeAll : Room := { frames := 5, cells := 0, slots := 0, locals := 119 }
def j_X4_makeAll_35 (rec_35 : Msx → Int32 → Int64 → Int32 → Int32 → Int32 → Option (Msx × Int32)) (M : Msx) (x1 : Int32) (x2 : Int64) (x4 : Int32) (x6 : Int32) (x7 : Int32) : Option (Msx × Int32) :=
  (if x4 ≤ x7 then
  some (M, x6)
  else (f_X4_make M x1 x2).bind fun M29 =>
  rec_35 M29 x1 x2 x4 x6 (x7 + (1 : Int32)))
set_option maxHeartbeats 4000000 in
theorem q_X4_makeAll_35 {v : Evx} {g : Gvx} {h : Hpx} {M' : Msx} {r : Int32} (X : Cx_ v g cX4_makeAll 8 RX4 "makeAll" ((some .int)) rm_X4_makeAll) (hMR : MR_ h) (hF : Fi_ v g rm_X4_makeAll (some (v_I r)) h M') (rec_35 : Msx → Int32 → Int64 → Int32 → Int32 → Int32 → Option (Msx × Int32)) (hr_35 : ∀ (M : Msx) (x1 : Int32) (x2 : Int64) (x4 : Int32) (x6 : Int32) (x7 : Int32), rec_35 M x1 x2 x4 x6 x7 = some (M', r) → At_ v g 8 h M 0 0 35 [(0, v_R (some 5)), (1, v_I x1), (2, v_J x2), (4, v_I x4), (6, v_I x6), (7, v_I x7)] []) (M : Msx) (x1 : Int32) (x2 : Int64) (x4 : Int32) (x6 : Int32) (x7 : Int32) (hm : j_X4_makeAll_35 rec_35 M x1 x2 x4 x6 x7 = some (M', r)) : At_ v g 8 h M 0 0 35 [(0, v_R (some 5)), (1, v_I x1), (2, v_J x2), (4, v_I x4), (6, v_I x6), (7, v_I x7)] [] := by
  unfold j_X4_makeAll_35 at hm
  refine a_iload X dX4_makeAll_35 rfl ?_
  refine a_iload X dX4_makeAll_37 rfl ?_
  refine a_icmp_ge (tgt := 54) X dX4_makeAll_39 (by decide) hm (fun c27 hm => ?_) (fun c27 hm => ?_)
  · refine a_iload X dX4_makeAll_54 rfl ?_
    exact a_iret X hF ⟨rfl, (Prod.mk.inj (Option.some.inj hm)).1, (Prod.mk.inj (Option.some.inj hm)).2⟩ (by decide) dX4_makeAll_56
  · refine a_aload_n X dX4_makeAll_42 rfl ?_
    refine a_iload_n X dX4_makeAll_43 rfl ?_
    refine a_lload_n X dX4_makeAll_44 rfl ?_
    obtain ⟨M29, q28, hm⟩ := i_b hm
    refine a_callV (k' := 0) (n' := 0) (st := []) X (c_X4_make hMR q28) yv_X4_make ml_X4_196 rfl (Or.inr (mr5_ hMR)) ⟨by decide, by decide, by decide, by decide, Nat.le_of_ble_eq_true rfl⟩ rfl rfl dX4_makeAll_45 rfl rfl ?_
    show At_ v g 8 h M29 0 0 48 [(0, v_R (some 5)), (1, v_I x1), (2, v_J x2), (4, v_I x4), (6, v_I x6), (7, v_I x7)] []
    refine a_iinc (y := x7 + (1 : Int32)) (lv' := [(0, v_R (some 5)), (1, v_I x1), (2, v_J x2), (4, v_I x4), (6, v_I x6), (7, v_I (x7 + (1 : Int32)))]) X dX4_makeAll_48 rfl rfl (by decide) rfl ?_
    refine a_goto (tgt := 35) X dX4_makeAll_51 (by decide) ?_
    exact hr_35 M29 x1 x2 x4 x6 (x7 + (1 : Int32)) hm
def l_X4_makeAll_35 (n : Nat) : Msx → Int32 → Int64 → Int32 → Int32 → Int32 → Option (Msx × Int32) := lp_ (fun rec_35 => j_X4_makeAll_35 rec_35) (fun _ _ _ _ _ _ => none) n
theorem ql_X4_makeAll_35 {v : Evx} {g : Gvx} {h : Hpx} {M' : Msx} {r : Int32} (X : Cx_ v g cX4_makeAll 8 RX4 "makeAll" ((some .int)) rm_X4_makeAll) (hMR : MR_ h) (hF : Fi_ v g rm_X4_makeAll (some (v_I r)) h M') : ∀ (n : Nat) (M : Msx) (x1 : Int32) (x2 : Int64) (x4 : Int32) (x6 : Int32) (x7 : Int32), l_X4_makeAll_35 n M x1 x2 x4 x6 x7 = some (M', r) → At_ v g 8 h M 0 0 35 [(0, v_R (some 5)), (1, v_I x1), (2, v_J x2), (4, v_I x4), (6, v_I x6), (7, v_I x7)] [] := by
  intro n
  induction n with
  | zero => intro M x1 x2 x4 x6 x7 hm; cases hm
  | succ n ih =>
    intro M x1 x2 x4 x6 x7 hm
    exact q_X4_makeAll_35 X hMR hF (l_X4_makeAll_35 n) ih M x1 x2 x4 x6 x7 hm
def f_X4_makeAll (M : Msx) (x1 : Int32) (x2 : Int64) (x4 : Int32) : Option (Msx × Int32) :=
  c_l (f_X4_hinders M x1 x2 x4) fun M22 r23 =>
  (if 0 ≤ r23 then
  (if in_b x1 8 = true then
  l_X4_makeAll_35 70 M22 x1 x2 x4 (m_I M22 2 x1.toNatClampNeg) (0 : Int32) else none)
  else b_d (n_I M22 37 0 r23) fun M26 =>
  some (M26, r23))
set_option maxHeartbeats 4000000 in
theorem q_X4_makeAll_0 {v : Evx} {g : Gvx} {h : Hpx} {M' : Msx} {r : Int32} (X : Cx_ v g cX4_makeAll 8 RX4 "makeAll" ((some .int)) rm_X4_makeAll) (hMR : MR_ h) (hF : Fi_ v g rm_X4_makeAll (some (v_I r)) h M') (M : Msx) (x1 : Int32) (x2 : Int64) (x4 : Int32) (hm : f_X4_makeAll M x1 x2 x4 = some (M', r)) : At_ v g 8 h M 0 0 0 [(0, v_R (some 5)), (1, v_I x1), (2, v_J x2), (4, v_I x4)] [] := by
  unfold f_X4_makeAll at hm
  refine a_aload_n X dX4_makeAll_0 rfl ?_
  refine a_iload_n X dX4_makeAll_1 rfl ?_
  refine a_lload_n X dX4_makeAll_2 rfl ?_
  refine a_iload X dX4_makeAll_3 rfl ?_
  obtain ⟨M22, r23, q21, hm⟩ := i_l hm
  refine a_callV (k' := 0) (n' := 0) (st := []) X (c_X4_hinders hMR q21) yv_X4_hinders ml_X4_189 rfl (Or.inr (mr5_ hMR)) ⟨by decide, by decide, by decide, by decide, Nat.le_of_ble_eq_true rfl⟩ rfl rfl dX4_makeAll_5 rfl rfl ?_
  show At_ v g 8 h M22 0 0 8 [(0, v_R (some 5)), (1, v_I x1), (2, v_J x2), (4, v_I x4)] [v_I r23]
  refine a_istore (lv' := [(0, v_R (some 5)), (1, v_I x1), (2, v_J x2), (4, v_I x4), (5, v_I r23)]) X dX4_makeAll_8 (by decide) rfl ?_
  refine a_iload X dX4_makeAll_10 rfl ?_
  refine a_if_ge (tgt := 24) X dX4_makeAll_12 (by decide) hm (fun c24 hm => ?_) (fun c24 hm => ?_)
  · refine a_aload_n X dX4_makeAll_24 rfl ?_
    refine a_mgetA X hMR 2 (by decide) rfl rfl fl_X4_13 dX4_makeAll_25 ?_
    refine a_iload_n X dX4_makeAll_28 rfl ?_
    obtain ⟨b25, hm⟩ := i_c hm
    refine a_maldI X hMR 2 (by decide) rfl rfl rfl b25 dX4_makeAll_29 ?_
    refine a_istore (lv' := [(0, v_R (some 5)), (1, v_I x1), (2, v_J x2), (4, v_I x4), (5, v_I r23), (6, v_I (m_I M22 2 x1.toNatClampNeg))]) X dX4_makeAll_30 (by decide) rfl ?_
    refine a_iconst (x := 0) X dX4_makeAll_32 (by decide) ?_
    refine a_istore (lv' := [(0, v_R (some 5)), (1, v_I x1), (2, v_J x2), (4, v_I x4), (5, v_I r23), (6, v_I (m_I M22 2 x1.toNatClampNeg)), (7, v_I (0 : Int32))]) X dX4_makeAll_33 (by decide) rfl ?_
    refine a_pick (lv' := [(0, v_R (some 5)), (1, v_I x1), (2, v_J x2), (4, v_I x4), (6, v_I (m_I M22 2 x1.toNatClampNeg)), (7, v_I (0 : Int32))]) [0, 1, 2, 3, 5, 6] rfl ?_
    exact ql_X4_makeAll_35 X hMR hF 70 M22 x1 x2 x4 (m_I M22 2 x1.toNatClampNeg) (0 : Int32) hm
  · refine a_aload_n X dX4_makeAll_15 rfl ?_
    refine a_iload X dX4_makeAll_16 rfl ?_
    obtain ⟨M26, eM26, hm⟩ := i_d hm
    refine a_mputI X hMR 37 (by decide) rfl rfl rfl rfl fl_X4_193 dX4_makeAll_18 ?_
    rw [← eM26]
    refine a_iload X dX4_makeAll_21 rfl ?_
    exact a_iret X hF ⟨rfl, (Prod.mk.inj (Option.some.inj hm)).1, (Prod.mk.inj (Option.some.inj hm)).2⟩ (by decide) dX4_makeAll_23
theorem c_X4_makeAll {l : Launch} {g : Gvx} {h : Hpx} {M : Msx} {M' : Msx} {r : Int32} {x1 : Int32} {x2 : Int64} {x4 : Int32} (hMR : MR_ h) (hm : f_X4_makeAll M x1 x2 x4 = some (M', r)) : Mt_ l g yX4_makeAll cX4_makeAll 8 ((some .int)) rm_X4_makeAll [v_R (some 5), v_I x1, v_J x2, v_I x4] h M (some (v_I r)) h M' := mt_of (by decide) (Nat.le_of_ble_eq_true rfl) (fun v _ X hF => q_X4_makeAll_0 X hMR hF M x1 x2 x4 hm)
theorem yv_X4_makeAll : Yv_ yX4_makeAll cX4_makeAll 8 ((some .int)) 3 4 := ⟨rfl, by decide, ⟨by decide, by decide, by decide +kernel⟩, co_X4_makeAll, im_X4_makeAll, se_X4_makeAll, ini_X4⟩

abbrev rm_X4_claim : Room := { frames := 6, cells := 0, slots := 0, locals := 146 }
def f_X4_claim (M : Msx) (x1 : Int32) (x2 : Int64) : Option (Msx × Int32) :=
  c_l (f_X4_makeAll M x1 x2 (1 : Int32)) fun M22 r23 =>
  some (M22, r23)
set_option maxHeartbeats 4000000 in
theorem q_X4_claim_0 {v : Evx} {g : Gvx} {h : Hpx} {M' : Msx} {r : Int32} (X : Cx_ v g cX4_claim 4 RX4 "claim" ((some .int)) rm_X4_claim) (hMR : MR_ h) (hF : Fi_ v g rm_X4_claim (some (v_I r)) h M') (M : Msx) (x1 : Int32) (x2 : Int64) (hm : f_X4_claim M x1 x2 = some (M', r)) : At_ v g 4 h M 0 0 0 [(0, v_R (some 5)), (1, v_I x1), (2, v_J x2)] [] := by
  unfold f_X4_claim at hm
  refine a_aload_n X dX4_claim_0 rfl ?_
  refine a_iload_n X dX4_claim_1 rfl ?_
  refine a_lload_n X dX4_claim_2 rfl ?_
  refine a_iconst (x := 1) X dX4_claim_3 (by decide) ?_
  obtain ⟨M22, r23, q21, hm⟩ := i_l hm
  refine a_callV (k' := 0) (n' := 0) (st := []) X (c_X4_makeAll hMR q21) yv_X4_makeAll ml_X4_200 rfl (Or.inr (mr5_ hMR)) ⟨by decide, by decide, by decide, by decide, Nat.le_of_ble_eq_true rfl⟩ rfl rfl dX4_claim_4 rfl rfl ?_
  show At_ v g 4 h M22 0 0 7 [(0, v_R (some 5)), (1, v_I x1), (2, v_J x2)] [v_I r23]
  exact a_iret X hF ⟨rfl, (Prod.mk.inj (Option.some.inj hm)).1, (Prod.mk.inj (Option.some.inj hm)).2⟩ (by decide) dX4_claim_7
theorem c_X4_claim {l : Launch} {g : Gvx} {h : Hpx} {M : Msx} {M' : Msx} {r : Int32} {x1 : Int32} {x2 : Int64} (hMR : MR_ h) (hm : f_X4_claim M x1 x2 = some (M', r)) : Mt_ l g yX4_claim cX4_claim 4 ((some .int)) rm_X4_claim [v_R (some 5), v_I x1, v_J x2] h M (some (v_I r)) h M' := mt_of (by decide) (Nat.le_of_ble_eq_true rfl) (fun v _ X hF => q_X4_claim_0 X hMR hF M x1 x2 hm)
theorem yv_X4_claim : Yv_ yX4_claim cX4_claim 4 ((some .int)) 2 4 := ⟨rfl, by decide, ⟨by decide, by decide, by decide +kernel⟩, co_X4_claim, im_X4_claim, se_X4_claim, ini_X4⟩

abbrev rm_X4_batch : Room := { frames := 6, cells := 0, slots := 0, locals := 146 }
def f_X4_batch (M : Msx) (x1 : Int32) (x2 : Int64) (x4 : Int32) : Option (Msx × Int32) :=
  c_l (f_X4_makeAll M x1 x2 x4) fun M22 r23 =>
  some (M22, r23)
set_option maxHeartbeats 4000000 in
theorem q_X4_batch_0 {v : Evx} {g : Gvx} {h : Hpx} {M' : Msx} {r : Int32} (X : Cx_ v g cX4_batch 5 RX4 "batch" ((some .int)) rm_X4_batch) (hMR : MR_ h) (hF : Fi_ v g rm_X4_batch (some (v_I r)) h M') (M : Msx) (x1 : Int32) (x2 : Int64) (x4 : Int32) (hm : f_X4_batch M x1 x2 x4 = some (M', r)) : At_ v g 5 h M 0 0 0 [(0, v_R (some 5)), (1, v_I x1), (2, v_J x2), (4, v_I x4)] [] := by
  unfold f_X4_batch at hm
  refine a_aload_n X dX4_batch_0 rfl ?_
  refine a_iload_n X dX4_batch_1 rfl ?_
  refine a_lload_n X dX4_batch_2 rfl ?_
  refine a_iload X dX4_batch_3 rfl ?_
  obtain ⟨M22, r23, q21, hm⟩ := i_l hm
  refine a_callV (k' := 0) (n' := 0) (st := []) X (c_X4_makeAll hMR q21) yv_X4_makeAll ml_X4_200 rfl (Or.inr (mr5_ hMR)) ⟨by decide, by decide, by decide, by decide, Nat.le_of_ble_eq_true rfl⟩ rfl rfl dX4_batch_5 rfl rfl ?_
  show At_ v g 5 h M22 0 0 8 [(0, v_R (some 5)), (1, v_I x1), (2, v_J x2), (4, v_I x4)] [v_I r23]
  exact a_iret X hF ⟨rfl, (Prod.mk.inj (Option.some.inj hm)).1, (Prod.mk.inj (Option.some.inj hm)).2⟩ (by decide) dX4_batch_8
theorem c_X4_batch {l : Launch} {g : Gvx} {h : Hpx} {M : Msx} {M' : Msx} {r : Int32} {x1 : Int32} {x2 : Int64} {x4 : Int32} (hMR : MR_ h) (hm : f_X4_batch M x1 x2 x4 = some (M', r)) : Mt_ l g yX4_batch cX4_batch 5 ((some .int)) rm_X4_batch [v_R (some 5), v_I x1, v_J x2, v_I x4] h M (some (v_I r)) h M' := mt_of (by decide) (Nat.le_of_ble_eq_true rfl) (fun v _ X hF => q_X4_batch_0 X hMR hF M x1 x2 x4 hm)
theorem yv_X4_batch : Yv_ yX4_batch cX4_batch 5 ((some .int)) 3 4 := ⟨rfl, by decide, ⟨by decide, by decide, by decide +kernel⟩, co_X4_batch, im_X4_batch, se_X4_batch, ini_X4⟩

abbrev rm_X4_by : Room := { frames := 0, cells := 0, slots := 0, locals := 0 }
def f_X4_by (M : Msx) : Option (Int32) :=
  some (m_I M 36 0)
set_option maxHeartbeats 4000000 in
theorem q_X4_by_0 {v : Evx} {g : Gvx} {h : Hpx} {r : Int32} (X : Cx_ v g cX4_by 1 RX4 "by" ((some .int)) rm_X4_by) (hMR : MR_ h) (M : Msx) (hF : Fi_ v g rm_X4_by (some (v_I r)) h M) (hm : f_X4_by M = some r) : At_ v g 1 h M 0 0 0 [(0, v_R (some 5))] [] := by
  unfold f_X4_by at hm
  refine a_aload_n X dX4_by_0 rfl ?_
  refine a_mgetI X hMR 36 (by decide) rfl fl_X4_108 dX4_by_1 ?_
  exact a_iret X hF ⟨rfl, rfl, Option.some.inj hm⟩ (by decide) dX4_by_4
theorem c_X4_by {l : Launch} {g : Gvx} {h : Hpx} {M : Msx} {r : Int32} (hMR : MR_ h) (hm : f_X4_by M = some r) : Mt_ l g yX4_by cX4_by 1 ((some .int)) rm_X4_by [v_R (some 5)] h M (some (v_I r)) h M := mt_of (by decide) (Nat.le_of_ble_eq_true rfl) (fun v _ X hF => q_X4_by_0 X hMR M hF hm)
theorem yv_X4_by : Yv_ yX4_by cX4_by 1 ((some .int)) 0 4 := ⟨rfl, by decide, ⟨by decide, by decide, by decide +kernel⟩, co_X4_by, im_X4_by, se_X4_by, ini_X4⟩

abbrev rm_X4_again : Room := { frames := 1, cells := 0, slots := 0, locals := 21 }
def f_X4_again (M : Msx) : Option (Msx × Int32) :=
  (if 0 ≤ (m_I M 37 0) then
  c_l (f_X4_find M (6 : Int32)) fun M23 r24 =>
  some (M23, r24)
  else some (M, (m_I M 37 0)))
set_option maxHeartbeats 4000000 in
theorem q_X4_again_0 {v : Evx} {g : Gvx} {h : Hpx} {M' : Msx} {r : Int32} (X : Cx_ v g cX4_again 1 RX4 "again" ((some .int)) rm_X4_again) (hMR : MR_ h) (hF : Fi_ v g rm_X4_again (some (v_I r)) h M') (M : Msx) (hm : f_X4_again M = some (M', r)) : At_ v g 1 h M 0 0 0 [(0, v_R (some 5))] [] := by
  unfold f_X4_again at hm
  refine a_aload_n X dX4_again_0 rfl ?_
  refine a_mgetI X hMR 37 (by decide) rfl fl_X4_193 dX4_again_1 ?_
  refine a_if_ge (tgt := 14) X dX4_again_4 (by decide) hm (fun c21 hm => ?_) (fun c21 hm => ?_)
  · refine a_aload_n X dX4_again_14 rfl ?_
    refine a_bipush (x := 6) X dX4_again_15 (by decide) ?_
    obtain ⟨M23, r24, q22, hm⟩ := i_l hm
    refine a_callV (k' := 0) (n' := 0) (st := []) X (c_X4_find hMR q22) yv_X4_find ml_X4_131 rfl (Or.inr (mr5_ hMR)) ⟨by decide, by decide, by decide, by decide, Nat.le_of_ble_eq_true rfl⟩ rfl rfl dX4_again_17 rfl rfl ?_
    show At_ v g 1 h M23 0 0 20 [(0, v_R (some 5))] [v_I r24]
    exact a_iret X hF ⟨rfl, (Prod.mk.inj (Option.some.inj hm)).1, (Prod.mk.inj (Option.some.inj hm)).2⟩ (by decide) dX4_again_20
  · refine a_aload_n X dX4_again_7 rfl ?_
    refine a_mgetI X hMR 37 (by decide) rfl fl_X4_193 dX4_again_8 ?_
    refine a_goto (tgt := 20) X dX4_again_11 (by decide) ?_
    exact a_iret X hF ⟨rfl, (Prod.mk.inj (Option.some.inj hm)).1, (Prod.mk.inj (Option.some.inj hm)).2⟩ (by decide) dX4_again_20
theorem c_X4_again {l : Launch} {g : Gvx} {h : Hpx} {M : Msx} {M' : Msx} {r : Int32} (hMR : MR_ h) (hm : f_X4_again M = some (M', r)) : Mt_ l g yX4_again cX4_again 1 ((some .int)) rm_X4_again [v_R (some 5)] h M (some (v_I r)) h M' := mt_of (by decide) (Nat.le_of_ble_eq_true rfl) (fun v _ X hF => q_X4_again_0 X hMR hF M hm)
theorem yv_X4_again : Yv_ yX4_again cX4_again 1 ((some .int)) 0 4 := ⟨rfl, by decide, ⟨by decide, by decide, by decide +kernel⟩, co_X4_again, im_X4_again, se_X4_again, ini_X4⟩

abbrev rm_X4_fill : Room := { frames := 2, cells := 0, slots := 0, locals := 44 }
def j_X4_fill_58 (M : Msx) : Option (Msx × Int32) :=
  c_l (f_X4_find M (2 : Int32)) fun M40 r41 =>
  some (M40, r41)
set_option maxHeartbeats 4000000 in
theorem q_X4_fill_58 {v : Evx} {g : Gvx} {h : Hpx} {M' : Msx} {r : Int32} (X : Cx_ v g cX4_fill 6 RX4 "fill" ((some .int)) rm_X4_fill) (hMR : MR_ h) (hF : Fi_ v g rm_X4_fill (some (v_I r)) h M') (M : Msx) (hm : j_X4_fill_58 M = some (M', r)) : At_ v g 6 h M 0 0 58 [(0, v_R (some 5))] [] := by
  unfold j_X4_fill_58 at hm
  refine a_aload_n X dX4_fill_58 rfl ?_
  refine a_iconst (x := 2) X dX4_fill_59 (by decide) ?_
  obtain ⟨M40, r41, q39, hm⟩ := i_l hm
  refine a_callV (k' := 0) (n' := 0) (st := []) X (c_X4_find hMR q39) yv_X4_find ml_X4_131 rfl (Or.inr (mr5_ hMR)) ⟨by decide, by decide, by decide, by decide, Nat.le_of_ble_eq_true rfl⟩ rfl rfl dX4_fill_60 rfl rfl ?_
  show At_ v g 6 h M40 0 0 63 [(0, v_R (some 5))] [v_I r41]
  exact a_iret X hF ⟨rfl, (Prod.mk.inj (Option.some.inj hm)).1, (Prod.mk.inj (Option.some.inj hm)).2⟩ (by decide) dX4_fill_63
def f_X4_fill (M : Msx) (x1 : Int32) (x2 : Int32) (x3 : Int32) (x4 : Int64) : Option (Msx × Int32) :=
  (f_X4_isRing M x1).bind fun r22 =>
  (if r22 = 0 then
  some (M, (-1 : Int32))
  else (if (m_I M 34 0) = 0 then
  some (M, (-2 : Int32))
  else (if in_b x1 8 = true then
  (if (m_I M 3 x1.toNatClampNeg) = (2 : Int32) then
  c_l (f_X4_find M (1 : Int32)) fun M37 r38 =>
  some (M37, r38)
  else (f_X4_isOpen M x1 x2).bind fun r28 =>
  (if r28 = 0 then
  some (M, (-11 : Int32))
  else (if x3 < 0 then
  j_X4_fill_58 M
  else (if x3 ≤ (7 : Int32) then
  (f_X4_slot M x1 x2).bind fun r33 =>
  (if in_b (((8 : Int32) * r33) + x3) 4096 = true then
  b_d (n_J M 9 (((8 : Int32) * r33) + x3).toNatClampNeg x4) fun M35 =>
  some (M35, (1 : Int32)) else none)
  else j_X4_fill_58 M)))) else none)))
set_option maxHeartbeats 4000000 in
theorem q_X4_fill_0 {v : Evx} {g : Gvx} {h : Hpx} {M' : Msx} {r : Int32} (X : Cx_ v g cX4_fill 6 RX4 "fill" ((some .int)) rm_X4_fill) (hMR : MR_ h) (hF : Fi_ v g rm_X4_fill (some (v_I r)) h M') (M : Msx) (x1 : Int32) (x2 : Int32) (x3 : Int32) (x4 : Int64) (hm : f_X4_fill M x1 x2 x3 x4 = some (M', r)) : At_ v g 6 h M 0 0 0 [(0, v_R (some 5)), (1, v_I x1), (2, v_I x2), (3, v_I x3), (4, v_J x4)] [] := by
  unfold f_X4_fill at hm
  refine a_aload_n X dX4_fill_0 rfl ?_
  refine a_iload_n X dX4_fill_1 rfl ?_
  obtain ⟨r22, q21, hm⟩ := i_b hm
  refine a_callV (k' := 0) (n' := 0) (st := []) X (c_X4_isRing hMR q21) yv_X4_isRing ml_X4_142 rfl (Or.inr (mr5_ hMR)) ⟨by decide, by decide, by decide, by decide, Nat.le_of_ble_eq_true rfl⟩ rfl rfl dX4_fill_2 rfl rfl ?_
  show At_ v g 6 h M 0 0 5 [(0, v_R (some 5)), (1, v_I x1), (2, v_I x2), (3, v_I x3), (4, v_J x4)] [v_I r22]
  refine a_if_ne (tgt := 10) X dX4_fill_5 (by decide) hm (fun c23 hm => ?_) (fun c23 hm => ?_)
  · refine a_aload_n X dX4_fill_10 rfl ?_
    refine a_mgetI X hMR 34 (by decide) rfl fl_X4_135 dX4_fill_11 ?_
    refine a_if_ne (tgt := 20) X dX4_fill_14 (by decide) hm (fun c24 hm => ?_) (fun c24 hm => ?_)
    · refine a_aload_n X dX4_fill_20 rfl ?_
      refine a_mgetA X hMR 3 (by decide) rfl rfl fl_X4_16 dX4_fill_21 ?_
      refine a_iload_n X dX4_fill_24 rfl ?_
      obtain ⟨b25, hm⟩ := i_c hm
      refine a_maldI X hMR 3 (by decide) rfl rfl rfl b25 dX4_fill_25 ?_
      refine a_iconst (x := 2) X dX4_fill_26 (by decide) ?_
      refine a_icmp_ne (tgt := 36) X dX4_fill_27 (by decide) hm (fun c26 hm => ?_) (fun c26 hm => ?_)
      · refine a_aload_n X dX4_fill_36 rfl ?_
        refine a_iload_n X dX4_fill_37 rfl ?_
        refine a_iload_n X dX4_fill_38 rfl ?_
        obtain ⟨r28, q27, hm⟩ := i_b hm
        refine a_callV (k' := 0) (n' := 0) (st := []) X (c_X4_isOpen hMR q27) yv_X4_isOpen ml_X4_180 rfl (Or.inr (mr5_ hMR)) ⟨by decide, by decide, by decide, by decide, Nat.le_of_ble_eq_true rfl⟩ rfl rfl dX4_fill_39 rfl rfl ?_
        show At_ v g 6 h M 0 0 42 [(0, v_R (some 5)), (1, v_I x1), (2, v_I x2), (3, v_I x3), (4, v_J x4)] [v_I r28]
        refine a_if_ne (tgt := 48) X dX4_fill_42 (by decide) hm (fun c29 hm => ?_) (fun c29 hm => ?_)
        · refine a_iload_n X dX4_fill_48 rfl ?_
          refine a_if_lt (tgt := 58) X dX4_fill_49 (by decide) hm (fun c30 hm => ?_) (fun c30 hm => ?_)
          · refine a_pick (lv' := [(0, v_R (some 5))]) [0] rfl ?_
            exact q_X4_fill_58 X hMR hF M hm
          · refine a_iload_n X dX4_fill_52 rfl ?_
            refine a_bipush (x := 7) X dX4_fill_53 (by decide) ?_
            refine a_icmp_le (tgt := 64) X dX4_fill_55 (by decide) hm (fun c31 hm => ?_) (fun c31 hm => ?_)
            · refine a_aload_n X dX4_fill_64 rfl ?_
              refine a_mgetA X hMR 9 (by decide) rfl rfl fl_X4_36 dX4_fill_65 ?_
              refine a_bipush (x := 8) X dX4_fill_68 (by decide) ?_
              refine a_aload_n X dX4_fill_70 rfl ?_
              refine a_iload_n X dX4_fill_71 rfl ?_
              refine a_iload_n X dX4_fill_72 rfl ?_
              obtain ⟨r33, q32, hm⟩ := i_b hm
              refine a_callV (k' := 0) (n' := 0) (st := [v_I (8 : Int32), v_R (some 14)]) X (c_X4_slot hMR q32) yv_X4_slot ml_X4_171 rfl (Or.inr (mr5_ hMR)) ⟨by decide, by decide, by decide, by decide, Nat.le_of_ble_eq_true rfl⟩ rfl rfl dX4_fill_73 rfl rfl ?_
              show At_ v g 6 h M 0 0 76 [(0, v_R (some 5)), (1, v_I x1), (2, v_I x2), (3, v_I x3), (4, v_J x4)] [v_I r33, v_I (8 : Int32), v_R (some 14)]
              refine a_imul X dX4_fill_76 ?_
              refine a_iload_n X dX4_fill_77 rfl ?_
              refine a_iadd X dX4_fill_78 ?_
              refine a_lload X dX4_fill_79 rfl ?_
              obtain ⟨b34, hm⟩ := i_c hm
              obtain ⟨M35, eM35, hm⟩ := i_d hm
              refine a_mastJ X hMR 9 (by decide) rfl rfl rfl b34 dX4_fill_81 ?_
              rw [← eM35]
              refine a_iconst (x := 1) X dX4_fill_82 (by decide) ?_
              exact a_iret X hF ⟨rfl, (Prod.mk.inj (Option.some.inj hm)).1, (Prod.mk.inj (Option.some.inj hm)).2⟩ (by decide) dX4_fill_83
            · refine a_pick (lv' := [(0, v_R (some 5))]) [0] rfl ?_
              exact q_X4_fill_58 X hMR hF M hm
        · refine a_bipush (x := -11) X dX4_fill_45 (by decide) ?_
          exact a_iret X hF ⟨rfl, (Prod.mk.inj (Option.some.inj hm)).1, (Prod.mk.inj (Option.some.inj hm)).2⟩ (by decide) dX4_fill_47
      · refine a_aload_n X dX4_fill_30 rfl ?_
        refine a_iconst (x := 1) X dX4_fill_31 (by decide) ?_
        obtain ⟨M37, r38, q36, hm⟩ := i_l hm
        refine a_callV (k' := 0) (n' := 0) (st := []) X (c_X4_find hMR q36) yv_X4_find ml_X4_131 rfl (Or.inr (mr5_ hMR)) ⟨by decide, by decide, by decide, by decide, Nat.le_of_ble_eq_true rfl⟩ rfl rfl dX4_fill_32 rfl rfl ?_
        show At_ v g 6 h M37 0 0 35 [(0, v_R (some 5)), (1, v_I x1), (2, v_I x2), (3, v_I x3), (4, v_J x4)] [v_I r38]
        exact a_iret X hF ⟨rfl, (Prod.mk.inj (Option.some.inj hm)).1, (Prod.mk.inj (Option.some.inj hm)).2⟩ (by decide) dX4_fill_35
    · refine a_bipush (x := -2) X dX4_fill_17 (by decide) ?_
      exact a_iret X hF ⟨rfl, (Prod.mk.inj (Option.some.inj hm)).1, (Prod.mk.inj (Option.some.inj hm)).2⟩ (by decide) dX4_fill_19
  · refine a_iconst (x := -1) X dX4_fill_8 (by decide) ?_
    exact a_iret X hF ⟨rfl, (Prod.mk.inj (Option.some.inj hm)).1, (Prod.mk.inj (Option.some.inj hm)).2⟩ (by decide) dX4_fill_9
theorem c_X4_fill {l : Launch} {g : Gvx} {h : Hpx} {M : Msx} {M' : Msx} {r : Int32} {x1 : Int32} {x2 : Int32} {x3 : Int32} {x4 : Int64} (hMR : MR_ h) (hm : f_X4_fill M x1 x2 x3 x4 = some (M', r)) : Mt_ l g yX4_fill cX4_fill 6 ((some .int)) rm_X4_fill [v_R (some 5), v_I x1, v_I x2, v_I x3, v_J x4] h M (some (v_I r)) h M' := mt_of (by decide) (Nat.le_of_ble_eq_true rfl) (fun v _ X hF => q_X4_fill_0 X hMR hF M x1 x2 x3 x4 hm)
theorem yv_X4_fill : Yv_ yX4_fill cX4_fill 6 ((some .int)) 4 4 := ⟨rfl, by decide, ⟨by decide, by decide, by decide +kernel⟩, co_X4_fill, im_X4_fill, se_X4_fill, ini_X4⟩

abbrev rm_X4_copy : Room := { frames := 2, cells := 0, slots := 0, locals := 44 }
def j_X4_copy_83 (M : Msx) : Option (Msx × Int32) :=
  c_l (f_X4_find M (5 : Int32)) fun M41 r42 =>
  some (M41, r42)
set_option maxHeartbeats 4000000 in
theorem q_X4_copy_83 {v : Evx} {g : Gvx} {h : Hpx} {M' : Msx} {r : Int32} (X : Cx_ v g cX4_copy 7 RX4 "copy" ((some .int)) rm_X4_copy) (hMR : MR_ h) (hF : Fi_ v g rm_X4_copy (some (v_I r)) h M') (M : Msx) (hm : j_X4_copy_83 M = some (M', r)) : At_ v g 7 h M 0 0 83 [(0, v_R (some 5))] [] := by
  unfold j_X4_copy_83 at hm
  refine a_aload_n X dX4_copy_83 rfl ?_
  refine a_iconst (x := 5) X dX4_copy_84 (by decide) ?_
  obtain ⟨M41, r42, q40, hm⟩ := i_l hm
  refine a_callV (k' := 0) (n' := 0) (st := []) X (c_X4_find hMR q40) yv_X4_find ml_X4_131 rfl (Or.inr (mr5_ hMR)) ⟨by decide, by decide, by decide, by decide, Nat.le_of_ble_eq_true rfl⟩ rfl rfl dX4_copy_85 rfl rfl ?_
  show At_ v g 7 h M41 0 0 88 [(0, v_R (some 5))] [v_I r42]
  exact a_iret X hF ⟨rfl, (Prod.mk.inj (Option.some.inj hm)).1, (Prod.mk.inj (Option.some.inj hm)).2⟩ (by decide) dX4_copy_88
def j_X4_copy_92 (rec_92 : Msx → Int32 → Int32 → Int32 → Int32 → Int32 → Int32 → Option (Msx × Int32)) (M : Msx) (x1 : Int32) (x2 : Int32) (x3 : Int32) (x4 : Int32) (x5 : Int32) (x6 : Int32) : Option (Msx × Int32) :=
  (if x5 ≤ x6 then
  some (M, (1 : Int32))
  else (f_X4_slot M x1 x2).bind fun r45 =>
  (if in_b ((((8 : Int32) * x3) + x4) + x6) 128 = true then
  (if in_b (((8 : Int32) * r45) + x6) 4096 = true then
  b_d (n_J M 9 (((8 : Int32) * r45) + x6).toNatClampNeg (m_J M 27 ((((8 : Int32) * x3) + x4) + x6).toNatClampNeg)) fun M48 =>
  rec_92 M48 x1 x2 x3 x4 x5 (x6 + (1 : Int32)) else none) else none))
set_option maxHeartbeats 4000000 in
theorem q_X4_copy_92 {v : Evx} {g : Gvx} {h : Hpx} {M' : Msx} {r : Int32} (X : Cx_ v g cX4_copy 7 RX4 "copy" ((some .int)) rm_X4_copy) (hMR : MR_ h) (hF : Fi_ v g rm_X4_copy (some (v_I r)) h M') (rec_92 : Msx → Int32 → Int32 → Int32 → Int32 → Int32 → Int32 → Option (Msx × Int32)) (hr_92 : ∀ (M : Msx) (x1 : Int32) (x2 : Int32) (x3 : Int32) (x4 : Int32) (x5 : Int32) (x6 : Int32), rec_92 M x1 x2 x3 x4 x5 x6 = some (M', r) → At_ v g 7 h M 0 0 92 [(0, v_R (some 5)), (1, v_I x1), (2, v_I x2), (3, v_I x3), (4, v_I x4), (5, v_I x5), (6, v_I x6)] []) (M : Msx) (x1 : Int32) (x2 : Int32) (x3 : Int32) (x4 : Int32) (x5 : Int32) (x6 : Int32) (hm : j_X4_copy_92 rec_92 M x1 x2 x3 x4 x5 x6 = some (M', r)) : At_ v g 7 h M 0 0 92 [(0, v_R (some 5)), (1, v_I x1), (2, v_I x2), (3, v_I x3), (4, v_I x4), (5, v_I x5), (6, v_I x6)] [] := by
  unfold j_X4_copy_92 at hm
  refine a_iload X dX4_copy_92 rfl ?_
  refine a_iload X dX4_copy_94 rfl ?_
  refine a_icmp_ge (tgt := 137) X dX4_copy_96 (by decide) hm (fun c43 hm => ?_) (fun c43 hm => ?_)
  · refine a_iconst (x := 1) X dX4_copy_137 (by decide) ?_
    exact a_iret X hF ⟨rfl, (Prod.mk.inj (Option.some.inj hm)).1, (Prod.mk.inj (Option.some.inj hm)).2⟩ (by decide) dX4_copy_138
  · refine a_aload_n X dX4_copy_99 rfl ?_
    refine a_mgetA X hMR 9 (by decide) rfl rfl fl_X4_36 dX4_copy_100 ?_
    refine a_bipush (x := 8) X dX4_copy_103 (by decide) ?_
    refine a_aload_n X dX4_copy_105 rfl ?_
    refine a_iload_n X dX4_copy_106 rfl ?_
    refine a_iload_n X dX4_copy_107 rfl ?_
    obtain ⟨r45, q44, hm⟩ := i_b hm
    refine a_callV (k' := 0) (n' := 0) (st := [v_I (8 : Int32), v_R (some 14)]) X (c_X4_slot hMR q44) yv_X4_slot ml_X4_171 rfl (Or.inr (mr5_ hMR)) ⟨by decide, by decide, by decide, by decide, Nat.le_of_ble_eq_true rfl⟩ rfl rfl dX4_copy_108 rfl rfl ?_
    show At_ v g 7 h M 0 0 111 [(0, v_R (some 5)), (1, v_I x1), (2, v_I x2), (3, v_I x3), (4, v_I x4), (5, v_I x5), (6, v_I x6)] [v_I r45, v_I (8 : Int32), v_R (some 14)]
    refine a_imul X dX4_copy_111 ?_
    refine a_iload X dX4_copy_112 rfl ?_
    refine a_iadd X dX4_copy_114 ?_
    refine a_aload_n X dX4_copy_115 rfl ?_
    refine a_mgetA X hMR 27 (by decide) rfl rfl fl_X4_87 dX4_copy_116 ?_
    refine a_bipush (x := 8) X dX4_copy_119 (by decide) ?_
    refine a_iload_n X dX4_copy_121 rfl ?_
    refine a_imul X dX4_copy_122 ?_
    refine a_iload X dX4_copy_123 rfl ?_
    refine a_iadd X dX4_copy_125 ?_
    refine a_iload X dX4_copy_126 rfl ?_
    refine a_iadd X dX4_copy_128 ?_
    obtain ⟨b46, hm⟩ := i_c hm
    refine a_maldJ X hMR 27 (by decide) rfl rfl rfl b46 dX4_copy_129 ?_
    obtain ⟨b47, hm⟩ := i_c hm
    obtain ⟨M48, eM48, hm⟩ := i_d hm
    refine a_mastJ X hMR 9 (by decide) rfl rfl rfl b47 dX4_copy_130 ?_
    rw [← eM48]
    refine a_iinc (y := x6 + (1 : Int32)) (lv' := [(0, v_R (some 5)), (1, v_I x1), (2, v_I x2), (3, v_I x3), (4, v_I x4), (5, v_I x5), (6, v_I (x6 + (1 : Int32)))]) X dX4_copy_131 rfl rfl (by decide) rfl ?_
    refine a_goto (tgt := 92) X dX4_copy_134 (by decide) ?_
    exact hr_92 M48 x1 x2 x3 x4 x5 (x6 + (1 : Int32)) hm
def l_X4_copy_92 (n : Nat) : Msx → Int32 → Int32 → Int32 → Int32 → Int32 → Int32 → Option (Msx × Int32) := lp_ (fun rec_92 => j_X4_copy_92 rec_92) (fun _ _ _ _ _ _ _ => none) n
theorem ql_X4_copy_92 {v : Evx} {g : Gvx} {h : Hpx} {M' : Msx} {r : Int32} (X : Cx_ v g cX4_copy 7 RX4 "copy" ((some .int)) rm_X4_copy) (hMR : MR_ h) (hF : Fi_ v g rm_X4_copy (some (v_I r)) h M') : ∀ (n : Nat) (M : Msx) (x1 : Int32) (x2 : Int32) (x3 : Int32) (x4 : Int32) (x5 : Int32) (x6 : Int32), l_X4_copy_92 n M x1 x2 x3 x4 x5 x6 = some (M', r) → At_ v g 7 h M 0 0 92 [(0, v_R (some 5)), (1, v_I x1), (2, v_I x2), (3, v_I x3), (4, v_I x4), (5, v_I x5), (6, v_I x6)] [] := by
  intro n
  induction n with
  | zero => intro M x1 x2 x3 x4 x5 x6 hm; cases hm
  | succ n ih =>
    intro M x1 x2 x3 x4 x5 x6 hm
    exact q_X4_copy_92 X hMR hF (l_X4_copy_92 n) ih M x1 x2 x3 x4 x5 x6 hm
def f_X4_copy (M : Msx) (x1 : Int32) (x2 : Int32) (x3 : Int32) (x4 : Int32) (x5 : Int32) : Option (Msx × Int32) :=
  (f_X4_isRing M x1).bind fun r22 =>
  (if r22 = 0 then
  some (M, (-1 : Int32))
  else (f_X4_isReader M x3).bind fun r25 =>
  (if r25 = 0 then
  some (M, (-1 : Int32))
  else (if (m_I M 34 0) = 0 then
  some (M, (-2 : Int32))
  else (if in_b x1 8 = true then
  (if (m_I M 3 x1.toNatClampNeg) = (2 : Int32) then
  c_l (f_X4_find M (1 : Int32)) fun M38 r39 =>
  some (M38, r39)
  else (f_X4_isOpen M x1 x2).bind fun r31 =>
  (if r31 = 0 then
  some (M, (-11 : Int32))
  else (if x4 < 0 then
  j_X4_copy_83 M
  else (if x5 < 0 then
  j_X4_copy_83 M
  else (if (8 : Int32) < x5 then
  j_X4_copy_83 M
  else (if x4 ≤ ((8 : Int32) - x5) then
  l_X4_copy_92 70 M x1 x2 x3 x4 x5 (0 : Int32)
  else j_X4_copy_83 M)))))) else none))))
set_option maxHeartbeats 4000000 in
theorem q_X4_copy_0 {v : Evx} {g : Gvx} {h : Hpx} {M' : Msx} {r : Int32} (X : Cx_ v g cX4_copy 7 RX4 "copy" ((some .int)) rm_X4_copy) (hMR : MR_ h) (hF : Fi_ v g rm_X4_copy (some (v_I r)) h M') (M : Msx) (x1 : Int32) (x2 : Int32) (x3 : Int32) (x4 : Int32) (x5 : Int32) (hm : f_X4_copy M x1 x2 x3 x4 x5 = some (M', r)) : At_ v g 7 h M 0 0 0 [(0, v_R (some 5)), (1, v_I x1), (2, v_I x2), (3, v_I x3), (4, v_I x4), (5, v_I x5)] [] := by
  unfold f_X4_copy at hm
  refine a_aload_n X dX4_copy_0 rfl ?_
  refine a_iload_n X dX4_copy_1 rfl ?_
  obtain ⟨r22, q21, hm⟩ := i_b hm
  refine a_callV (k' := 0) (n' := 0) (st := []) X (c_X4_isRing hMR q21) yv_X4_isRing ml_X4_142 rfl (Or.inr (mr5_ hMR)) ⟨by decide, by decide, by decide, by decide, Nat.le_of_ble_eq_true rfl⟩ rfl rfl dX4_copy_2 rfl rfl ?_
  show At_ v g 7 h M 0 0 5 [(0, v_R (some 5)), (1, v_I x1), (2, v_I x2), (3, v_I x3), (4, v_I x4), (5, v_I x5)] [v_I r22]
  refine a_if_eq (tgt := 16) X dX4_copy_5 (by decide) hm (fun c23 hm => ?_) (fun c23 hm => ?_)
  · refine a_iconst (x := -1) X dX4_copy_16 (by decide) ?_
    exact a_iret X hF ⟨rfl, (Prod.mk.inj (Option.some.inj hm)).1, (Prod.mk.inj (Option.some.inj hm)).2⟩ (by decide) dX4_copy_17
  · refine a_aload_n X dX4_copy_8 rfl ?_
    refine a_iload_n X dX4_copy_9 rfl ?_
    obtain ⟨r25, q24, hm⟩ := i_b hm
    refine a_callV (k' := 0) (n' := 0) (st := []) X (c_X4_isReader hMR q24) yv_X4_isReader ml_X4_146 rfl (Or.inr (mr5_ hMR)) ⟨by decide, by decide, by decide, by decide, Nat.le_of_ble_eq_true rfl⟩ rfl rfl dX4_copy_10 rfl rfl ?_
    show At_ v g 7 h M 0 0 13 [(0, v_R (some 5)), (1, v_I x1), (2, v_I x2), (3, v_I x3), (4, v_I x4), (5, v_I x5)] [v_I r25]
    refine a_if_ne (tgt := 18) X dX4_copy_13 (by decide) hm (fun c26 hm => ?_) (fun c26 hm => ?_)
    · refine a_aload_n X dX4_copy_18 rfl ?_
      refine a_mgetI X hMR 34 (by decide) rfl fl_X4_135 dX4_copy_19 ?_
      refine a_if_ne (tgt := 28) X dX4_copy_22 (by decide) hm (fun c27 hm => ?_) (fun c27 hm => ?_)
      · refine a_aload_n X dX4_copy_28 rfl ?_
        refine a_mgetA X hMR 3 (by decide) rfl rfl fl_X4_16 dX4_copy_29 ?_
        refine a_iload_n X dX4_copy_32 rfl ?_
        obtain ⟨b28, hm⟩ := i_c hm
        refine a_maldI X hMR 3 (by decide) rfl rfl rfl b28 dX4_copy_33 ?_
        refine a_iconst (x := 2) X dX4_copy_34 (by decide) ?_
        refine a_icmp_ne (tgt := 44) X dX4_copy_35 (by decide) hm (fun c29 hm => ?_) (fun c29 hm => ?_)
        · refine a_aload_n X dX4_copy_44 rfl ?_
          refine a_iload_n X dX4_copy_45 rfl ?_
          refine a_iload_n X dX4_copy_46 rfl ?_
          obtain ⟨r31, q30, hm⟩ := i_b hm
          refine a_callV (k' := 0) (n' := 0) (st := []) X (c_X4_isOpen hMR q30) yv_X4_isOpen ml_X4_180 rfl (Or.inr (mr5_ hMR)) ⟨by decide, by decide, by decide, by decide, Nat.le_of_ble_eq_true rfl⟩ rfl rfl dX4_copy_47 rfl rfl ?_
          show At_ v g 7 h M 0 0 50 [(0, v_R (some 5)), (1, v_I x1), (2, v_I x2), (3, v_I x3), (4, v_I x4), (5, v_I x5)] [v_I r31]
          refine a_if_ne (tgt := 56) X dX4_copy_50 (by decide) hm (fun c32 hm => ?_) (fun c32 hm => ?_)
          · refine a_iload X dX4_copy_56 rfl ?_
            refine a_if_lt (tgt := 83) X dX4_copy_58 (by decide) hm (fun c33 hm => ?_) (fun c33 hm => ?_)
            · refine a_pick (lv' := [(0, v_R (some 5))]) [0] rfl ?_
              exact q_X4_copy_83 X hMR hF M hm
            · refine a_iload X dX4_copy_61 rfl ?_
              refine a_if_lt (tgt := 83) X dX4_copy_63 (by decide) hm (fun c34 hm => ?_) (fun c34 hm => ?_)
              · refine a_pick (lv' := [(0, v_R (some 5))]) [0] rfl ?_
                exact q_X4_copy_83 X hMR hF M hm
              · refine a_iload X dX4_copy_66 rfl ?_
                refine a_bipush (x := 8) X dX4_copy_68 (by decide) ?_
                refine a_icmp_gt (tgt := 83) X dX4_copy_70 (by decide) hm (fun c35 hm => ?_) (fun c35 hm => ?_)
                · refine a_pick (lv' := [(0, v_R (some 5))]) [0] rfl ?_
                  exact q_X4_copy_83 X hMR hF M hm
                · refine a_iload X dX4_copy_73 rfl ?_
                  refine a_bipush (x := 8) X dX4_copy_75 (by decide) ?_
                  refine a_iload X dX4_copy_77 rfl ?_
                  refine a_isub X dX4_copy_79 ?_
                  refine a_icmp_le (tgt := 89) X dX4_copy_80 (by decide) hm (fun c36 hm => ?_) (fun c36 hm => ?_)
                  · refine a_iconst (x := 0) X dX4_copy_89 (by decide) ?_
                    refine a_istore (lv' := [(0, v_R (some 5)), (1, v_I x1), (2, v_I x2), (3, v_I x3), (4, v_I x4), (5, v_I x5), (6, v_I (0 : Int32))]) X dX4_copy_90 (by decide) rfl ?_
                    exact ql_X4_copy_92 X hMR hF 70 M x1 x2 x3 x4 x5 (0 : Int32) hm
                  · refine a_pick (lv' := [(0, v_R (some 5))]) [0] rfl ?_
                    exact q_X4_copy_83 X hMR hF M hm
          · refine a_bipush (x := -11) X dX4_copy_53 (by decide) ?_
            exact a_iret X hF ⟨rfl, (Prod.mk.inj (Option.some.inj hm)).1, (Prod.mk.inj (Option.some.inj hm)).2⟩ (by decide) dX4_copy_55
        · refine a_aload_n X dX4_copy_38 rfl ?_
          refine a_iconst (x := 1) X dX4_copy_39 (by decide) ?_
          obtain ⟨M38, r39, q37, hm⟩ := i_l hm
          refine a_callV (k' := 0) (n' := 0) (st := []) X (c_X4_find hMR q37) yv_X4_find ml_X4_131 rfl (Or.inr (mr5_ hMR)) ⟨by decide, by decide, by decide, by decide, Nat.le_of_ble_eq_true rfl⟩ rfl rfl dX4_copy_40 rfl rfl ?_
          show At_ v g 7 h M38 0 0 43 [(0, v_R (some 5)), (1, v_I x1), (2, v_I x2), (3, v_I x3), (4, v_I x4), (5, v_I x5)] [v_I r39]
          exact a_iret X hF ⟨rfl, (Prod.mk.inj (Option.some.inj hm)).1, (Prod.mk.inj (Option.some.inj hm)).2⟩ (by decide) dX4_copy_43
      · refine a_bipush (x := -2) X dX4_copy_25 (by decide) ?_
        exact a_iret X hF ⟨rfl, (Prod.mk.inj (Option.some.inj hm)).1, (Prod.mk.inj (Option.some.inj hm)).2⟩ (by decide) dX4_copy_27
    · refine a_iconst (x := -1) X dX4_copy_16 (by decide) ?_
      exact a_iret X hF ⟨rfl, (Prod.mk.inj (Option.some.inj hm)).1, (Prod.mk.inj (Option.some.inj hm)).2⟩ (by decide) dX4_copy_17
theorem c_X4_copy {l : Launch} {g : Gvx} {h : Hpx} {M : Msx} {M' : Msx} {r : Int32} {x1 : Int32} {x2 : Int32} {x3 : Int32} {x4 : Int32} {x5 : Int32} (hMR : MR_ h) (hm : f_X4_copy M x1 x2 x3 x4 x5 = some (M', r)) : Mt_ l g yX4_copy cX4_copy 7 ((some .int)) rm_X4_copy [v_R (some 5), v_I x1, v_I x2, v_I x3, v_I x4, v_I x5] h M (some (v_I r)) h M' := mt_of (by decide) (Nat.le_of_ble_eq_true rfl) (fun v _ X hF => q_X4_copy_0 X hMR hF M x1 x2 x3 x4 x5 hm)
theorem yv_X4_copy : Yv_ yX4_copy cX4_copy 7 ((some .int)) 5 4 := ⟨rfl, by decide, ⟨by decide, by decide, by decide +kernel⟩, co_X4_copy, im_X4_copy, se_X4_copy, ini_X4⟩

abbrev rm_X4_enter : Room := { frames := 1, cells := 0, slots := 0, locals := 22 }
def j_X4_enter_71 (rec_71 : Msx → Int32 → Int32 → Int32 → Option (Msx)) (M : Msx) (x5 : Int32) (x6 : Int32) (x7 : Int32) : Option (Msx) :=
  (if (8 : Int32) ≤ x7 then
  some M
  else (if in_b (((8 : Int32) * x6) + x7) 4096 = true then
  (if in_b (((8 : Int32) * x5) + x7) 4096 = true then
  b_d (n_J M 33 (((8 : Int32) * x5) + x7).toNatClampNeg (m_J M 9 (((8 : Int32) * x6) + x7).toNatClampNeg)) fun M37 =>
  rec_71 M37 x5 x6 (x7 + (1 : Int32)) else none) else none))
set_option maxHeartbeats 4000000 in
theorem q_X4_enter_71 {v : Evx} {g : Gvx} {h : Hpx} {M' : Msx} (X : Cx_ v g cX4_enter 8 RX4 "enter" (none) rm_X4_enter) (hMR : MR_ h) (hF : Fi_ v g rm_X4_enter (none) h M') (rec_71 : Msx → Int32 → Int32 → Int32 → Option (Msx)) (hr_71 : ∀ (M : Msx) (x5 : Int32) (x6 : Int32) (x7 : Int32), rec_71 M x5 x6 x7 = some M' → At_ v g 8 h M 0 0 71 [(0, v_R (some 5)), (5, v_I x5), (6, v_I x6), (7, v_I x7)] []) (M : Msx) (x5 : Int32) (x6 : Int32) (x7 : Int32) (hm : j_X4_enter_71 rec_71 M x5 x6 x7 = some M') : At_ v g 8 h M 0 0 71 [(0, v_R (some 5)), (5, v_I x5), (6, v_I x6), (7, v_I x7)] [] := by
  unfold j_X4_enter_71 at hm
  refine a_iload X dX4_enter_71 rfl ?_
  refine a_bipush (x := 8) X dX4_enter_73 (by decide) ?_
  refine a_icmp_ge (tgt := 110) X dX4_enter_75 (by decide) hm (fun c34 hm => ?_) (fun c34 hm => ?_)
  · exact a_vret X hF ⟨rfl, Option.some.inj hm⟩ (by decide) dX4_enter_110
  · refine a_aload_n X dX4_enter_78 rfl ?_
    refine a_mgetA X hMR 33 (by decide) rfl rfl fl_X4_105 dX4_enter_79 ?_
    refine a_bipush (x := 8) X dX4_enter_82 (by decide) ?_
    refine a_iload X dX4_enter_84 rfl ?_
    refine a_imul X dX4_enter_86 ?_
    refine a_iload X dX4_enter_87 rfl ?_
    refine a_iadd X dX4_enter_89 ?_
    refine a_aload_n X dX4_enter_90 rfl ?_
    refine a_mgetA X hMR 9 (by decide) rfl rfl fl_X4_36 dX4_enter_91 ?_
    refine a_bipush (x := 8) X dX4_enter_94 (by decide) ?_
    refine a_iload X dX4_enter_96 rfl ?_
    refine a_imul X dX4_enter_98 ?_
    refine a_iload X dX4_enter_99 rfl ?_
    refine a_iadd X dX4_enter_101 ?_
    obtain ⟨b35, hm⟩ := i_c hm
    refine a_maldJ X hMR 9 (by decide) rfl rfl rfl b35 dX4_enter_102 ?_
    obtain ⟨b36, hm⟩ := i_c hm
    obtain ⟨M37, eM37, hm⟩ := i_d hm
    refine a_mastJ X hMR 33 (by decide) rfl rfl rfl b36 dX4_enter_103 ?_
    rw [← eM37]
    refine a_iinc (y := x7 + (1 : Int32)) (lv' := [(0, v_R (some 5)), (5, v_I x5), (6, v_I x6), (7, v_I (x7 + (1 : Int32)))]) X dX4_enter_104 rfl rfl (by decide) rfl ?_
    refine a_goto (tgt := 71) X dX4_enter_107 (by decide) ?_
    exact hr_71 M37 x5 x6 (x7 + (1 : Int32)) hm
def l_X4_enter_71 (n : Nat) : Msx → Int32 → Int32 → Int32 → Option (Msx) := lp_ (fun rec_71 => j_X4_enter_71 rec_71) (fun _ _ _ _ => none) n
theorem ql_X4_enter_71 {v : Evx} {g : Gvx} {h : Hpx} {M' : Msx} (X : Cx_ v g cX4_enter 8 RX4 "enter" (none) rm_X4_enter) (hMR : MR_ h) (hF : Fi_ v g rm_X4_enter (none) h M') : ∀ (n : Nat) (M : Msx) (x5 : Int32) (x6 : Int32) (x7 : Int32), l_X4_enter_71 n M x5 x6 x7 = some M' → At_ v g 8 h M 0 0 71 [(0, v_R (some 5)), (5, v_I x5), (6, v_I x6), (7, v_I x7)] [] := by
  intro n
  induction n with
  | zero => intro M x5 x6 x7 hm; cases hm
  | succ n ih =>
    intro M x5 x6 x7 hm
    exact q_X4_enter_71 X hMR hF (l_X4_enter_71 n) ih M x5 x6 x7 hm
def f_X4_enter (M : Msx) (x1 : Int32) (x2 : Int32) (x3 : Int32) (x4 : Int32) : Option (Msx) :=
  (f_X4_slot M x3 x4).bind fun r22 =>
  (if in_b (((32 : Int32) * x1) + x2) 512 = true then
  b_d (n_I M 29 (((32 : Int32) * x1) + x2).toNatClampNeg x4) fun M24 =>
  (if in_b r22 512 = true then
  (if in_b (((32 : Int32) * x1) + x2) 512 = true then
  b_d (n_J M24 30 (((32 : Int32) * x1) + x2).toNatClampNeg (m_J M24 6 r22.toNatClampNeg)) fun M27 =>
  (if in_b r22 512 = true then
  (if in_b (((32 : Int32) * x1) + x2) 512 = true then
  b_d (n_I M27 31 (((32 : Int32) * x1) + x2).toNatClampNeg (m_I M27 7 r22.toNatClampNeg)) fun M30 =>
  (if in_b r22 512 = true then
  (if in_b (((32 : Int32) * x1) + x2) 512 = true then
  b_d (n_I M30 32 (((32 : Int32) * x1) + x2).toNatClampNeg (m_I M30 8 r22.toNatClampNeg)) fun M33 =>
  l_X4_enter_71 70 M33 (((32 : Int32) * x1) + x2) r22 (0 : Int32) else none) else none) else none) else none) else none) else none) else none)
set_option maxHeartbeats 4000000 in
theorem q_X4_enter_0 {v : Evx} {g : Gvx} {h : Hpx} {M' : Msx} (X : Cx_ v g cX4_enter 8 RX4 "enter" (none) rm_X4_enter) (hMR : MR_ h) (hF : Fi_ v g rm_X4_enter (none) h M') (M : Msx) (x1 : Int32) (x2 : Int32) (x3 : Int32) (x4 : Int32) (hm : f_X4_enter M x1 x2 x3 x4 = some M') : At_ v g 8 h M 0 0 0 [(0, v_R (some 5)), (1, v_I x1), (2, v_I x2), (3, v_I x3), (4, v_I x4)] [] := by
  unfold f_X4_enter at hm
  refine a_bipush (x := 32) X dX4_enter_0 (by decide) ?_
  refine a_iload_n X dX4_enter_2 rfl ?_
  refine a_imul X dX4_enter_3 ?_
  refine a_iload_n X dX4_enter_4 rfl ?_
  refine a_iadd X dX4_enter_5 ?_
  refine a_istore (lv' := [(0, v_R (some 5)), (1, v_I x1), (2, v_I x2), (3, v_I x3), (4, v_I x4), (5, v_I (((32 : Int32) * x1) + x2))]) X dX4_enter_6 (by decide) rfl ?_
  refine a_aload_n X dX4_enter_8 rfl ?_
  refine a_iload_n X dX4_enter_9 rfl ?_
  refine a_iload X dX4_enter_10 rfl ?_
  obtain ⟨r22, q21, hm⟩ := i_b hm
  refine a_callV (k' := 0) (n' := 0) (st := []) X (c_X4_slot hMR q21) yv_X4_slot ml_X4_171 rfl (Or.inr (mr5_ hMR)) ⟨by decide, by decide, by decide, by decide, Nat.le_of_ble_eq_true rfl⟩ rfl rfl dX4_enter_12 rfl rfl ?_
  show At_ v g 8 h M 0 0 15 [(0, v_R (some 5)), (1, v_I x1), (2, v_I x2), (3, v_I x3), (4, v_I x4), (5, v_I (((32 : Int32) * x1) + x2))] [v_I r22]
  refine a_istore (lv' := [(0, v_R (some 5)), (1, v_I x1), (2, v_I x2), (3, v_I x3), (4, v_I x4), (5, v_I (((32 : Int32) * x1) + x2)), (6, v_I r22)]) X dX4_enter_15 (by decide) rfl ?_
  refine a_aload_n X dX4_enter_17 rfl ?_
  refine a_mgetA X hMR 29 (by decide) rfl rfl fl_X4_93 dX4_enter_18 ?_
  refine a_iload X dX4_enter_21 rfl ?_
  refine a_iload X dX4_enter_23 rfl ?_
  obtain ⟨b23, hm⟩ := i_c hm
  obtain ⟨M24, eM24, hm⟩ := i_d hm
  refine a_mastI X hMR 29 (by decide) rfl rfl rfl b23 dX4_enter_25 ?_
  rw [← eM24]
  refine a_aload_n X dX4_enter_26 rfl ?_
  refine a_mgetA X hMR 30 (by decide) rfl rfl fl_X4_96 dX4_enter_27 ?_
  refine a_iload X dX4_enter_30 rfl ?_
  refine a_aload_n X dX4_enter_32 rfl ?_
  refine a_mgetA X hMR 6 (by decide) rfl rfl fl_X4_27 dX4_enter_33 ?_
  refine a_iload X dX4_enter_36 rfl ?_
  obtain ⟨b25, hm⟩ := i_c hm
  refine a_maldJ X hMR 6 (by decide) rfl rfl rfl b25 dX4_enter_38 ?_
  obtain ⟨b26, hm⟩ := i_c hm
  obtain ⟨M27, eM27, hm⟩ := i_d hm
  refine a_mastJ X hMR 30 (by decide) rfl rfl rfl b26 dX4_enter_39 ?_
  rw [← eM27]
  refine a_aload_n X dX4_enter_40 rfl ?_
  refine a_mgetA X hMR 31 (by decide) rfl rfl fl_X4_99 dX4_enter_41 ?_
  refine a_iload X dX4_enter_44 rfl ?_
  refine a_aload_n X dX4_enter_46 rfl ?_
  refine a_mgetA X hMR 7 (by decide) rfl rfl fl_X4_30 dX4_enter_47 ?_
  refine a_iload X dX4_enter_50 rfl ?_
  obtain ⟨b28, hm⟩ := i_c hm
  refine a_maldI X hMR 7 (by decide) rfl rfl rfl b28 dX4_enter_52 ?_
  obtain ⟨b29, hm⟩ := i_c hm
  obtain ⟨M30, eM30, hm⟩ := i_d hm
  refine a_mastI X hMR 31 (by decide) rfl rfl rfl b29 dX4_enter_53 ?_
  rw [← eM30]
  refine a_aload_n X dX4_enter_54 rfl ?_
  refine a_mgetA X hMR 32 (by decide) rfl rfl fl_X4_102 dX4_enter_55 ?_
  refine a_iload X dX4_enter_58 rfl ?_
  refine a_aload_n X dX4_enter_60 rfl ?_
  refine a_mgetA X hMR 8 (by decide) rfl rfl fl_X4_33 dX4_enter_61 ?_
  refine a_iload X dX4_enter_64 rfl ?_
  obtain ⟨b31, hm⟩ := i_c hm
  refine a_maldI X hMR 8 (by decide) rfl rfl rfl b31 dX4_enter_66 ?_
  obtain ⟨b32, hm⟩ := i_c hm
  obtain ⟨M33, eM33, hm⟩ := i_d hm
  refine a_mastI X hMR 32 (by decide) rfl rfl rfl b32 dX4_enter_67 ?_
  rw [← eM33]
  refine a_iconst (x := 0) X dX4_enter_68 (by decide) ?_
  refine a_istore (lv' := [(0, v_R (some 5)), (1, v_I x1), (2, v_I x2), (3, v_I x3), (4, v_I x4), (5, v_I (((32 : Int32) * x1) + x2)), (6, v_I r22), (7, v_I (0 : Int32))]) X dX4_enter_69 (by decide) rfl ?_
  refine a_pick (lv' := [(0, v_R (some 5)), (5, v_I (((32 : Int32) * x1) + x2)), (6, v_I r22), (7, v_I (0 : Int32))]) [0, 5, 6, 7] rfl ?_
  exact ql_X4_enter_71 X hMR hF 70 M33 (((32 : Int32) * x1) + x2) r22 (0 : Int32) hm
theorem c_X4_enter {l : Launch} {g : Gvx} {h : Hpx} {M : Msx} {M' : Msx} {x1 : Int32} {x2 : Int32} {x3 : Int32} {x4 : Int32} (hMR : MR_ h) (hm : f_X4_enter M x1 x2 x3 x4 = some M') : Mt_ l g yX4_enter cX4_enter 8 (none) rm_X4_enter [v_R (some 5), v_I x1, v_I x2, v_I x3, v_I x4] h M (none) h M' := mt_of (by decide) (Nat.le_of_ble_eq_true rfl) (fun v _ X hF => q_X4_enter_0 X hMR hF M x1 x2 x3 x4 hm)
theorem yv_X4_enter : Yv_ yX4_enter cX4_enter 8 (none) 4 4 := ⟨rfl, by decide, ⟨by decide, by decide, by decide +kernel⟩, co_X4_enter, im_X4_enter, se_X4_enter, ini_X4⟩

abbrev rm_X4_fold : Room := { frames := 2, cells := 0, slots := 0, locals := 49 }
def j_X4_fold_86 (rec_15 : Msx → Int32 → Int32 → Int32 → Int32 → Option (Msx)) (M : Msx) (x1 : Int32) (x2 : Int32) (x3 : Int32) (x4 : Int32) (x5 : Int32) : Option (Msx) :=
  (if in_b x4 16 = true then
  (if x5 = (m_I M 28 x4.toNatClampNeg) then
  (f_X4_enter M x4 x5 x1 x2).bind fun M40 =>
  b_d (n_I M40 28 x4.toNatClampNeg ((m_I M40 28 x4.toNatClampNeg) + (1 : Int32))) fun M41 =>
  rec_15 M41 x1 x2 x3 (x4 + (1 : Int32))
  else (if in_b (((32 : Int32) * x4) + x5) 512 = true then
  (if x2 ≤ (m_I M 29 (((32 : Int32) * x4) + x5).toNatClampNeg) then
  rec_15 M x1 x2 x3 (x4 + (1 : Int32))
  else (f_X4_enter M x4 x5 x1 x2).bind fun M38 =>
  rec_15 M38 x1 x2 x3 (x4 + (1 : Int32))) else none)) else none)
set_option maxHeartbeats 4000000 in
theorem q_X4_fold_86 {v : Evx} {g : Gvx} {h : Hpx} {M' : Msx} (X : Cx_ v g cX4_fold 6 RX4 "fold" (none) rm_X4_fold) (hMR : MR_ h) (hF : Fi_ v g rm_X4_fold (none) h M') (rec_15 : Msx → Int32 → Int32 → Int32 → Int32 → Option (Msx)) (hr_15 : ∀ (M : Msx) (x1 : Int32) (x2 : Int32) (x3 : Int32) (x4 : Int32), rec_15 M x1 x2 x3 x4 = some M' → At_ v g 6 h M 0 0 15 [(0, v_R (some 5)), (1, v_I x1), (2, v_I x2), (3, v_I x3), (4, v_I x4)] []) (M : Msx) (x1 : Int32) (x2 : Int32) (x3 : Int32) (x4 : Int32) (x5 : Int32) (hm : j_X4_fold_86 rec_15 M x1 x2 x3 x4 x5 = some M') : At_ v g 6 h M 0 0 86 [(0, v_R (some 5)), (1, v_I x1), (2, v_I x2), (3, v_I x3), (4, v_I x4), (5, v_I x5)] [] := by
  unfold j_X4_fold_86 at hm
  refine a_iload X dX4_fold_86 rfl ?_
  refine a_aload_n X dX4_fold_88 rfl ?_
  refine a_mgetA X hMR 28 (by decide) rfl rfl fl_X4_90 dX4_fold_89 ?_
  refine a_iload X dX4_fold_92 rfl ?_
  obtain ⟨b33, hm⟩ := i_c hm
  refine a_maldI X hMR 28 (by decide) rfl rfl rfl b33 dX4_fold_94 ?_
  refine a_icmp_ne (tgt := 122) X dX4_fold_95 (by decide) hm (fun c34 hm => ?_) (fun c34 hm => ?_)
  · refine a_aload_n X dX4_fold_122 rfl ?_
    refine a_mgetA X hMR 29 (by decide) rfl rfl fl_X4_93 dX4_fold_123 ?_
    refine a_bipush (x := 32) X dX4_fold_126 (by decide) ?_
    refine a_iload X dX4_fold_128 rfl ?_
    refine a_imul X dX4_fold_130 ?_
    refine a_iload X dX4_fold_131 rfl ?_
    refine a_iadd X dX4_fold_133 ?_
    obtain ⟨b35, hm⟩ := i_c hm
    refine a_maldI X hMR 29 (by decide) rfl rfl rfl b35 dX4_fold_134 ?_
    refine a_iload_n X dX4_fold_135 rfl ?_
    refine a_icmp_ge (tgt := 149) X dX4_fold_136 (by decide) hm (fun c36 hm => ?_) (fun c36 hm => ?_)
    · refine a_iinc (y := x4 + (1 : Int32)) (lv' := [(0, v_R (some 5)), (1, v_I x1), (2, v_I x2), (3, v_I x3), (4, v_I (x4 + (1 : Int32))), (5, v_I x5)]) X dX4_fold_149 rfl rfl (by decide) rfl ?_
      refine a_goto (tgt := 15) X dX4_fold_152 (by decide) ?_
      refine a_pick (lv' := [(0, v_R (some 5)), (1, v_I x1), (2, v_I x2), (3, v_I x3), (4, v_I (x4 + (1 : Int32)))]) [0, 1, 2, 3, 4] rfl ?_
      exact hr_15 M x1 x2 x3 (x4 + (1 : Int32)) hm
    · refine a_aload_n X dX4_fold_139 rfl ?_
      refine a_iload X dX4_fold_140 rfl ?_
      refine a_iload X dX4_fold_142 rfl ?_
      refine a_iload_n X dX4_fold_144 rfl ?_
      refine a_iload_n X dX4_fold_145 rfl ?_
      obtain ⟨M38, q37, hm⟩ := i_b hm
      refine a_callV (k' := 0) (n' := 0) (st := []) X (c_X4_enter hMR q37) yv_X4_enter ml_X4_203 rfl (Or.inr (mr5_ hMR)) ⟨by decide, by decide, by decide, by decide, Nat.le_of_ble_eq_true rfl⟩ rfl rfl dX4_fold_146 rfl rfl ?_
      show At_ v g 6 h M38 0 0 149 [(0, v_R (some 5)), (1, v_I x1), (2, v_I x2), (3, v_I x3), (4, v_I x4), (5, v_I x5)] []
      refine a_iinc (y := x4 + (1 : Int32)) (lv' := [(0, v_R (some 5)), (1, v_I x1), (2, v_I x2), (3, v_I x3), (4, v_I (x4 + (1 : Int32))), (5, v_I x5)]) X dX4_fold_149 rfl rfl (by decide) rfl ?_
      refine a_goto (tgt := 15) X dX4_fold_152 (by decide) ?_
      refine a_pick (lv' := [(0, v_R (some 5)), (1, v_I x1), (2, v_I x2), (3, v_I x3), (4, v_I (x4 + (1 : Int32)))]) [0, 1, 2, 3, 4] rfl ?_
      exact hr_15 M38 x1 x2 x3 (x4 + (1 : Int32)) hm
  · refine a_aload_n X dX4_fold_98 rfl ?_
    refine a_iload X dX4_fold_99 rfl ?_
    refine a_iload X dX4_fold_101 rfl ?_
    refine a_iload_n X dX4_fold_103 rfl ?_
    refine a_iload_n X dX4_fold_104 rfl ?_
    obtain ⟨M40, q39, hm⟩ := i_b hm
    refine a_callV (k' := 0) (n' := 0) (st := []) X (c_X4_enter hMR q39) yv_X4_enter ml_X4_203 rfl (Or.inr (mr5_ hMR)) ⟨by decide, by decide, by decide, by decide, Nat.le_of_ble_eq_true rfl⟩ rfl rfl dX4_fold_105 rfl rfl ?_
    show At_ v g 6 h M40 0 0 108 [(0, v_R (some 5)), (1, v_I x1), (2, v_I x2), (3, v_I x3), (4, v_I x4), (5, v_I x5)] []
    refine a_aload_n X dX4_fold_108 rfl ?_
    refine a_mgetA X hMR 28 (by decide) rfl rfl fl_X4_90 dX4_fold_109 ?_
    refine a_iload X dX4_fold_112 rfl ?_
    refine a_dup2 X dX4_fold_114 rfl rfl ?_
    refine a_maldI X hMR 28 (by decide) rfl rfl rfl b33 dX4_fold_115 ?_
    refine a_iconst (x := 1) X dX4_fold_116 (by decide) ?_
    refine a_iadd X dX4_fold_117 ?_
    obtain ⟨M41, eM41, hm⟩ := i_d hm
    refine a_mastI X hMR 28 (by decide) rfl rfl rfl b33 dX4_fold_118 ?_
    rw [← eM41]
    refine a_goto (tgt := 149) X dX4_fold_119 (by decide) ?_
    refine a_iinc (y := x4 + (1 : Int32)) (lv' := [(0, v_R (some 5)), (1, v_I x1), (2, v_I x2), (3, v_I x3), (4, v_I (x4 + (1 : Int32))), (5, v_I x5)]) X dX4_fold_149 rfl rfl (by decide) rfl ?_
    refine a_goto (tgt := 15) X dX4_fold_152 (by decide) ?_
    refine a_pick (lv' := [(0, v_R (some 5)), (1, v_I x1), (2, v_I x2), (3, v_I x3), (4, v_I (x4 + (1 : Int32)))]) [0, 1, 2, 3, 4] rfl ?_
    exact hr_15 M41 x1 x2 x3 (x4 + (1 : Int32)) hm
def j_X4_fold_51 (rec_15 : Msx → Int32 → Int32 → Int32 → Int32 → Option (Msx)) (rec_51 : Msx → Int32 → Int32 → Int32 → Int32 → Int32 → Option (Msx)) (M : Msx) (x1 : Int32) (x2 : Int32) (x3 : Int32) (x4 : Int32) (x5 : Int32) : Option (Msx) :=
  (if in_b x4 16 = true then
  (if (m_I M 28 x4.toNatClampNeg) ≤ x5 then
  j_X4_fold_86 rec_15 M x1 x2 x3 x4 x5
  else (if in_b (((32 : Int32) * x4) + x5) 512 = true then
  (if (m_I M 31 (((32 : Int32) * x4) + x5).toNatClampNeg) = x3 then
  j_X4_fold_86 rec_15 M x1 x2 x3 x4 x5
  else rec_51 M x1 x2 x3 x4 (x5 + (1 : Int32))) else none)) else none)
set_option maxHeartbeats 4000000 in
theorem q_X4_fold_51 {v : Evx} {g : Gvx} {h : Hpx} {M' : Msx} (X : Cx_ v g cX4_fold 6 RX4 "fold" (none) rm_X4_fold) (hMR : MR_ h) (hF : Fi_ v g rm_X4_fold (none) h M') (rec_15 : Msx → Int32 → Int32 → Int32 → Int32 → Option (Msx)) (hr_15 : ∀ (M : Msx) (x1 : Int32) (x2 : Int32) (x3 : Int32) (x4 : Int32), rec_15 M x1 x2 x3 x4 = some M' → At_ v g 6 h M 0 0 15 [(0, v_R (some 5)), (1, v_I x1), (2, v_I x2), (3, v_I x3), (4, v_I x4)] []) (rec_51 : Msx → Int32 → Int32 → Int32 → Int32 → Int32 → Option (Msx)) (hr_51 : ∀ (M : Msx) (x1 : Int32) (x2 : Int32) (x3 : Int32) (x4 : Int32) (x5 : Int32), rec_51 M x1 x2 x3 x4 x5 = some M' → At_ v g 6 h M 0 0 51 [(0, v_R (some 5)), (1, v_I x1), (2, v_I x2), (3, v_I x3), (4, v_I x4), (5, v_I x5)] []) (M : Msx) (x1 : Int32) (x2 : Int32) (x3 : Int32) (x4 : Int32) (x5 : Int32) (hm : j_X4_fold_51 rec_15 rec_51 M x1 x2 x3 x4 x5 = some M') : At_ v g 6 h M 0 0 51 [(0, v_R (some 5)), (1, v_I x1), (2, v_I x2), (3, v_I x3), (4, v_I x4), (5, v_I x5)] [] := by
  unfold j_X4_fold_51 at hm
  refine a_iload X dX4_fold_51 rfl ?_
  refine a_aload_n X dX4_fold_53 rfl ?_
  refine a_mgetA X hMR 28 (by decide) rfl rfl fl_X4_90 dX4_fold_54 ?_
  refine a_iload X dX4_fold_57 rfl ?_
  obtain ⟨b29, hm⟩ := i_c hm
  refine a_maldI X hMR 28 (by decide) rfl rfl rfl b29 dX4_fold_59 ?_
  refine a_icmp_ge (tgt := 86) X dX4_fold_60 (by decide) hm (fun c30 hm => ?_) (fun c30 hm => ?_)
  · exact q_X4_fold_86 X hMR hF rec_15 hr_15 M x1 x2 x3 x4 x5 hm
  · refine a_aload_n X dX4_fold_63 rfl ?_
    refine a_mgetA X hMR 31 (by decide) rfl rfl fl_X4_99 dX4_fold_64 ?_
    refine a_bipush (x := 32) X dX4_fold_67 (by decide) ?_
    refine a_iload X dX4_fold_69 rfl ?_
    refine a_imul X dX4_fold_71 ?_
    refine a_iload X dX4_fold_72 rfl ?_
    refine a_iadd X dX4_fold_74 ?_
    obtain ⟨b31, hm⟩ := i_c hm
    refine a_maldI X hMR 31 (by decide) rfl rfl rfl b31 dX4_fold_75 ?_
    refine a_iload_n X dX4_fold_76 rfl ?_
    refine a_icmp_eq (tgt := 86) X dX4_fold_77 (by decide) hm (fun c32 hm => ?_) (fun c32 hm => ?_)
    · exact q_X4_fold_86 X hMR hF rec_15 hr_15 M x1 x2 x3 x4 x5 hm
    · refine a_iinc (y := x5 + (1 : Int32)) (lv' := [(0, v_R (some 5)), (1, v_I x1), (2, v_I x2), (3, v_I x3), (4, v_I x4), (5, v_I (x5 + (1 : Int32)))]) X dX4_fold_80 rfl rfl (by decide) rfl ?_
      refine a_goto (tgt := 51) X dX4_fold_83 (by decide) ?_
      exact hr_51 M x1 x2 x3 x4 (x5 + (1 : Int32)) hm
def l_X4_fold_51 (rec_15 : Msx → Int32 → Int32 → Int32 → Int32 → Option (Msx)) (n : Nat) : Msx → Int32 → Int32 → Int32 → Int32 → Int32 → Option (Msx) := lp_ (fun rec_51 => j_X4_fold_51 rec_15 rec_51) (fun _ _ _ _ _ _ => none) n
theorem ql_X4_fold_51 {v : Evx} {g : Gvx} {h : Hpx} {M' : Msx} (X : Cx_ v g cX4_fold 6 RX4 "fold" (none) rm_X4_fold) (hMR : MR_ h) (hF : Fi_ v g rm_X4_fold (none) h M') (rec_15 : Msx → Int32 → Int32 → Int32 → Int32 → Option (Msx)) (hr_15 : ∀ (M : Msx) (x1 : Int32) (x2 : Int32) (x3 : Int32) (x4 : Int32), rec_15 M x1 x2 x3 x4 = some M' → At_ v g 6 h M 0 0 15 [(0, v_R (some 5)), (1, v_I x1), (2, v_I x2), (3, v_I x3), (4, v_I x4)] []) : ∀ (n : Nat) (M : Msx) (x1 : Int32) (x2 : Int32) (x3 : Int32) (x4 : Int32) (x5 : Int32), l_X4_fold_51 rec_15 n M x1 x2 x3 x4 x5 = some M' → At_ v g 6 h M 0 0 51 [(0, v_R (some 5)), (1, v_I x1), (2, v_I x2), (3, v_I x3), (4, v_I x4), (5, v_I x5)] [] := by
  intro n
  induction n with
  | zero => intro M x1 x2 x3 x4 x5 hm; cases hm
  | succ n ih =>
    intro M x1 x2 x3 x4 x5 hm
    exact q_X4_fold_51 X hMR hF rec_15 hr_15 (l_X4_fold_51 rec_15 n) ih M x1 x2 x3 x4 x5 hm
def j_X4_fold_15 (rec_15 : Msx → Int32 → Int32 → Int32 → Int32 → Option (Msx)) (M : Msx) (x1 : Int32) (x2 : Int32) (x3 : Int32) (x4 : Int32) : Option (Msx) :=
  (if (m_I M 10 0) ≤ x4 then
  some M
  else (if in_b x4 16 = true then
  (if (m_I M 11 x4.toNatClampNeg) = (4 : Int32) then
  (if in_b ((4 : Int32) * x4) 64 = true then
  (if (m_I M 12 ((4 : Int32) * x4).toNatClampNeg) = x1 then
  l_X4_fold_51 rec_15 70 M x1 x2 x3 x4 (0 : Int32)
  else rec_15 M x1 x2 x3 (x4 + (1 : Int32))) else none)
  else rec_15 M x1 x2 x3 (x4 + (1 : Int32))) else none))
set_option maxHeartbeats 4000000 in
theorem q_X4_fold_15 {v : Evx} {g : Gvx} {h : Hpx} {M' : Msx} (X : Cx_ v g cX4_fold 6 RX4 "fold" (none) rm_X4_fold) (hMR : MR_ h) (hF : Fi_ v g rm_X4_fold (none) h M') (rec_15 : Msx → Int32 → Int32 → Int32 → Int32 → Option (Msx)) (hr_15 : ∀ (M : Msx) (x1 : Int32) (x2 : Int32) (x3 : Int32) (x4 : Int32), rec_15 M x1 x2 x3 x4 = some M' → At_ v g 6 h M 0 0 15 [(0, v_R (some 5)), (1, v_I x1), (2, v_I x2), (3, v_I x3), (4, v_I x4)] []) (M : Msx) (x1 : Int32) (x2 : Int32) (x3 : Int32) (x4 : Int32) (hm : j_X4_fold_15 rec_15 M x1 x2 x3 x4 = some M') : At_ v g 6 h M 0 0 15 [(0, v_R (some 5)), (1, v_I x1), (2, v_I x2), (3, v_I x3), (4, v_I x4)] [] := by
  unfold j_X4_fold_15 at hm
  refine a_iload X dX4_fold_15 rfl ?_
  refine a_aload_n X dX4_fold_17 rfl ?_
  refine a_mgetI X hMR 10 (by decide) rfl fl_X4_124 dX4_fold_18 ?_
  refine a_icmp_ge (tgt := 155) X dX4_fold_21 (by decide) hm (fun c24 hm => ?_) (fun c24 hm => ?_)
  · exact a_vret X hF ⟨rfl, Option.some.inj hm⟩ (by decide) dX4_fold_155
  · refine a_aload_n X dX4_fold_24 rfl ?_
    refine a_mgetA X hMR 11 (by decide) rfl rfl fl_X4_39 dX4_fold_25 ?_
    refine a_iload X dX4_fold_28 rfl ?_
    obtain ⟨b25, hm⟩ := i_c hm
    refine a_maldI X hMR 11 (by decide) rfl rfl rfl b25 dX4_fold_30 ?_
    refine a_iconst (x := 4) X dX4_fold_31 (by decide) ?_
    refine a_icmp_ne (tgt := 149) X dX4_fold_32 (by decide) hm (fun c26 hm => ?_) (fun c26 hm => ?_)
    · refine a_iinc (y := x4 + (1 : Int32)) (lv' := [(0, v_R (some 5)), (1, v_I x1), (2, v_I x2), (3, v_I x3), (4, v_I (x4 + (1 : Int32)))]) X dX4_fold_149 rfl rfl (by decide) rfl ?_
      refine a_goto (tgt := 15) X dX4_fold_152 (by decide) ?_
      exact hr_15 M x1 x2 x3 (x4 + (1 : Int32)) hm
    · refine a_aload_n X dX4_fold_35 rfl ?_
      refine a_mgetA X hMR 12 (by decide) rfl rfl fl_X4_42 dX4_fold_36 ?_
      refine a_iconst (x := 4) X dX4_fold_39 (by decide) ?_
      refine a_iload X dX4_fold_40 rfl ?_
      refine a_imul X dX4_fold_42 ?_
      obtain ⟨b27, hm⟩ := i_c hm
      refine a_maldI X hMR 12 (by decide) rfl rfl rfl b27 dX4_fold_43 ?_
      refine a_iload_n X dX4_fold_44 rfl ?_
      refine a_icmp_ne (tgt := 149) X dX4_fold_45 (by decide) hm (fun c28 hm => ?_) (fun c28 hm => ?_)
      · refine a_iinc (y := x4 + (1 : Int32)) (lv' := [(0, v_R (some 5)), (1, v_I x1), (2, v_I x2), (3, v_I x3), (4, v_I (x4 + (1 : Int32)))]) X dX4_fold_149 rfl rfl (by decide) rfl ?_
        refine a_goto (tgt := 15) X dX4_fold_152 (by decide) ?_
        exact hr_15 M x1 x2 x3 (x4 + (1 : Int32)) hm
      · refine a_iconst (x := 0) X dX4_fold_48 (by decide) ?_
        refine a_istore (lv' := [(0, v_R (some 5)), (1, v_I x1), (2, v_I x2), (3, v_I x3), (4, v_I x4), (5, v_I (0 : Int32))]) X dX4_fold_49 (by decide) rfl ?_
        exact ql_X4_fold_51 X hMR hF rec_15 hr_15 70 M x1 x2 x3 x4 (0 : Int32) hm
def l_X4_fold_15 (n : Nat) : Msx → Int32 → Int32 → Int32 → Int32 → Option (Msx) := lp_ (fun rec_15 => j_X4_fold_15 rec_15) (fun _ _ _ _ _ => none) n
theorem ql_X4_fold_15 {v : Evx} {g : Gvx} {h : Hpx} {M' : Msx} (X : Cx_ v g cX4_fold 6 RX4 "fold" (none) rm_X4_fold) (hMR : MR_ h) (hF : Fi_ v g rm_X4_fold (none) h M') : ∀ (n : Nat) (M : Msx) (x1 : Int32) (x2 : Int32) (x3 : Int32) (x4 : Int32), l_X4_fold_15 n M x1 x2 x3 x4 = some M' → At_ v g 6 h M 0 0 15 [(0, v_R (some 5)), (1, v_I x1), (2, v_I x2), (3, v_I x3), (4, v_I x4)] [] := by
  intro n
  induction n with
  | zero => intro M x1 x2 x3 x4 hm; cases hm
  | succ n ih =>
    intro M x1 x2 x3 x4 hm
    exact q_X4_fold_15 X hMR hF (l_X4_fold_15 n) ih M x1 x2 x3 x4 hm
def f_X4_fold (M : Msx) (x1 : Int32) (x2 : Int32) : Option (Msx) :=
  (f_X4_slot M x1 x2).bind fun r22 =>
  (if in_b r22 512 = true then
  l_X4_fold_15 70 M x1 x2 (m_I M 7 r22.toNatClampNeg) (0 : Int32) else none)
set_option maxHeartbeats 4000000 in
theorem q_X4_fold_0 {v : Evx} {g : Gvx} {h : Hpx} {M' : Msx} (X : Cx_ v g cX4_fold 6 RX4 "fold" (none) rm_X4_fold) (hMR : MR_ h) (hF : Fi_ v g rm_X4_fold (none) h M') (M : Msx) (x1 : Int32) (x2 : Int32) (hm : f_X4_fold M x1 x2 = some M') : At_ v g 6 h M 0 0 0 [(0, v_R (some 5)), (1, v_I x1), (2, v_I x2)] [] := by
  unfold f_X4_fold at hm
  refine a_aload_n X dX4_fold_0 rfl ?_
  refine a_mgetA X hMR 7 (by decide) rfl rfl fl_X4_30 dX4_fold_1 ?_
  refine a_aload_n X dX4_fold_4 rfl ?_
  refine a_iload_n X dX4_fold_5 rfl ?_
  refine a_iload_n X dX4_fold_6 rfl ?_
  obtain ⟨r22, q21, hm⟩ := i_b hm
  refine a_callV (k' := 0) (n' := 0) (st := [v_R (some 12)]) X (c_X4_slot hMR q21) yv_X4_slot ml_X4_171 rfl (Or.inr (mr5_ hMR)) ⟨by decide, by decide, by decide, by decide, Nat.le_of_ble_eq_true rfl⟩ rfl rfl dX4_fold_7 rfl rfl ?_
  show At_ v g 6 h M 0 0 10 [(0, v_R (some 5)), (1, v_I x1), (2, v_I x2)] [v_I r22, v_R (some 12)]
  obtain ⟨b23, hm⟩ := i_c hm
  refine a_maldI X hMR 7 (by decide) rfl rfl rfl b23 dX4_fold_10 ?_
  refine a_istore_n (lv' := [(0, v_R (some 5)), (1, v_I x1), (2, v_I x2), (3, v_I (m_I M 7 r22.toNatClampNeg))]) X dX4_fold_11 (by decide) rfl ?_
  refine a_iconst (x := 0) X dX4_fold_12 (by decide) ?_
  refine a_istore (lv' := [(0, v_R (some 5)), (1, v_I x1), (2, v_I x2), (3, v_I (m_I M 7 r22.toNatClampNeg)), (4, v_I (0 : Int32))]) X dX4_fold_13 (by decide) rfl ?_
  exact ql_X4_fold_15 X hMR hF 70 M x1 x2 (m_I M 7 r22.toNatClampNeg) (0 : Int32) hm
theorem c_X4_fold {l : Launch} {g : Gvx} {h : Hpx} {M : Msx} {M' : Msx} {x1 : Int32} {x2 : Int32} (hMR : MR_ h) (hm : f_X4_fold M x1 x2 = some M') : Mt_ l g yX4_fold cX4_fold 6 (none) rm_X4_fold [v_R (some 5), v_I x1, v_I x2] h M (none) h M' := mt_of (by decide) (Nat.le_of_ble_eq_true rfl) (fun v _ X hF => q_X4_fold_0 X hMR hF M x1 x2 hm)
theorem yv_X4_fold : Yv_ yX4_fold cX4_fold 6 (none) 2 4 := ⟨rfl, by decide, ⟨by decide, by decide, by decide +kernel⟩, co_X4_fold, im_X4_fold, se_X4_fold, ini_X4⟩
