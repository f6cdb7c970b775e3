abbrev rm_X3_ringOfLeastStamp : Room := { frames := 2, cells := 0, slots := 0, locals := 44 }
def j_X3_ringOfLeastStamp_7 (h : Hpx) (a0 : Nat) (rec_7 : Option Nat → Option Nat → Int64 → Int32 → Option (Option Nat)) (x1 : Option Nat) (x2 : Option Nat) (x3 : Int64) (x5 : Int32) : Option (Option Nat) :=
  (if (8 : Int32) ≤ x5 then
  some x2
  else (if h_k h a0 = 4 then
  (f_X3_ringAt h a0 x5).bind fun r24 =>
  (if r24 = none then
  rec_7 x1 x2 x3 (x5 + (1 : Int32))
  else (f_X3_isAwaited h a0 x1 r24).bind fun r27 =>
  (if r27 = 0 then
  rec_7 x1 x2 x3 (x5 + (1 : Int32))
  else x1.bind fun a29 =>
  (if h_k h a29 = 2 then
  (f_X1_placeIn h a29 x5).bind fun r32 =>
  r24.bind fun a33 =>
  (if h_k h a33 = 3 then
  (f_X2_slotOf h a33 r32).bind fun r36 =>
  (if r36 = none then
  rec_7 x1 x2 x3 (x5 + (1 : Int32))
  else (if x2 = none then
  r36.bind fun a39 =>
  (if h_k h a39 = 1 then
  rec_7 x1 r24 (h_J h a39 3) (x5 + (1 : Int32)) else none)
  else r36.bind fun a41 =>
  (if h_k h a41 = 1 then
  (if 0 ≤ (lg_cmp (h_J h a41 3) x3) then
  rec_7 x1 x2 x3 (x5 + (1 : Int32))
  else rec_7 x1 r24 (h_J h a41 3) (x5 + (1 : Int32))) else none))) else none) else none))) else none))
set_option maxHeartbeats 4000000 in
theorem q_X3_ringOfLeastStamp_7 {v : Evx} {g : Gvx} {M : Msx} {r : Option Nat} (X : Cx_ v g cX3_ringOfLeastStamp 8 RX3 "ringOfLeastStamp" ((some (.object "RingPost$Ring"))) rm_X3_ringOfLeastStamp) (h : Hpx) (a0 : Nat) (hF : Fi_ v g rm_X3_ringOfLeastStamp (some (v_R r)) h M) (rec_7 : Option Nat → Option Nat → Int64 → Int32 → Option (Option Nat)) (hr_7 : ∀ (x1 : Option Nat) (x2 : Option Nat) (x3 : Int64) (x5 : Int32), rec_7 x1 x2 x3 x5 = some r → At_ v g 8 h M 0 0 7 [(0, v_R (some a0)), (1, v_R x1), (2, v_R x2), (3, v_J x3), (5, v_I x5)] []) (x1 : Option Nat) (x2 : Option Nat) (x3 : Int64) (x5 : Int32) (hm : j_X3_ringOfLeastStamp_7 h a0 rec_7 x1 x2 x3 x5 = some r) : At_ v g 8 h M 0 0 7 [(0, v_R (some a0)), (1, v_R x1), (2, v_R x2), (3, v_J x3), (5, v_I x5)] [] := by
  unfold j_X3_ringOfLeastStamp_7 at hm
  refine a_iload X dX3_ringOfLeastStamp_7 rfl ?_
  refine a_bipush (x := 8) X dX3_ringOfLeastStamp_9 (by decide) ?_
  refine a_icmp_ge (tgt := 84) X dX3_ringOfLeastStamp_11 (by decide) hm (fun c21 hm => ?_) (fun c21 hm => ?_)
  · refine a_aload_n X dX3_ringOfLeastStamp_84 rfl ?_
    exact a_aret _ X hF ⟨rfl, rfl, Option.some.inj hm⟩ (by decide) dX3_ringOfLeastStamp_85
  · refine a_aload_n X dX3_ringOfLeastStamp_14 rfl ?_
    refine a_iload X dX3_ringOfLeastStamp_15 rfl ?_
    obtain ⟨k22, hm⟩ := i_c hm
    obtain ⟨r24, q23, hm⟩ := i_b hm
    refine a_callV (k' := 0) (n' := 0) (st := []) X (c_X3_ringAt q23) yv_X3_ringAt ml_X3_54 rfl (Or.inl k22) ⟨by decide, by decide, by decide, by decide, Nat.le_of_ble_eq_true rfl⟩ rfl rfl dX3_ringOfLeastStamp_17 rfl rfl ?_
    show At_ v g 8 h M 0 0 20 [(0, v_R (some a0)), (1, v_R x1), (2, v_R x2), (3, v_J x3), (5, v_I x5)] [v_R r24]
    refine a_astore (lv' := [(0, v_R (some a0)), (1, v_R x1), (2, v_R x2), (3, v_J x3), (5, v_I x5), (6, v_R r24)]) X dX3_ringOfLeastStamp_20 (by decide) rfl ?_
    refine a_aload X dX3_ringOfLeastStamp_22 rfl ?_
    refine a_ifnull (tgt := 78) X dX3_ringOfLeastStamp_24 (by decide) hm (fun c25 hm => ?_) (fun c25 hm => ?_)
    · refine a_iinc (y := x5 + (1 : Int32)) (lv' := [(0, v_R (some a0)), (1, v_R x1), (2, v_R x2), (3, v_J x3), (5, v_I (x5 + (1 : Int32))), (6, v_R r24)]) X dX3_ringOfLeastStamp_78 rfl rfl (by decide) rfl ?_
      refine a_goto (tgt := 7) X dX3_ringOfLeastStamp_81 (by decide) ?_
      refine a_pick (lv' := [(0, v_R (some a0)), (1, v_R x1), (2, v_R x2), (3, v_J x3), (5, v_I (x5 + (1 : Int32)))]) [0, 1, 2, 3, 4] rfl ?_
      exact hr_7 x1 x2 x3 (x5 + (1 : Int32)) hm
    · refine a_aload_n X dX3_ringOfLeastStamp_27 rfl ?_
      refine a_aload_n X dX3_ringOfLeastStamp_28 rfl ?_
      refine a_aload X dX3_ringOfLeastStamp_29 rfl ?_
      obtain ⟨r27, q26, hm⟩ := i_b hm
      refine a_callV (k' := 0) (n' := 0) (st := []) X (c_X3_isAwaited q26) yv_X3_isAwaited ml_X3_330 rfl (Or.inl k22) ⟨by decide, by decide, by decide, by decide, Nat.le_of_ble_eq_true rfl⟩ rfl rfl dX3_ringOfLeastStamp_31 rfl rfl ?_
      show At_ v g 8 h M 0 0 34 [(0, v_R (some a0)), (1, v_R x1), (2, v_R x2), (3, v_J x3), (5, v_I x5), (6, v_R r24)] [v_I r27]
      refine a_if_eq (tgt := 78) X dX3_ringOfLeastStamp_34 (by decide) hm (fun c28 hm => ?_) (fun c28 hm => ?_)
      · refine a_iinc (y := x5 + (1 : Int32)) (lv' := [(0, v_R (some a0)), (1, v_R x1), (2, v_R x2), (3, v_J x3), (5, v_I (x5 + (1 : Int32))), (6, v_R r24)]) X dX3_ringOfLeastStamp_78 rfl rfl (by decide) rfl ?_
        refine a_goto (tgt := 7) X dX3_ringOfLeastStamp_81 (by decide) ?_
        refine a_pick (lv' := [(0, v_R (some a0)), (1, v_R x1), (2, v_R x2), (3, v_J x3), (5, v_I (x5 + (1 : Int32)))]) [0, 1, 2, 3, 4] rfl ?_
        exact hr_7 x1 x2 x3 (x5 + (1 : Int32)) hm
      · refine a_aload X dX3_ringOfLeastStamp_37 rfl ?_
        refine a_aload_n X dX3_ringOfLeastStamp_39 rfl ?_
        refine a_iload X dX3_ringOfLeastStamp_40 rfl ?_
        obtain ⟨a29, ea29, hm⟩ := i_b hm
        obtain ⟨k30, hm⟩ := i_c hm
        obtain ⟨r32, q31, hm⟩ := i_b hm
        refine a_callV (k' := 0) (n' := 0) (st := [v_R r24]) X (c_X1_placeIn q31) yv_X1_placeIn ml_X3_80 ea29 (Or.inl k30) ⟨by decide, by decide, by decide, by decide, Nat.le_of_ble_eq_true rfl⟩ rfl rfl dX3_ringOfLeastStamp_42 rfl rfl ?_
        show At_ v g 8 h M 0 0 45 [(0, v_R (some a0)), (1, v_R x1), (2, v_R x2), (3, v_J x3), (5, v_I x5), (6, v_R r24)] [v_I r32, v_R r24]
        obtain ⟨a33, ea33, hm⟩ := i_b hm
        obtain ⟨k34, hm⟩ := i_c hm
        obtain ⟨r36, q35, hm⟩ := i_b hm
        refine a_callV (k' := 0) (n' := 0) (st := []) X (c_X2_slotOf q35) yv_X2_slotOf ml_X3_303 ea33 (Or.inl k34) ⟨by decide, by decide, by decide, by decide, Nat.le_of_ble_eq_true rfl⟩ rfl rfl dX3_ringOfLeastStamp_45 rfl rfl ?_
        show At_ v g 8 h M 0 0 48 [(0, v_R (some a0)), (1, v_R x1), (2, v_R x2), (3, v_J x3), (5, v_I x5), (6, v_R r24)] [v_R r36]
        refine a_astore (lv' := [(0, v_R (some a0)), (1, v_R x1), (2, v_R x2), (3, v_J x3), (5, v_I x5), (6, v_R r24), (7, v_R r36)]) X dX3_ringOfLeastStamp_48 (by decide) rfl ?_
        refine a_aload X dX3_ringOfLeastStamp_50 rfl ?_
        refine a_ifnull (tgt := 78) X dX3_ringOfLeastStamp_52 (by decide) hm (fun c37 hm => ?_) (fun c37 hm => ?_)
        · refine a_iinc (y := x5 + (1 : Int32)) (lv' := [(0, v_R (some a0)), (1, v_R x1), (2, v_R x2), (3, v_J x3), (5, v_I (x5 + (1 : Int32))), (6, v_R r24), (7, v_R r36)]) X dX3_ringOfLeastStamp_78 rfl rfl (by decide) rfl ?_
          refine a_goto (tgt := 7) X dX3_ringOfLeastStamp_81 (by decide) ?_
          refine a_pick (lv' := [(0, v_R (some a0)), (1, v_R x1), (2, v_R x2), (3, v_J x3), (5, v_I (x5 + (1 : Int32)))]) [0, 1, 2, 3, 4] rfl ?_
          exact hr_7 x1 x2 x3 (x5 + (1 : Int32)) hm
        · refine a_aload_n X dX3_ringOfLeastStamp_55 rfl ?_
          refine a_ifnull (tgt := 69) X dX3_ringOfLeastStamp_56 (by decide) hm (fun c38 hm => ?_) (fun c38 hm => ?_)
          · refine a_aload X dX3_ringOfLeastStamp_69 rfl ?_
            refine a_astore_n (lv' := [(0, v_R (some a0)), (1, v_R x1), (2, v_R r24), (3, v_J x3), (5, v_I x5), (6, v_R r24), (7, v_R r36)]) X dX3_ringOfLeastStamp_71 (by decide) rfl ?_
            refine a_aload X dX3_ringOfLeastStamp_72 rfl ?_
            obtain ⟨a39, ea39, hm⟩ := i_b hm
            obtain ⟨k40, hm⟩ := i_c hm
            refine a_getJ X 0 3 ea39 k40 (by decide) rfl fl_X3_197 dX3_ringOfLeastStamp_74 ?_
            refine a_lstore_n (lv' := [(0, v_R (some a0)), (1, v_R x1), (2, v_R r24), (3, v_J (h_J h a39 3)), (5, v_I x5), (6, v_R r24), (7, v_R r36)]) X dX3_ringOfLeastStamp_77 (by decide) rfl ?_
            refine a_iinc (y := x5 + (1 : Int32)) (lv' := [(0, v_R (some a0)), (1, v_R x1), (2, v_R r24), (3, v_J (h_J h a39 3)), (5, v_I (x5 + (1 : Int32))), (6, v_R r24), (7, v_R r36)]) X dX3_ringOfLeastStamp_78 rfl rfl (by decide) rfl ?_
            refine a_goto (tgt := 7) X dX3_ringOfLeastStamp_81 (by decide) ?_
            refine a_pick (lv' := [(0, v_R (some a0)), (1, v_R x1), (2, v_R r24), (3, v_J (h_J h a39 3)), (5, v_I (x5 + (1 : Int32)))]) [0, 1, 2, 3, 4] rfl ?_
            exact hr_7 x1 r24 (h_J h a39 3) (x5 + (1 : Int32)) hm
          · refine a_aload X dX3_ringOfLeastStamp_59 rfl ?_
            obtain ⟨a41, ea41, hm⟩ := i_b hm
            obtain ⟨k42, hm⟩ := i_c hm
            refine a_getJ X 0 3 ea41 k42 (by decide) rfl fl_X3_197 dX3_ringOfLeastStamp_61 ?_
            refine a_lload_n X dX3_ringOfLeastStamp_64 rfl ?_
            refine a_lcmp X dX3_ringOfLeastStamp_65 ?_
            refine a_if_ge (tgt := 78) X dX3_ringOfLeastStamp_66 (by decide) hm (fun c43 hm => ?_) (fun c43 hm => ?_)
            · refine a_iinc (y := x5 + (1 : Int32)) (lv' := [(0, v_R (some a0)), (1, v_R x1), (2, v_R x2), (3, v_J x3), (5, v_I (x5 + (1 : Int32))), (6, v_R r24), (7, v_R r36)]) X dX3_ringOfLeastStamp_78 rfl rfl (by decide) rfl ?_
              refine a_goto (tgt := 7) X dX3_ringOfLeastStamp_81 (by decide) ?_
              refine a_pick (lv' := [(0, v_R (some a0)), (1, v_R x1), (2, v_R x2), (3, v_J x3), (5, v_I (x5 + (1 : Int32)))]) [0, 1, 2, 3, 4] rfl ?_
              exact hr_7 x1 x2 x3 (x5 + (1 : Int32)) hm
            · refine a_aload X dX3_ringOfLeastStamp_69 rfl ?_
              refine a_astore_n (lv' := [(0, v_R (some a0)), (1, v_R x1), (2, v_R r24), (3, v_J x3), (5, v_I x5), (6, v_R r24), (7, v_R r36)]) X dX3_ringOfLeastStamp_71 (by decide) rfl ?_
              refine a_aload X dX3_ringOfLeastStamp_72 rfl ?_
              refine a_getJ X 0 3 ea41 k42 (by decide) rfl fl_X3_197 dX3_ringOfLeastStamp_74 ?_
              refine a_lstore_n (lv' := [(0, v_R (some a0)), (1, v_R x1), (2, v_R r24), (3, v_J (h_J h a41 3)), (5, v_I x5), (6, v_R r24), (7, v_R r36)]) X dX3_ringOfLeastStamp_77 (by decide) rfl ?_
              refine a_iinc (y := x5 + (1 : Int32)) (lv' := [(0, v_R (some a0)), (1, v_R x1), (2, v_R r24), (3, v_J (h_J h a41 3)), (5, v_I (x5 + (1 : Int32))), (6, v_R r24), (7, v_R r36)]) X dX3_ringOfLeastStamp_78 rfl rfl (by decide) rfl ?_
              refine a_goto (tgt := 7) X dX3_ringOfLeastStamp_81 (by decide) ?_
              refine a_pick (lv' := [(0, v_R (some a0)), (1, v_R x1), (2, v_R r24), (3, v_J (h_J h a41 3)), (5, v_I (x5 + (1 : Int32)))]) [0, 1, 2, 3, 4] rfl ?_
              exact hr_7 x1 r24 (h_J h a41 3) (x5 + (1 : Int32)) hm
def l_X3_ringOfLeastStamp_7 (h : Hpx) (a0 : Nat) (n : Nat) : Option Nat → Option Nat → Int64 → Int32 → Option (Option Nat) := lp_ (fun rec_7 => j_X3_ringOfLeastStamp_7 h a0 rec_7) (fun _ _ _ _ => none) n
theorem ql_X3_ringOfLeastStamp_7 {v : Evx} {g : Gvx} {M : Msx} {r : Option Nat} (X : Cx_ v g cX3_ringOfLeastStamp 8 RX3 "ringOfLeastStamp" ((some (.object "RingPost$Ring"))) rm_X3_ringOfLeastStamp) (h : Hpx) (a0 : Nat) (hF : Fi_ v g rm_X3_ringOfLeastStamp (some (v_R r)) h M) : ∀ (n : Nat) (x1 : Option Nat) (x2 : Option Nat) (x3 : Int64) (x5 : Int32), l_X3_ringOfLeastStamp_7 h a0 n x1 x2 x3 x5 = some r → At_ v g 8 h M 0 0 7 [(0, v_R (some a0)), (1, v_R x1), (2, v_R x2), (3, v_J x3), (5, v_I x5)] [] := by
  intro n
  induction n with
  | zero => intro x1 x2 x3 x5 hm; cases hm
  | succ n ih =>
    intro x1 x2 x3 x5 hm
    exact q_X3_ringOfLeastStamp_7 X h a0 hF (l_X3_ringOfLeastStamp_7 h a0 n) ih x1 x2 x3 x5 hm
def f_X3_ringOfLeastStamp (h : Hpx) (a0 : Nat) (x1 : Option Nat) : Option (Option Nat) :=
  l_X3_ringOfLeastStamp_7 h a0 70 x1 none (0 : Int64) (0 : Int32)
set_option maxHeartbeats 4000000 in
theorem q_X3_ringOfLeastStamp_0 {v : Evx} {g : Gvx} {M : Msx} {r : Option Nat} (X : Cx_ v g cX3_ringOfLeastStamp 8 RX3 "ringOfLeastStamp" ((some (.object "RingPost$Ring"))) rm_X3_ringOfLeastStamp) (h : Hpx) (a0 : Nat) (hF : Fi_ v g rm_X3_ringOfLeastStamp (some (v_R r)) h M) (x1 : Option Nat) (hm : f_X3_ringOfLeastStamp h a0 x1 = some r) : At_ v g 8 h M 0 0 0 [(0, v_R (some a0)), (1, v_R x1)] [] := by
  unfold f_X3_ringOfLeastStamp at hm
  refine a_null X dX3_ringOfLeastStamp_0 ?_
  refine a_astore_n (lv' := [(0, v_R (some a0)), (1, v_R x1), (2, v_R none)]) X dX3_ringOfLeastStamp_1 (by decide) rfl ?_
  refine a_lconst (x := 0) X dX3_ringOfLeastStamp_2 (by decide) ?_
  refine a_lstore_n (lv' := [(0, v_R (some a0)), (1, v_R x1), (2, v_R none), (3, v_J (0 : Int64))]) X dX3_ringOfLeastStamp_3 (by decide) rfl ?_
  refine a_iconst (x := 0) X dX3_ringOfLeastStamp_4 (by decide) ?_
  refine a_istore (lv' := [(0, v_R (some a0)), (1, v_R x1), (2, v_R none), (3, v_J (0 : Int64)), (5, v_I (0 : Int32))]) X dX3_ringOfLeastStamp_5 (by decide) rfl ?_
  exact ql_X3_ringOfLeastStamp_7 X h a0 hF 70 x1 none (0 : Int64) (0 : Int32) hm
theorem c_X3_ringOfLeastStamp {l : Launch} {g : Gvx} {h : Hpx} {M : Msx} {r : Option Nat} {a0 : Nat} {x1 : Option Nat} (hm : f_X3_ringOfLeastStamp h a0 x1 = some r) : Mt_ l g yX3_ringOfLeastStamp cX3_ringOfLeastStamp 8 ((some (.object "RingPost$Ring"))) rm_X3_ringOfLeastStamp [v_R (some a0), v_R x1] h M (some (v_R r)) h M := mt_of (by decide) (Nat.le_of_ble_eq_true rfl) (fun v _ X hF => q_X3_ringOfLeastStamp_0 X h a0 hF x1 hm)
theorem yv_X3_ringOfLeastStamp : Yv_ yX3_ringOfLeastStamp cX3_ringOfLeastStamp 8 ((some (.object "RingPost$Ring"))) 1 3 := ⟨rfl, by decide, ⟨by decide, by decide, by decide +kernel⟩, co_X3_ringOfLeastStamp, im_X3_ringOfLeastStamp, se_X3_ringOfLeastStamp, ini_X3⟩

abbrev rm_X3_reasonOfMerge : Room := { frames := 3, cells := 0, slots := 0, locals := 71 }
def f_X3_reasonOfMerge (h : Hpx) (a0 : Nat) (x1 : Option Nat) : Option (Int32) :=
  (if h_k h a0 = 4 then
  (f_X3_leastLackingRing h a0 x1).bind fun r23 =>
  (if r23 < 0 then
  (f_X3_ringOfLeastStamp h a0 x1).bind fun r26 =>
  (if r26 = none then
  some (6 : Int32)
  else some (0 : Int32))
  else some (7 : Int32)) else none)
set_option maxHeartbeats 4000000 in
theorem q_X3_reasonOfMerge_0 {v : Evx} {g : Gvx} {M : Msx} {r : Int32} (X : Cx_ v g cX3_reasonOfMerge 2 RX3 "reasonOfMerge" ((some .int)) rm_X3_reasonOfMerge) (h : Hpx) (a0 : Nat) (hF : Fi_ v g rm_X3_reasonOfMerge (some (v_I r)) h M) (x1 : Option Nat) (hm : f_X3_reasonOfMerge h a0 x1 = some r) : At_ v g 2 h M 0 0 0 [(0, v_R (some a0)), (1, v_R x1)] [] := by
  unfold f_X3_reasonOfMerge at hm
  refine a_aload_n X dX3_reasonOfMerge_0 rfl ?_
  refine a_aload_n X dX3_reasonOfMerge_1 rfl ?_
  obtain ⟨k21, hm⟩ := i_c hm
  obtain ⟨r23, q22, hm⟩ := i_b hm
  refine a_callV (k' := 0) (n' := 0) (st := []) X (c_X3_leastLackingRing q22) yv_X3_leastLackingRing ml_X3_240 rfl (Or.inl k21) ⟨by decide, by decide, by decide, by decide, Nat.le_of_ble_eq_true rfl⟩ rfl rfl dX3_reasonOfMerge_2 rfl rfl ?_
  show At_ v g 2 h M 0 0 5 [(0, v_R (some a0)), (1, v_R x1)] [v_I r23]
  refine a_if_lt (tgt := 11) X dX3_reasonOfMerge_5 (by decide) hm (fun c24 hm => ?_) (fun c24 hm => ?_)
  · refine a_aload_n X dX3_reasonOfMerge_11 rfl ?_
    refine a_aload_n X dX3_reasonOfMerge_12 rfl ?_
    obtain ⟨r26, q25, hm⟩ := i_b hm
    refine a_callV (k' := 0) (n' := 0) (st := []) X (c_X3_ringOfLeastStamp q25) yv_X3_ringOfLeastStamp ml_X3_310 rfl (Or.inl k21) ⟨by decide, by decide, by decide, by decide, Nat.le_of_ble_eq_true rfl⟩ rfl rfl dX3_reasonOfMerge_13 rfl rfl ?_
    show At_ v g 2 h M 0 0 16 [(0, v_R (some a0)), (1, v_R x1)] [v_R r26]
    refine a_ifnonnull (tgt := 24) X dX3_reasonOfMerge_16 (by decide) hm (fun c27 hm => ?_) (fun c27 hm => ?_)
    · refine a_iconst (x := 0) X dX3_reasonOfMerge_24 (by decide) ?_
      exact a_iret X hF ⟨rfl, rfl, Option.some.inj hm⟩ (by decide) dX3_reasonOfMerge_25
    · refine a_bipush (x := 6) X dX3_reasonOfMerge_19 (by decide) ?_
      refine a_goto (tgt := 25) X dX3_reasonOfMerge_21 (by decide) ?_
      exact a_iret X hF ⟨rfl, rfl, Option.some.inj hm⟩ (by decide) dX3_reasonOfMerge_25
  · refine a_bipush (x := 7) X dX3_reasonOfMerge_8 (by decide) ?_
    exact a_iret X hF ⟨rfl, rfl, Option.some.inj hm⟩ (by decide) dX3_reasonOfMerge_10
theorem c_X3_reasonOfMerge {l : Launch} {g : Gvx} {h : Hpx} {M : Msx} {r : Int32} {a0 : Nat} {x1 : Option Nat} (hm : f_X3_reasonOfMerge h a0 x1 = some r) : Mt_ l g yX3_reasonOfMerge cX3_reasonOfMerge 2 ((some .int)) rm_X3_reasonOfMerge [v_R (some a0), v_R x1] h M (some (v_I r)) h M := mt_of (by decide) (Nat.le_of_ble_eq_true rfl) (fun v _ X hF => q_X3_reasonOfMerge_0 X h a0 hF x1 hm)
theorem yv_X3_reasonOfMerge : Yv_ yX3_reasonOfMerge cX3_reasonOfMerge 2 ((some .int)) 1 3 := ⟨rfl, by decide, ⟨by decide, by decide, by decide +kernel⟩, co_X3_reasonOfMerge, im_X3_reasonOfMerge, se_X3_reasonOfMerge, ini_X3⟩

abbrev rm_X3_reasonOf : Room := { frames := 4, cells := 0, slots := 0, locals := 92 }
def f_X3_reasonOf (h : Hpx) (a0 : Nat) (x1 : Option Nat) : Option (Int32) :=
  x1.bind fun a21 =>
  (if h_k h a21 = 2 then
  (if (h_I h a21 0) = (5 : Int32) then
  (if h_k h a0 = 4 then
  (f_X3_reasonOfMerge h a0 x1).bind fun r40 =>
  some r40 else none)
  else (if (h_I h a21 0) = (4 : Int32) then
  (if (h_I h a21 10) ≤ 0 then
  some (2 : Int32)
  else some (0 : Int32))
  else (h_R h a21 1).bind fun a25 =>
  (if h_k h a25 = 3 then
  (if (h_I h a25 6) = 0 then
  (if (h_I h a21 0) = (1 : Int32) then
  (f_X2_newestPublished h a25).bind fun r33 =>
  (h_R h a21 3).bind fun a34 =>
  (if h_k h a34 = 1 then
  (if r33 ≤ (h_I h a34 2) then
  some (2 : Int32)
  else some (0 : Int32)) else none)
  else (if h_k h a0 = 4 then
  (f_X3_reasonAtPlace h a0 x1).bind fun r31 =>
  some r31 else none))
  else some (1 : Int32)) else none))) else none)
set_option maxHeartbeats 4000000 in
theorem q_X3_reasonOf_0 {v : Evx} {g : Gvx} {M : Msx} {r : Int32} (X : Cx_ v g cX3_reasonOf 2 RX3 "reasonOf" ((some .int)) rm_X3_reasonOf) (h : Hpx) (a0 : Nat) (hF : Fi_ v g rm_X3_reasonOf (some (v_I r)) h M) (x1 : Option Nat) (hm : f_X3_reasonOf h a0 x1 = some r) : At_ v g 2 h M 0 0 0 [(0, v_R (some a0)), (1, v_R x1)] [] := by
  unfold f_X3_reasonOf at hm
  refine a_aload_n X dX3_reasonOf_0 rfl ?_
  obtain ⟨a21, ea21, hm⟩ := i_b hm
  obtain ⟨k22, hm⟩ := i_c hm
  refine a_getI X 1 0 ea21 k22 (by decide) rfl fl_X3_77 dX3_reasonOf_1 ?_
  refine a_iconst (x := 5) X dX3_reasonOf_4 (by decide) ?_
  refine a_icmp_ne (tgt := 14) X dX3_reasonOf_5 (by decide) hm (fun c23 hm => ?_) (fun c23 hm => ?_)
  · refine a_aload_n X dX3_reasonOf_14 rfl ?_
    refine a_getI X 1 0 ea21 k22 (by decide) rfl fl_X3_77 dX3_reasonOf_15 ?_
    refine a_iconst (x := 4) X dX3_reasonOf_18 (by decide) ?_
    refine a_icmp_ne (tgt := 35) X dX3_reasonOf_19 (by decide) hm (fun c24 hm => ?_) (fun c24 hm => ?_)
    · refine a_aload_n X dX3_reasonOf_35 rfl ?_
      refine a_getR X 1 1 ea21 k22 (by decide) rfl fl_X3_94 dX3_reasonOf_36 ?_
      obtain ⟨a25, ea25, hm⟩ := i_b hm
      obtain ⟨k26, hm⟩ := i_c hm
      refine a_getI X 2 6 ea25 k26 (by decide) rfl fl_X3_128 dX3_reasonOf_39 ?_
      refine a_if_eq (tgt := 47) X dX3_reasonOf_42 (by decide) hm (fun c27 hm => ?_) (fun c27 hm => ?_)
      · refine a_aload_n X dX3_reasonOf_47 rfl ?_
        refine a_getI X 1 0 ea21 k22 (by decide) rfl fl_X3_77 dX3_reasonOf_48 ?_
        refine a_iconst (x := 1) X dX3_reasonOf_51 (by decide) ?_
        refine a_icmp_ne (tgt := 78) X dX3_reasonOf_52 (by decide) hm (fun c28 hm => ?_) (fun c28 hm => ?_)
        · refine a_aload_n X dX3_reasonOf_78 rfl ?_
          refine a_aload_n X dX3_reasonOf_79 rfl ?_
          obtain ⟨k29, hm⟩ := i_c hm
          obtain ⟨r31, q30, hm⟩ := i_b hm
          refine a_callV (k' := 0) (n' := 0) (st := []) X (c_X3_reasonAtPlace q30) yv_X3_reasonAtPlace ml_X3_324 rfl (Or.inl k29) ⟨by decide, by decide, by decide, by decide, Nat.le_of_ble_eq_true rfl⟩ rfl rfl dX3_reasonOf_80 rfl rfl ?_
          show At_ v g 2 h M 0 0 83 [(0, v_R (some a0)), (1, v_R x1)] [v_I r31]
          exact a_iret X hF ⟨rfl, rfl, Option.some.inj hm⟩ (by decide) dX3_reasonOf_83
        · refine a_aload_n X dX3_reasonOf_55 rfl ?_
          refine a_getR X 1 1 ea21 k22 (by decide) rfl fl_X3_94 dX3_reasonOf_56 ?_
          obtain ⟨r33, q32, hm⟩ := i_b hm
          refine a_callV (k' := 0) (n' := 0) (st := []) X (c_X2_newestPublished q32) yv_X2_newestPublished ml_X3_300 ea25 (Or.inl k26) ⟨by decide, by decide, by decide, by decide, Nat.le_of_ble_eq_true rfl⟩ rfl rfl dX3_reasonOf_59 rfl rfl ?_
          show At_ v g 2 h M 0 0 62 [(0, v_R (some a0)), (1, v_R x1)] [v_I r33]
          refine a_aload_n X dX3_reasonOf_62 rfl ?_
          refine a_getR X 1 3 ea21 k22 (by decide) rfl fl_X3_141 dX3_reasonOf_63 ?_
          obtain ⟨a34, ea34, hm⟩ := i_b hm
          obtain ⟨k35, hm⟩ := i_c hm
          refine a_getI X 0 2 ea34 k35 (by decide) rfl fl_X3_191 dX3_reasonOf_66 ?_
          refine a_icmp_le (tgt := 76) X dX3_reasonOf_69 (by decide) hm (fun c36 hm => ?_) (fun c36 hm => ?_)
          · refine a_iconst (x := 2) X dX3_reasonOf_76 (by decide) ?_
            exact a_iret X hF ⟨rfl, rfl, Option.some.inj hm⟩ (by decide) dX3_reasonOf_77
          · refine a_iconst (x := 0) X dX3_reasonOf_72 (by decide) ?_
            refine a_goto (tgt := 77) X dX3_reasonOf_73 (by decide) ?_
            exact a_iret X hF ⟨rfl, rfl, Option.some.inj hm⟩ (by decide) dX3_reasonOf_77
      · refine a_iconst (x := 1) X dX3_reasonOf_45 (by decide) ?_
        exact a_iret X hF ⟨rfl, rfl, Option.some.inj hm⟩ (by decide) dX3_reasonOf_46
    · refine a_aload_n X dX3_reasonOf_22 rfl ?_
      refine a_getI X 1 10 ea21 k22 (by decide) rfl fl_X3_215 dX3_reasonOf_23 ?_
      refine a_if_le (tgt := 33) X dX3_reasonOf_26 (by decide) hm (fun c37 hm => ?_) (fun c37 hm => ?_)
      · refine a_iconst (x := 2) X dX3_reasonOf_33 (by decide) ?_
        exact a_iret X hF ⟨rfl, rfl, Option.some.inj hm⟩ (by decide) dX3_reasonOf_34
      · refine a_iconst (x := 0) X dX3_reasonOf_29 (by decide) ?_
        refine a_goto (tgt := 34) X dX3_reasonOf_30 (by decide) ?_
        exact a_iret X hF ⟨rfl, rfl, Option.some.inj hm⟩ (by decide) dX3_reasonOf_34
  · refine a_aload_n X dX3_reasonOf_8 rfl ?_
    refine a_aload_n X dX3_reasonOf_9 rfl ?_
    obtain ⟨k38, hm⟩ := i_c hm
    obtain ⟨r40, q39, hm⟩ := i_b hm
    refine a_callV (k' := 0) (n' := 0) (st := []) X (c_X3_reasonOfMerge q39) yv_X3_reasonOfMerge ml_X3_321 rfl (Or.inl k38) ⟨by decide, by decide, by decide, by decide, Nat.le_of_ble_eq_true rfl⟩ rfl rfl dX3_reasonOf_10 rfl rfl ?_
    show At_ v g 2 h M 0 0 13 [(0, v_R (some a0)), (1, v_R x1)] [v_I r40]
    exact a_iret X hF ⟨rfl, rfl, Option.some.inj hm⟩ (by decide) dX3_reasonOf_13
theorem c_X3_reasonOf {l : Launch} {g : Gvx} {h : Hpx} {M : Msx} {r : Int32} {a0 : Nat} {x1 : Option Nat} (hm : f_X3_reasonOf h a0 x1 = some r) : Mt_ l g yX3_reasonOf cX3_reasonOf 2 ((some .int)) rm_X3_reasonOf [v_R (some a0), v_R x1] h M (some (v_I r)) h M := mt_of (by decide) (Nat.le_of_ble_eq_true rfl) (fun v _ X hF => q_X3_reasonOf_0 X h a0 hF x1 hm)
theorem yv_X3_reasonOf : Yv_ yX3_reasonOf cX3_reasonOf 2 ((some .int)) 1 3 := ⟨rfl, by decide, ⟨by decide, by decide, by decide +kernel⟩, co_X3_reasonOf, im_X3_reasonOf, se_X3_reasonOf, ini_X3⟩

abbrev rm_X3_takeAtPlace : Room := { frames := 3, cells := 0, slots := 0, locals := 82 }
def f_X3_takeAtPlace (h : Hpx) (a0 : Nat) (x1 : Option Nat) (x2 : Option Nat) : Option (Hpx × Int32) :=
  (if x2 = none then
  some (h, (0 : Int32))
  else x2.bind fun a22 =>
  (if h_k h a22 = 3 then
  x1.bind fun a24 =>
  (if h_k h a24 = 2 then
  (f_X1_placeIn h a24 (h_I h a22 0)).bind fun r27 =>
  (f_X2_slotOf h a22 r27).bind fun r29 =>
  c_l (f_X1_keep h a24 r29) fun h31 r32 =>
  (if r32 = 0 then
  some (h31, (0 : Int32))
  else (if h_k h31 a22 = 3 then
  (if h_k h31 a24 = 2 then
  (f_X1_stepOn h31 a24 (h_I h31 a22 0)).bind fun h37 =>
  some (h37, (1 : Int32)) else none) else none)) else none) else none))
set_option maxHeartbeats 4000000 in
theorem q_X3_takeAtPlace_0 {v : Evx} {g : Gvx} {M : Msx} {h' : Hpx} {r : Int32} (X : Cx_ v g cX3_takeAtPlace 3 RX3 "takeAtPlace" ((some .boolean)) rm_X3_takeAtPlace) (a0 : Nat) (hF : Fi_ v g rm_X3_takeAtPlace (some (v_I r)) h' M) (h : Hpx) (x1 : Option Nat) (x2 : Option Nat) (hm : f_X3_takeAtPlace h a0 x1 x2 = some (h', r)) : At_ v g 3 h M 0 0 0 [(0, v_R (some a0)), (1, v_R x1), (2, v_R x2)] [] := by
  unfold f_X3_takeAtPlace at hm
  refine a_aload_n X dX3_takeAtPlace_0 rfl ?_
  refine a_ifnull (tgt := 23) X dX3_takeAtPlace_1 (by decide) hm (fun c21 hm => ?_) (fun c21 hm => ?_)
  · refine a_iconst (x := 0) X dX3_takeAtPlace_23 (by decide) ?_
    exact a_zret X hF (Or.inl rfl) ⟨(Prod.mk.inj (Option.some.inj hm)).1, rfl, (Prod.mk.inj (Option.some.inj hm)).2⟩ (by decide) dX3_takeAtPlace_24
  · refine a_aload_n X dX3_takeAtPlace_4 rfl ?_
    refine a_aload_n X dX3_takeAtPlace_5 rfl ?_
    refine a_aload_n X dX3_takeAtPlace_6 rfl ?_
    refine a_aload_n X dX3_takeAtPlace_7 rfl ?_
    obtain ⟨a22, ea22, hm⟩ := i_b hm
    obtain ⟨k23, hm⟩ := i_c hm
    refine a_getI X 2 0 ea22 k23 (by decide) rfl fl_X3_98 dX3_takeAtPlace_8 ?_
    obtain ⟨a24, ea24, hm⟩ := i_b hm
    obtain ⟨k25, hm⟩ := i_c hm
    obtain ⟨r27, q26, hm⟩ := i_b hm
    refine a_callV (k' := 0) (n' := 0) (st := [v_R x2, v_R x1]) X (c_X1_placeIn q26) yv_X1_placeIn ml_X3_80 ea24 (Or.inl k25) ⟨by decide, by decide, by decide, by decide, Nat.le_of_ble_eq_true rfl⟩ rfl rfl dX3_takeAtPlace_11 rfl rfl ?_
    show At_ v g 3 h M 0 0 14 [(0, v_R (some a0)), (1, v_R x1), (2, v_R x2)] [v_I r27, v_R x2, v_R x1]
    obtain ⟨r29, q28, hm⟩ := i_b hm
    refine a_callV (k' := 0) (n' := 0) (st := [v_R x1]) X (c_X2_slotOf q28) yv_X2_slotOf ml_X3_303 ea22 (Or.inl k23) ⟨by decide, by decide, by decide, by decide, Nat.le_of_ble_eq_true rfl⟩ rfl rfl dX3_takeAtPlace_14 rfl rfl ?_
    show At_ v g 3 h M 0 0 17 [(0, v_R (some a0)), (1, v_R x1), (2, v_R x2)] [v_R r29, v_R x1]
    obtain ⟨h31, r32, q30, hm⟩ := i_l hm
    refine a_callV (k' := 0) (n' := 0) (st := []) X (c_X1_keep q30) yv_X1_keep ml_X3_306 ea24 (Or.inl k25) ⟨by decide, by decide, by decide, by decide, Nat.le_of_ble_eq_true rfl⟩ rfl rfl dX3_takeAtPlace_17 rfl rfl ?_
    show At_ v g 3 h31 M 0 0 20 [(0, v_R (some a0)), (1, v_R x1), (2, v_R x2)] [v_I r32]
    refine a_if_ne (tgt := 25) X dX3_takeAtPlace_20 (by decide) hm (fun c33 hm => ?_) (fun c33 hm => ?_)
    · refine a_aload_n X dX3_takeAtPlace_25 rfl ?_
      refine a_aload_n X dX3_takeAtPlace_26 rfl ?_
      obtain ⟨k34, hm⟩ := i_c hm
      refine a_getI X 2 0 ea22 k34 (by decide) rfl fl_X3_98 dX3_takeAtPlace_27 ?_
      obtain ⟨k35, hm⟩ := i_c hm
      obtain ⟨h37, q36, hm⟩ := i_b hm
      refine a_callV (k' := 0) (n' := 0) (st := []) X (c_X1_stepOn q36) yv_X1_stepOn ml_X3_318 ea24 (Or.inl k35) ⟨by decide, by decide, by decide, by decide, Nat.le_of_ble_eq_true rfl⟩ rfl rfl dX3_takeAtPlace_30 rfl rfl ?_
      show At_ v g 3 h37 M 0 0 33 [(0, v_R (some a0)), (1, v_R x1), (2, v_R x2)] []
      refine a_iconst (x := 1) X dX3_takeAtPlace_33 (by decide) ?_
      exact a_zret X hF (Or.inr rfl) ⟨(Prod.mk.inj (Option.some.inj hm)).1, rfl, (Prod.mk.inj (Option.some.inj hm)).2⟩ (by decide) dX3_takeAtPlace_34
    · refine a_iconst (x := 0) X dX3_takeAtPlace_23 (by decide) ?_
      exact a_zret X hF (Or.inl rfl) ⟨(Prod.mk.inj (Option.some.inj hm)).1, rfl, (Prod.mk.inj (Option.some.inj hm)).2⟩ (by decide) dX3_takeAtPlace_24
theorem c_X3_takeAtPlace {l : Launch} {g : Gvx} {h : Hpx} {M : Msx} {h' : Hpx} {r : Int32} {a0 : Nat} {x1 : Option Nat} {x2 : Option Nat} (hm : f_X3_takeAtPlace h a0 x1 x2 = some (h', r)) : Mt_ l g yX3_takeAtPlace cX3_takeAtPlace 3 ((some .boolean)) rm_X3_takeAtPlace [v_R (some a0), v_R x1, v_R x2] h M (some (v_I r)) h' M := mt_of (by decide) (Nat.le_of_ble_eq_true rfl) (fun v _ X hF => q_X3_takeAtPlace_0 X a0 hF h x1 x2 hm)
theorem yv_X3_takeAtPlace : Yv_ yX3_takeAtPlace cX3_takeAtPlace 3 ((some .boolean)) 2 3 := ⟨rfl, by decide, ⟨by decide, by decide, by decide +kernel⟩, co_X3_takeAtPlace, im_X3_takeAtPlace, se_X3_takeAtPlace, ini_X3⟩

abbrev rm_X3_takeNext : Room := { frames := 4, cells := 0, slots := 0, locals := 104 }
def f_X3_takeNext (h : Hpx) (a0 : Nat) (x1 : Option Nat) : Option (Hpx × Int32) :=
  x1.bind fun a21 =>
  (if h_k h a21 = 2 then
  (if (h_I h a21 0) = (4 : Int32) then
  c_l (f_X1_takeEntry h a21) fun h49 r50 =>
  (if r50 = 0 ∨ r50 = 1 then
  some (h49, r50) else none)
  else (if (h_I h a21 0) = (1 : Int32) then
  (h_R h a21 1).bind fun a38 =>
  (if h_k h a38 = 3 then
  (f_X2_newestPublished h a38).bind fun r41 =>
  (f_X2_slotOf h a38 r41).bind fun r43 =>
  c_l (f_X1_keep h a21 r43) fun h45 r46 =>
  (if r46 = 0 ∨ r46 = 1 then
  some (h45, r46) else none) else none)
  else (if (h_I h a21 0) = (5 : Int32) then
  (if h_k h a0 = 4 then
  (f_X3_ringOfLeastStamp h a0 x1).bind fun r33 =>
  c_l (f_X3_takeAtPlace h a0 x1 r33) fun h35 r36 =>
  (if r36 = 0 ∨ r36 = 1 then
  some (h35, r36) else none) else none)
  else (if h_k h a0 = 4 then
  c_l (f_X3_takeAtPlace h a0 x1 (h_R h a21 1)) fun h28 r29 =>
  (if r29 = 0 ∨ r29 = 1 then
  some (h28, r29) else none) else none)))) else none)
set_option maxHeartbeats 4000000 in
theorem q_X3_takeNext_0 {v : Evx} {g : Gvx} {M : Msx} {h' : Hpx} {r : Int32} (X : Cx_ v g cX3_takeNext 2 RX3 "takeNext" ((some .boolean)) rm_X3_takeNext) (a0 : Nat) (hF : Fi_ v g rm_X3_takeNext (some (v_I r)) h' M) (h : Hpx) (x1 : Option Nat) (hm : f_X3_takeNext h a0 x1 = some (h', r)) : At_ v g 2 h M 0 0 0 [(0, v_R (some a0)), (1, v_R x1)] [] := by
  unfold f_X3_takeNext at hm
  refine a_aload_n X dX3_takeNext_0 rfl ?_
  obtain ⟨a21, ea21, hm⟩ := i_b hm
  obtain ⟨k22, hm⟩ := i_c hm
  refine a_getI X 1 0 ea21 k22 (by decide) rfl fl_X3_77 dX3_takeNext_1 ?_
  refine a_iconst (x := 4) X dX3_takeNext_4 (by decide) ?_
  refine a_icmp_ne (tgt := 13) X dX3_takeNext_5 (by decide) hm (fun c23 hm => ?_) (fun c23 hm => ?_)
  · refine a_aload_n X dX3_takeNext_13 rfl ?_
    refine a_getI X 1 0 ea21 k22 (by decide) rfl fl_X3_77 dX3_takeNext_14 ?_
    refine a_iconst (x := 1) X dX3_takeNext_17 (by decide) ?_
    refine a_icmp_ne (tgt := 40) X dX3_takeNext_18 (by decide) hm (fun c24 hm => ?_) (fun c24 hm => ?_)
    · refine a_aload_n X dX3_takeNext_40 rfl ?_
      refine a_getI X 1 0 ea21 k22 (by decide) rfl fl_X3_77 dX3_takeNext_41 ?_
      refine a_iconst (x := 5) X dX3_takeNext_44 (by decide) ?_
      refine a_icmp_ne (tgt := 59) X dX3_takeNext_45 (by decide) hm (fun c25 hm => ?_) (fun c25 hm => ?_)
      · refine a_aload_n X dX3_takeNext_59 rfl ?_
        refine a_aload_n X dX3_takeNext_60 rfl ?_
        refine a_aload_n X dX3_takeNext_61 rfl ?_
        refine a_getR X 1 1 ea21 k22 (by decide) rfl fl_X3_94 dX3_takeNext_62 ?_
        obtain ⟨k26, hm⟩ := i_c hm
        obtain ⟨h28, r29, q27, hm⟩ := i_l hm
        refine a_callV (k' := 0) (n' := 0) (st := []) X (c_X3_takeAtPlace q27) yv_X3_takeAtPlace ml_X3_314 rfl (Or.inl k26) ⟨by decide, by decide, by decide, by decide, Nat.le_of_ble_eq_true rfl⟩ rfl rfl dX3_takeNext_65 rfl rfl ?_
        show At_ v g 2 h28 M 0 0 68 [(0, v_R (some a0)), (1, v_R x1)] [v_I r29]
        obtain ⟨b30, hm⟩ := i_c hm
        exact a_zret X hF b30 ⟨(Prod.mk.inj (Option.some.inj hm)).1, rfl, (Prod.mk.inj (Option.some.inj hm)).2⟩ (by decide) dX3_takeNext_68
      · refine a_aload_n X dX3_takeNext_48 rfl ?_
        refine a_aload_n X dX3_takeNext_49 rfl ?_
        refine a_aload_n X dX3_takeNext_50 rfl ?_
        refine a_aload_n X dX3_takeNext_51 rfl ?_
        obtain ⟨k31, hm⟩ := i_c hm
        obtain ⟨r33, q32, hm⟩ := i_b hm
        refine a_callV (k' := 0) (n' := 0) (st := [v_R x1, v_R (some a0)]) X (c_X3_ringOfLeastStamp q32) yv_X3_ringOfLeastStamp ml_X3_310 rfl (Or.inl k31) ⟨by decide, by decide, by decide, by decide, Nat.le_of_ble_eq_true rfl⟩ rfl rfl dX3_takeNext_52 rfl rfl ?_
        show At_ v g 2 h M 0 0 55 [(0, v_R (some a0)), (1, v_R x1)] [v_R r33, v_R x1, v_R (some a0)]
        obtain ⟨h35, r36, q34, hm⟩ := i_l hm
        refine a_callV (k' := 0) (n' := 0) (st := []) X (c_X3_takeAtPlace q34) yv_X3_takeAtPlace ml_X3_314 rfl (Or.inl k31) ⟨by decide, by decide, by decide, by decide, Nat.le_of_ble_eq_true rfl⟩ rfl rfl dX3_takeNext_55 rfl rfl ?_
        show At_ v g 2 h35 M 0 0 58 [(0, v_R (some a0)), (1, v_R x1)] [v_I r36]
        obtain ⟨b37, hm⟩ := i_c hm
        exact a_zret X hF b37 ⟨(Prod.mk.inj (Option.some.inj hm)).1, rfl, (Prod.mk.inj (Option.some.inj hm)).2⟩ (by decide) dX3_takeNext_58
    · refine a_aload_n X dX3_takeNext_21 rfl ?_
      refine a_aload_n X dX3_takeNext_22 rfl ?_
      refine a_getR X 1 1 ea21 k22 (by decide) rfl fl_X3_94 dX3_takeNext_23 ?_
      refine a_aload_n X dX3_takeNext_26 rfl ?_
      refine a_getR X 1 1 ea21 k22 (by decide) rfl fl_X3_94 dX3_takeNext_27 ?_
      obtain ⟨a38, ea38, hm⟩ := i_b hm
      obtain ⟨k39, hm⟩ := i_c hm
      obtain ⟨r41, q40, hm⟩ := i_b hm
      refine a_callV (k' := 0) (n' := 0) (st := [v_R (h_R h a21 1), v_R x1]) X (c_X2_newestPublished q40) yv_X2_newestPublished ml_X3_300 ea38 (Or.inl k39) ⟨by decide, by decide, by decide, by decide, Nat.le_of_ble_eq_true rfl⟩ rfl rfl dX3_takeNext_30 rfl rfl ?_
      show At_ v g 2 h M 0 0 33 [(0, v_R (some a0)), (1, v_R x1)] [v_I r41, v_R (h_R h a21 1), v_R x1]
      obtain ⟨r43, q42, hm⟩ := i_b hm
      refine a_callV (k' := 0) (n' := 0) (st := [v_R x1]) X (c_X2_slotOf q42) yv_X2_slotOf ml_X3_303 ea38 (Or.inl k39) ⟨by decide, by decide, by decide, by decide, Nat.le_of_ble_eq_true rfl⟩ rfl rfl dX3_takeNext_33 rfl rfl ?_
      show At_ v g 2 h M 0 0 36 [(0, v_R (some a0)), (1, v_R x1)] [v_R r43, v_R x1]
      obtain ⟨h45, r46, q44, hm⟩ := i_l hm
      refine a_callV (k' := 0) (n' := 0) (st := []) X (c_X1_keep q44) yv_X1_keep ml_X3_306 ea21 (Or.inl k22) ⟨by decide, by decide, by decide, by decide, Nat.le_of_ble_eq_true rfl⟩ rfl rfl dX3_takeNext_36 rfl rfl ?_
      show At_ v g 2 h45 M 0 0 39 [(0, v_R (some a0)), (1, v_R x1)] [v_I r46]
      obtain ⟨b47, hm⟩ := i_c hm
      exact a_zret X hF b47 ⟨(Prod.mk.inj (Option.some.inj hm)).1, rfl, (Prod.mk.inj (Option.some.inj hm)).2⟩ (by decide) dX3_takeNext_39
  · refine a_aload_n X dX3_takeNext_8 rfl ?_
    obtain ⟨h49, r50, q48, hm⟩ := i_l hm
    refine a_callV (k' := 0) (n' := 0) (st := []) X (c_X1_takeEntry q48) yv_X1_takeEntry ml_X3_297 ea21 (Or.inl k22) ⟨by decide, by decide, by decide, by decide, Nat.le_of_ble_eq_true rfl⟩ rfl rfl dX3_takeNext_9 rfl rfl ?_
    show At_ v g 2 h49 M 0 0 12 [(0, v_R (some a0)), (1, v_R x1)] [v_I r50]
    obtain ⟨b51, hm⟩ := i_c hm
    exact a_zret X hF b51 ⟨(Prod.mk.inj (Option.some.inj hm)).1, rfl, (Prod.mk.inj (Option.some.inj hm)).2⟩ (by decide) dX3_takeNext_12
theorem c_X3_takeNext {l : Launch} {g : Gvx} {h : Hpx} {M : Msx} {h' : Hpx} {r : Int32} {a0 : Nat} {x1 : Option Nat} (hm : f_X3_takeNext h a0 x1 = some (h', r)) : Mt_ l g yX3_takeNext cX3_takeNext 2 ((some .boolean)) rm_X3_takeNext [v_R (some a0), v_R x1] h M (some (v_I r)) h' M := mt_of (by decide) (Nat.le_of_ble_eq_true rfl) (fun v _ X hF => q_X3_takeNext_0 X a0 hF h x1 hm)
theorem yv_X3_takeNext : Yv_ yX3_takeNext cX3_takeNext 2 ((some .boolean)) 1 3 := ⟨rfl, by decide, ⟨by decide, by decide, by decide +kernel⟩, co_X3_takeNext, im_X3_takeNext, se_X3_takeNext, ini_X3⟩

abbrev rm_X3_writeOn : Room := { frames := 4, cells := 0, slots := 0, locals := 108 }
def j_X3_writeOn_41 (a0 : Nat) (h : Hpx) (x1 : Option Nat) (y0 : Option Nat) (y1 : Int64) : Option (Hpx) :=
  y0.bind fun a32 =>
  (if h_k h a32 = 3 then
  c_l (f_X2_newClaim h a32 y1) fun h35 r36 =>
  x1.bind fun a37 =>
  (if h_k h35 a37 = 1 then
  r36.bind fun a39 =>
  (if h_k h35 a39 = 1 then
  (h_R h35 a37 0).bind fun a41 =>
  (h_R h35 a39 0).bind fun a42 =>
  (if h_k h35 a41 = 7 then
  (if h_k h35 a42 = 7 then
  (if ¬ (0 : Int32) < 0 ∧ ¬ (0 : Int32) < 0 ∧ ¬ (8 : Int32) < 0 ∧ (0 : Int32).toNatClampNeg + (8 : Int32).toNatClampNeg ≤ h_n h35 a41 ∧ (0 : Int32).toNatClampNeg + (8 : Int32).toNatClampNeg ≤ h_n h35 a42 then
  b_d (c_J h35 a41 a42 (0 : Int32).toNatClampNeg (0 : Int32).toNatClampNeg (8 : Int32).toNatClampNeg) fun h46 =>
  (if h_k h46 a0 = 4 then
  (f_X3_publishSlot h46 a0 r36 (h_I h46 a37 4) (h_I h46 a37 5)).bind fun h49 =>
  some h49 else none) else none) else none) else none) else none) else none) else none)
set_option maxHeartbeats 4000000 in
theorem q_X3_writeOn_41 {v : Evx} {g : Gvx} {M : Msx} {h' : Hpx} (X : Cx_ v g cX3_writeOn 5 RX3 "writeOn" (none) rm_X3_writeOn) (a0 : Nat) (hF : Fi_ v g rm_X3_writeOn (none) h' M) (h : Hpx) (x1 : Option Nat) (y0 : Option Nat) (y1 : Int64) (hm : j_X3_writeOn_41 a0 h x1 y0 y1 = some h') : At_ v g 5 h M 0 0 41 [(0, v_R (some a0)), (1, v_R x1)] [v_J y1, v_R y0] := by
  unfold j_X3_writeOn_41 at hm
  obtain ⟨a32, ea32, hm⟩ := i_b hm
  obtain ⟨k33, hm⟩ := i_c hm
  obtain ⟨h35, r36, q34, hm⟩ := i_l hm
  refine a_callV (k' := 0) (n' := 0) (st := []) X (c_X2_newClaim q34) yv_X2_newClaim ml_X3_267 ea32 (Or.inl k33) ⟨by decide, by decide, by decide, by decide, Nat.le_of_ble_eq_true rfl⟩ rfl rfl dX3_writeOn_41 rfl rfl ?_
  show At_ v g 5 h35 M 0 0 44 [(0, v_R (some a0)), (1, v_R x1)] [v_R r36]
  refine a_astore (lv' := [(0, v_R (some a0)), (1, v_R x1), (4, v_R r36)]) X dX3_writeOn_44 (by decide) rfl ?_
  refine a_aload_n X dX3_writeOn_46 rfl ?_
  obtain ⟨a37, ea37, hm⟩ := i_b hm
  obtain ⟨k38, hm⟩ := i_c hm
  refine a_getR X 0 0 ea37 k38 (by decide) rfl fl_X3_135 dX3_writeOn_47 ?_
  refine a_iconst (x := 0) X dX3_writeOn_50 (by decide) ?_
  refine a_aload X dX3_writeOn_51 rfl ?_
  obtain ⟨a39, ea39, hm⟩ := i_b hm
  obtain ⟨k40, hm⟩ := i_c hm
  refine a_getR X 0 0 ea39 k40 (by decide) rfl fl_X3_135 dX3_writeOn_53 ?_
  refine a_iconst (x := 0) X dX3_writeOn_56 (by decide) ?_
  refine a_bipush (x := 8) X dX3_writeOn_57 (by decide) ?_
  obtain ⟨a41, ea41, hm⟩ := i_b hm
  obtain ⟨a42, ea42, hm⟩ := i_b hm
  obtain ⟨k43, hm⟩ := i_c hm
  obtain ⟨k44, hm⟩ := i_c hm
  obtain ⟨b45, hm⟩ := i_c hm
  obtain ⟨h46, eh46, hm⟩ := i_d hm
  refine a_copyJ X ea41 ea42 k43 k44 b45.1 b45.2.1 b45.2.2.1 b45.2.2.2.1 b45.2.2.2.2 ml_X3_145 ⟨by decide, Nat.le_of_ble_eq_true rfl⟩ dX3_writeOn_59 ?_
  rw [← eh46]
  refine a_aload_n X dX3_writeOn_62 rfl ?_
  refine a_aload X dX3_writeOn_63 rfl ?_
  refine a_aload_n X dX3_writeOn_65 rfl ?_
  refine a_getI X 0 4 ea37 (kk_C eh46 k38) (by decide) rfl fl_X3_200 dX3_writeOn_66 ?_
  refine a_aload_n X dX3_writeOn_69 rfl ?_
  refine a_getI X 0 5 ea37 (kk_C eh46 k38) (by decide) rfl fl_X3_203 dX3_writeOn_70 ?_
  obtain ⟨k47, hm⟩ := i_c hm
  obtain ⟨h49, q48, hm⟩ := i_b hm
  refine a_callV (k' := 0) (n' := 0) (st := []) X (c_X3_publishSlot q48) yv_X3_publishSlot ml_X3_151 rfl (Or.inl k47) ⟨by decide, by decide, by decide, by decide, Nat.le_of_ble_eq_true rfl⟩ rfl rfl dX3_writeOn_73 rfl rfl ?_
  show At_ v g 5 h49 M 0 0 76 [(0, v_R (some a0)), (1, v_R x1), (4, v_R r36)] []
  exact a_vret X hF ⟨Option.some.inj hm, rfl⟩ (by decide) dX3_writeOn_76
def j_X3_writeOn_24 (a0 : Nat) (h : Hpx) (x1 : Option Nat) (x2 : Option Nat) (y0 : Int32) : Option (Hpx) :=
  (if y0 = 0 then
  x1.bind fun a28 =>
  (if h_k h a28 = 1 then
  j_X3_writeOn_41 a0 h x1 x2 (h_J h a28 3) else none)
  else x2.bind fun a30 =>
  (if h_k h a30 = 3 then
  j_X3_writeOn_41 a0 h x1 x2 (h_J h a30 4) else none))
set_option maxHeartbeats 4000000 in
theorem q_X3_writeOn_24 {v : Evx} {g : Gvx} {M : Msx} {h' : Hpx} (X : Cx_ v g cX3_writeOn 5 RX3 "writeOn" (none) rm_X3_writeOn) (a0 : Nat) (hF : Fi_ v g rm_X3_writeOn (none) h' M) (h : Hpx) (x1 : Option Nat) (x2 : Option Nat) (y0 : Int32) (hm : j_X3_writeOn_24 a0 h x1 x2 y0 = some h') : At_ v g 5 h M 0 0 24 [(0, v_R (some a0)), (1, v_R x1), (2, v_R x2)] [v_I y0] := by
  unfold j_X3_writeOn_24 at hm
  refine a_istore_n (lv' := [(0, v_R (some a0)), (1, v_R x1), (2, v_R x2), (3, v_I y0)]) X dX3_writeOn_24 (by decide) rfl ?_
  refine a_aload_n X dX3_writeOn_25 rfl ?_
  refine a_iload_n X dX3_writeOn_26 rfl ?_
  refine a_if_eq (tgt := 37) X dX3_writeOn_27 (by decide) hm (fun c27 hm => ?_) (fun c27 hm => ?_)
  · refine a_aload_n X dX3_writeOn_37 rfl ?_
    obtain ⟨a28, ea28, hm⟩ := i_b hm
    obtain ⟨k29, hm⟩ := i_c hm
    refine a_getJ X 0 3 ea28 k29 (by decide) rfl fl_X3_197 dX3_writeOn_38 ?_
    refine a_pick (lv' := [(0, v_R (some a0)), (1, v_R x1)]) [0, 1] rfl ?_
    exact q_X3_writeOn_41 X a0 hF h x1 x2 (h_J h a28 3) hm
  · refine a_aload_n X dX3_writeOn_30 rfl ?_
    obtain ⟨a30, ea30, hm⟩ := i_b hm
    obtain ⟨k31, hm⟩ := i_c hm
    refine a_getJ X 2 4 ea30 k31 (by decide) rfl fl_X3_183 dX3_writeOn_31 ?_
    refine a_goto (tgt := 41) X dX3_writeOn_34 (by decide) ?_
    refine a_pick (lv' := [(0, v_R (some a0)), (1, v_R x1)]) [0, 1] rfl ?_
    exact q_X3_writeOn_41 X a0 hF h x1 x2 (h_J h a30 4) hm
def j_X3_writeOn_23 (a0 : Nat) (h : Hpx) (x1 : Option Nat) (x2 : Option Nat) : Option (Hpx) :=
  j_X3_writeOn_24 a0 h x1 x2 (0 : Int32)
set_option maxHeartbeats 4000000 in
theorem q_X3_writeOn_23 {v : Evx} {g : Gvx} {M : Msx} {h' : Hpx} (X : Cx_ v g cX3_writeOn 5 RX3 "writeOn" (none) rm_X3_writeOn) (a0 : Nat) (hF : Fi_ v g rm_X3_writeOn (none) h' M) (h : Hpx) (x1 : Option Nat) (x2 : Option Nat) (hm : j_X3_writeOn_23 a0 h x1 x2 = some h') : At_ v g 5 h M 0 0 23 [(0, v_R (some a0)), (1, v_R x1), (2, v_R x2)] [] := by
  unfold j_X3_writeOn_23 at hm
  refine a_iconst (x := 0) X dX3_writeOn_23 (by decide) ?_
  exact q_X3_writeOn_24 X a0 hF h x1 x2 (0 : Int32) hm
def f_X3_writeOn (h : Hpx) (a0 : Nat) (x1 : Option Nat) (x2 : Option Nat) : Option (Hpx) :=
  x2.bind fun a21 =>
  (if h_k h a21 = 3 then
  (if (h_I h a21 3) ≤ 0 then
  j_X3_writeOn_23 a0 h x1 x2
  else x1.bind fun a24 =>
  (if h_k h a24 = 1 then
  (if 0 ≤ (lg_cmp (h_J h a24 3) (h_J h a21 4)) then
  j_X3_writeOn_23 a0 h x1 x2
  else j_X3_writeOn_24 a0 h x1 x2 (1 : Int32)) else none)) else none)
set_option maxHeartbeats 4000000 in
theorem q_X3_writeOn_0 {v : Evx} {g : Gvx} {M : Msx} {h' : Hpx} (X : Cx_ v g cX3_writeOn 5 RX3 "writeOn" (none) rm_X3_writeOn) (a0 : Nat) (hF : Fi_ v g rm_X3_writeOn (none) h' M) (h : Hpx) (x1 : Option Nat) (x2 : Option Nat) (hm : f_X3_writeOn h a0 x1 x2 = some h') : At_ v g 5 h M 0 0 0 [(0, v_R (some a0)), (1, v_R x1), (2, v_R x2)] [] := by
  unfold f_X3_writeOn at hm
  refine a_aload_n X dX3_writeOn_0 rfl ?_
  obtain ⟨a21, ea21, hm⟩ := i_b hm
  obtain ⟨k22, hm⟩ := i_c hm
  refine a_getI X 2 3 ea21 k22 (by decide) rfl fl_X3_162 dX3_writeOn_1 ?_
  refine a_if_le (tgt := 23) X dX3_writeOn_4 (by decide) hm (fun c23 hm => ?_) (fun c23 hm => ?_)
  · exact q_X3_writeOn_23 X a0 hF h x1 x2 hm
  · refine a_aload_n X dX3_writeOn_7 rfl ?_
    obtain ⟨a24, ea24, hm⟩ := i_b hm
    obtain ⟨k25, hm⟩ := i_c hm
    refine a_getJ X 0 3 ea24 k25 (by decide) rfl fl_X3_197 dX3_writeOn_8 ?_
    refine a_aload_n X dX3_writeOn_11 rfl ?_
    refine a_getJ X 2 4 ea21 k22 (by decide) rfl fl_X3_183 dX3_writeOn_12 ?_
    refine a_lcmp X dX3_writeOn_15 ?_
    refine a_if_ge (tgt := 23) X dX3_writeOn_16 (by decide) hm (fun c26 hm => ?_) (fun c26 hm => ?_)
    · exact q_X3_writeOn_23 X a0 hF h x1 x2 hm
    · refine a_iconst (x := 1) X dX3_writeOn_19 (by decide) ?_
      refine a_goto (tgt := 24) X dX3_writeOn_20 (by decide) ?_
      exact q_X3_writeOn_24 X a0 hF h x1 x2 (1 : Int32) hm
theorem c_X3_writeOn {l : Launch} {g : Gvx} {h : Hpx} {M : Msx} {h' : Hpx} {a0 : Nat} {x1 : Option Nat} {x2 : Option Nat} (hm : f_X3_writeOn h a0 x1 x2 = some h') : Mt_ l g yX3_writeOn cX3_writeOn 5 (none) rm_X3_writeOn [v_R (some a0), v_R x1, v_R x2] h M (none) h' M := mt_of (by decide) (Nat.le_of_ble_eq_true rfl) (fun v _ X hF => q_X3_writeOn_0 X a0 hF h x1 x2 hm)
theorem yv_X3_writeOn : Yv_ yX3_writeOn cX3_writeOn 5 (none) 2 3 := ⟨rfl, by decide, ⟨by decide, by decide, by decide +kernel⟩, co_X3_writeOn, im_X3_writeOn, se_X3_writeOn, ini_X3⟩

abbrev rm_X3_readOnce : Room := { frames := 5, cells := 0, slots := 0, locals := 132 }
def j_X3_readOnce_12 (a0 : Nat) (h : Hpx) (x1 : Option Nat) : Option (Hpx × Int32) :=
  (if h_k h a0 = 4 then
  (f_X3_reasonOf h a0 x1).bind fun r28 =>
  (if r28 = (1 : Int32) then
  c_l (f_X3_finding h a0 (1 : Int32)) fun h42 r43 =>
  some (h42, r43)
  else (if r28 = 0 then
  c_l (f_X3_takeNext h a0 x1) fun h32 r33 =>
  (if r33 = 0 then
  some (h32, (0 : Int32))
  else x1.bind fun a35 =>
  (if h_k h32 a35 = 2 then
  (if (h_R h32 a35 2) = none then
  some (h32, (1 : Int32))
  else (if h_k h32 a0 = 4 then
  (f_X3_writeOn h32 a0 (h_R h32 a35 3) (h_R h32 a35 2)).bind fun h40 =>
  some (h40, (1 : Int32)) else none)) else none))
  else some (h, (0 : Int32)))) else none)
set_option maxHeartbeats 4000000 in
theorem q_X3_readOnce_12 {v : Evx} {g : Gvx} {M : Msx} {h' : Hpx} {r : Int32} (X : Cx_ v g cX3_readOnce 3 RX3 "readOnce" ((some .int)) rm_X3_readOnce) (a0 : Nat) (hF : Fi_ v g rm_X3_readOnce (some (v_I r)) h' M) (h : Hpx) (x1 : Option Nat) (hm : j_X3_readOnce_12 a0 h x1 = some (h', r)) : At_ v g 3 h M 0 0 12 [(0, v_R (some a0)), (1, v_R x1)] [] := by
  unfold j_X3_readOnce_12 at hm
  refine a_aload_n X dX3_readOnce_12 rfl ?_
  refine a_aload_n X dX3_readOnce_13 rfl ?_
  obtain ⟨k26, hm⟩ := i_c hm
  obtain ⟨r28, q27, hm⟩ := i_b hm
  refine a_callV (k' := 0) (n' := 0) (st := []) X (c_X3_reasonOf q27) yv_X3_reasonOf ml_X3_231 rfl (Or.inl k26) ⟨by decide, by decide, by decide, by decide, Nat.le_of_ble_eq_true rfl⟩ rfl rfl dX3_readOnce_14 rfl rfl ?_
  show At_ v g 3 h M 0 0 17 [(0, v_R (some a0)), (1, v_R x1)] [v_I r28]
  refine a_istore_n (lv' := [(0, v_R (some a0)), (1, v_R x1), (2, v_I r28)]) X dX3_readOnce_17 (by decide) rfl ?_
  refine a_iload_n X dX3_readOnce_18 rfl ?_
  refine a_iconst (x := 1) X dX3_readOnce_19 (by decide) ?_
  refine a_icmp_ne (tgt := 29) X dX3_readOnce_20 (by decide) hm (fun c29 hm => ?_) (fun c29 hm => ?_)
  · refine a_iload_n X dX3_readOnce_29 rfl ?_
    refine a_if_ne (tgt := 41) X dX3_readOnce_30 (by decide) hm (fun c30 hm => ?_) (fun c30 hm => ?_)
    · refine a_iconst (x := 0) X dX3_readOnce_41 (by decide) ?_
      exact a_iret X hF ⟨(Prod.mk.inj (Option.some.inj hm)).1, rfl, (Prod.mk.inj (Option.some.inj hm)).2⟩ (by decide) dX3_readOnce_42
    · refine a_aload_n X dX3_readOnce_33 rfl ?_
      refine a_aload_n X dX3_readOnce_34 rfl ?_
      obtain ⟨h32, r33, q31, hm⟩ := i_l hm
      refine a_callV (k' := 0) (n' := 0) (st := []) X (c_X3_takeNext q31) yv_X3_takeNext ml_X3_289 rfl (Or.inl k26) ⟨by decide, by decide, by decide, by decide, Nat.le_of_ble_eq_true rfl⟩ rfl rfl dX3_readOnce_35 rfl rfl ?_
      show At_ v g 3 h32 M 0 0 38 [(0, v_R (some a0)), (1, v_R x1), (2, v_I r28)] [v_I r33]
      refine a_if_ne (tgt := 43) X dX3_readOnce_38 (by decide) hm (fun c34 hm => ?_) (fun c34 hm => ?_)
      · refine a_aload_n X dX3_readOnce_43 rfl ?_
        obtain ⟨a35, ea35, hm⟩ := i_b hm
        obtain ⟨k36, hm⟩ := i_c hm
        refine a_getR X 1 2 ea35 k36 (by decide) rfl fl_X3_228 dX3_readOnce_44 ?_
        refine a_ifnull (tgt := 62) X dX3_readOnce_47 (by decide) hm (fun c37 hm => ?_) (fun c37 hm => ?_)
        · refine a_iconst (x := 1) X dX3_readOnce_62 (by decide) ?_
          exact a_iret X hF ⟨(Prod.mk.inj (Option.some.inj hm)).1, rfl, (Prod.mk.inj (Option.some.inj hm)).2⟩ (by decide) dX3_readOnce_63
        · refine a_aload_n X dX3_readOnce_50 rfl ?_
          refine a_aload_n X dX3_readOnce_51 rfl ?_
          refine a_getR X 1 3 ea35 k36 (by decide) rfl fl_X3_141 dX3_readOnce_52 ?_
          refine a_aload_n X dX3_readOnce_55 rfl ?_
          refine a_getR X 1 2 ea35 k36 (by decide) rfl fl_X3_228 dX3_readOnce_56 ?_
          obtain ⟨k38, hm⟩ := i_c hm
          obtain ⟨h40, q39, hm⟩ := i_b hm
          refine a_callV (k' := 0) (n' := 0) (st := []) X (c_X3_writeOn q39) yv_X3_writeOn ml_X3_293 rfl (Or.inl k38) ⟨by decide, by decide, by decide, by decide, Nat.le_of_ble_eq_true rfl⟩ rfl rfl dX3_readOnce_59 rfl rfl ?_
          show At_ v g 3 h40 M 0 0 62 [(0, v_R (some a0)), (1, v_R x1), (2, v_I r28)] []
          refine a_iconst (x := 1) X dX3_readOnce_62 (by decide) ?_
          exact a_iret X hF ⟨(Prod.mk.inj (Option.some.inj hm)).1, rfl, (Prod.mk.inj (Option.some.inj hm)).2⟩ (by decide) dX3_readOnce_63
      · refine a_iconst (x := 0) X dX3_readOnce_41 (by decide) ?_
        exact a_iret X hF ⟨(Prod.mk.inj (Option.some.inj hm)).1, rfl, (Prod.mk.inj (Option.some.inj hm)).2⟩ (by decide) dX3_readOnce_42
  · refine a_aload_n X dX3_readOnce_23 rfl ?_
    refine a_iconst (x := 1) X dX3_readOnce_24 (by decide) ?_
    obtain ⟨h42, r43, q41, hm⟩ := i_l hm
    refine a_callV (k' := 0) (n' := 0) (st := []) X (c_X3_finding q41) yv_X3_finding ml_X3_32 rfl (Or.inl k26) ⟨by decide, by decide, by decide, by decide, Nat.le_of_ble_eq_true rfl⟩ rfl rfl dX3_readOnce_25 rfl rfl ?_
    show At_ v g 3 h42 M 0 0 28 [(0, v_R (some a0)), (1, v_R x1), (2, v_I r28)] [v_I r43]
    exact a_iret X hF ⟨(Prod.mk.inj (Option.some.inj hm)).1, rfl, (Prod.mk.inj (Option.some.inj hm)).2⟩ (by decide) dX3_readOnce_28
def f_X3_readOnce (h : Hpx) (a0 : Nat) (x1 : Option Nat) : Option (Hpx × Int32) :=
  x1.bind fun a21 =>
  (if h_k h a21 = 2 then
  (if (h_I h a21 0) = (3 : Int32) then
  (f_X1_skipMissed h a21).bind fun h25 =>
  j_X3_readOnce_12 a0 h25 x1
  else j_X3_readOnce_12 a0 h x1) else none)
set_option maxHeartbeats 4000000 in
theorem q_X3_readOnce_0 {v : Evx} {g : Gvx} {M : Msx} {h' : Hpx} {r : Int32} (X : Cx_ v g cX3_readOnce 3 RX3 "readOnce" ((some .int)) rm_X3_readOnce) (a0 : Nat) (hF : Fi_ v g rm_X3_readOnce (some (v_I r)) h' M) (h : Hpx) (x1 : Option Nat) (hm : f_X3_readOnce h a0 x1 = some (h', r)) : At_ v g 3 h M 0 0 0 [(0, v_R (some a0)), (1, v_R x1)] [] := by
  unfold f_X3_readOnce at hm
  refine a_aload_n X dX3_readOnce_0 rfl ?_
  obtain ⟨a21, ea21, hm⟩ := i_b hm
  obtain ⟨k22, hm⟩ := i_c hm
  refine a_getI X 1 0 ea21 k22 (by decide) rfl fl_X3_77 dX3_readOnce_1 ?_
  refine a_iconst (x := 3) X dX3_readOnce_4 (by decide) ?_
  refine a_icmp_ne (tgt := 12) X dX3_readOnce_5 (by decide) hm (fun c23 hm => ?_) (fun c23 hm => ?_)
  · exact q_X3_readOnce_12 X a0 hF h x1 hm
  · refine a_aload_n X dX3_readOnce_8 rfl ?_
    obtain ⟨h25, q24, hm⟩ := i_b hm
    refine a_callV (k' := 0) (n' := 0) (st := []) X (c_X1_skipMissed q24) yv_X1_skipMissed ml_X3_286 ea21 (Or.inl k22) ⟨by decide, by decide, by decide, by decide, Nat.le_of_ble_eq_true rfl⟩ rfl rfl dX3_readOnce_9 rfl rfl ?_
    show At_ v g 3 h25 M 0 0 12 [(0, v_R (some a0)), (1, v_R x1)] []
    exact q_X3_readOnce_12 X a0 hF h25 x1 hm
theorem c_X3_readOnce {l : Launch} {g : Gvx} {h : Hpx} {M : Msx} {h' : Hpx} {r : Int32} {a0 : Nat} {x1 : Option Nat} (hm : f_X3_readOnce h a0 x1 = some (h', r)) : Mt_ l g yX3_readOnce cX3_readOnce 3 ((some .int)) rm_X3_readOnce [v_R (some a0), v_R x1] h M (some (v_I r)) h' M := mt_of (by decide) (Nat.le_of_ble_eq_true rfl) (fun v _ X hF => q_X3_readOnce_0 X a0 hF h x1 hm)
theorem yv_X3_readOnce : Yv_ yX3_readOnce cX3_readOnce 3 ((some .int)) 1 3 := ⟨rfl, by decide, ⟨by decide, by decide, by decide +kernel⟩, co_X3_readOnce, im_X3_readOnce, se_X3_readOnce, ini_X3⟩

abbrev rm_X3_read : Room := { frames := 6, cells := 0, slots := 0, locals := 154 }
def f_X3_read (h : Hpx) (a0 : Nat) (x1 : Int32) : Option (Hpx × Int32) :=
  (if h_k h a0 = 4 then
  (if (h_I h a0 11) = 0 then
  some (h, (-2 : Int32))
  else (f_X3_readerAt h a0 x1).bind fun r24 =>
  (if r24 = none then
  c_l (f_X3_finding h a0 (2 : Int32)) fun h30 r31 =>
  some (h30, r31)
  else c_l (f_X3_readOnce h a0 r24) fun h27 r28 =>
  some (h27, r28))) else none)
set_option maxHeartbeats 4000000 in
theorem q_X3_read_0 {v : Evx} {g : Gvx} {M : Msx} {h' : Hpx} {r : Int32} (X : Cx_ v g cX3_read 3 RX3 "read" ((some .int)) rm_X3_read) (a0 : Nat) (hF : Fi_ v g rm_X3_read (some (v_I r)) h' M) (h : Hpx) (x1 : Int32) (hm : f_X3_read h a0 x1 = some (h', r)) : At_ v g 3 h M 0 0 0 [(0, v_R (some a0)), (1, v_I x1)] [] := by
  unfold f_X3_read at hm
  refine a_aload_n X dX3_read_0 rfl ?_
  obtain ⟨k21, hm⟩ := i_c hm
  refine a_getI X 3 11 rfl k21 (by decide) rfl fl_X3_41 dX3_read_1 ?_
  refine a_if_ne (tgt := 10) X dX3_read_4 (by decide) hm (fun c22 hm => ?_) (fun c22 hm => ?_)
  · refine a_aload_n X dX3_read_10 rfl ?_
    refine a_iload_n X dX3_read_11 rfl ?_
    obtain ⟨r24, q23, hm⟩ := i_b hm
    refine a_callV (k' := 0) (n' := 0) (st := []) X (c_X3_readerAt q23) yv_X3_readerAt ml_X3_73 rfl (Or.inl k21) ⟨by decide, by decide, by decide, by decide, Nat.le_of_ble_eq_true rfl⟩ rfl rfl dX3_read_12 rfl rfl ?_
    show At_ v g 3 h M 0 0 15 [(0, v_R (some a0)), (1, v_I x1)] [v_R r24]
    refine a_astore_n (lv' := [(0, v_R (some a0)), (1, v_I x1), (2, v_R r24)]) X dX3_read_15 (by decide) rfl ?_
    refine a_aload_n X dX3_read_16 rfl ?_
    refine a_ifnonnull (tgt := 28) X dX3_read_17 (by decide) hm (fun c25 hm => ?_) (fun c25 hm => ?_)
    · refine a_aload_n X dX3_read_28 rfl ?_
      refine a_aload_n X dX3_read_29 rfl ?_
      obtain ⟨h27, r28, q26, hm⟩ := i_l hm
      refine a_callV (k' := 0) (n' := 0) (st := []) X (c_X3_readOnce q26) yv_X3_readOnce ml_X3_187 rfl (Or.inl k21) ⟨by decide, by decide, by decide, by decide, Nat.le_of_ble_eq_true rfl⟩ rfl rfl dX3_read_30 rfl rfl ?_
      show At_ v g 3 h27 M 0 0 33 [(0, v_R (some a0)), (1, v_I x1), (2, v_R r24)] [v_I r28]
      exact a_iret X hF ⟨(Prod.mk.inj (Option.some.inj hm)).1, rfl, (Prod.mk.inj (Option.some.inj hm)).2⟩ (by decide) dX3_read_33
    · refine a_aload_n X dX3_read_20 rfl ?_
      refine a_iconst (x := 2) X dX3_read_21 (by decide) ?_
      obtain ⟨h30, r31, q29, hm⟩ := i_l hm
      refine a_callV (k' := 0) (n' := 0) (st := []) X (c_X3_finding q29) yv_X3_finding ml_X3_32 rfl (Or.inl k21) ⟨by decide, by decide, by decide, by decide, Nat.le_of_ble_eq_true rfl⟩ rfl rfl dX3_read_22 rfl rfl ?_
      show At_ v g 3 h30 M 0 0 25 [(0, v_R (some a0)), (1, v_I x1), (2, v_R r24)] [v_I r31]
      refine a_goto (tgt := 33) X dX3_read_25 (by decide) ?_
      exact a_iret X hF ⟨(Prod.mk.inj (Option.some.inj hm)).1, rfl, (Prod.mk.inj (Option.some.inj hm)).2⟩ (by decide) dX3_read_33
  · refine a_bipush (x := -2) X dX3_read_7 (by decide) ?_
    exact a_iret X hF ⟨(Prod.mk.inj (Option.some.inj hm)).1, rfl, (Prod.mk.inj (Option.some.inj hm)).2⟩ (by decide) dX3_read_9
theorem c_X3_read {l : Launch} {g : Gvx} {h : Hpx} {M : Msx} {h' : Hpx} {r : Int32} {a0 : Nat} {x1 : Int32} (hm : f_X3_read h a0 x1 = some (h', r)) : Mt_ l g yX3_read cX3_read 3 ((some .int)) rm_X3_read [v_R (some a0), v_I x1] h M (some (v_I r)) h' M := mt_of (by decide) (Nat.le_of_ble_eq_true rfl) (fun v _ X hF => q_X3_read_0 X a0 hF h x1 hm)
theorem yv_X3_read : Yv_ yX3_read cX3_read 3 ((some .int)) 1 3 := ⟨rfl, by decide, ⟨by decide, by decide, by decide +kernel⟩, co_X3_read, im_X3_read, se_X3_read, ini_X3⟩

abbrev rm_X3_round : Room := { frames := 6, cells := 0, slots := 0, locals := 154 }
def j_X3_round_14 (a0 : Nat) (rec_14 : Hpx → Int32 → Int32 → Option (Hpx × Int32)) (h : Hpx) (x1 : Int32) (x2 : Int32) : Option (Hpx × Int32) :=
  (if (16 : Int32) ≤ x2 then
  some (h, x1)
  else (if h_k h a0 = 4 then
  (f_X3_readerAt h a0 x2).bind fun r26 =>
  (if r26 = none then
  rec_14 h x1 (x2 + (1 : Int32))
  else c_l (f_X3_readOnce h a0 r26) fun h29 r30 =>
  (if r30 = (1 : Int32) then
  rec_14 h29 (x1 + (1 : Int32)) (x2 + (1 : Int32))
  else rec_14 h29 x1 (x2 + (1 : Int32)))) else none))
set_option maxHeartbeats 4000000 in
theorem q_X3_round_14 {v : Evx} {g : Gvx} {M : Msx} {h' : Hpx} {r : Int32} (X : Cx_ v g cX3_round 4 RX3 "round" ((some .int)) rm_X3_round) (a0 : Nat) (hF : Fi_ v g rm_X3_round (some (v_I r)) h' M) (rec_14 : Hpx → Int32 → Int32 → Option (Hpx × Int32)) (hr_14 : ∀ (h : Hpx) (x1 : Int32) (x2 : Int32), rec_14 h x1 x2 = some (h', r) → At_ v g 4 h M 0 0 14 [(0, v_R (some a0)), (1, v_I x1), (2, v_I x2)] []) (h : Hpx) (x1 : Int32) (x2 : Int32) (hm : j_X3_round_14 a0 rec_14 h x1 x2 = some (h', r)) : At_ v g 4 h M 0 0 14 [(0, v_R (some a0)), (1, v_I x1), (2, v_I x2)] [] := by
  unfold j_X3_round_14 at hm
  refine a_iload_n X dX3_round_14 rfl ?_
  refine a_bipush (x := 16) X dX3_round_15 (by decide) ?_
  refine a_icmp_ge (tgt := 48) X dX3_round_17 (by decide) hm (fun c23 hm => ?_) (fun c23 hm => ?_)
  · refine a_iload_n X dX3_round_48 rfl ?_
    exact a_iret X hF ⟨(Prod.mk.inj (Option.some.inj hm)).1, rfl, (Prod.mk.inj (Option.some.inj hm)).2⟩ (by decide) dX3_round_49
  · refine a_aload_n X dX3_round_20 rfl ?_
    refine a_iload_n X dX3_round_21 rfl ?_
    obtain ⟨k24, hm⟩ := i_c hm
    obtain ⟨r26, q25, hm⟩ := i_b hm
    refine a_callV (k' := 0) (n' := 0) (st := []) X (c_X3_readerAt q25) yv_X3_readerAt ml_X3_73 rfl (Or.inl k24) ⟨by decide, by decide, by decide, by decide, Nat.le_of_ble_eq_true rfl⟩ rfl rfl dX3_round_22 rfl rfl ?_
    show At_ v g 4 h M 0 0 25 [(0, v_R (some a0)), (1, v_I x1), (2, v_I x2)] [v_R r26]
    refine a_astore_n (lv' := [(0, v_R (some a0)), (1, v_I x1), (2, v_I x2), (3, v_R r26)]) X dX3_round_25 (by decide) rfl ?_
    refine a_aload_n X dX3_round_26 rfl ?_
    refine a_ifnull (tgt := 42) X dX3_round_27 (by decide) hm (fun c27 hm => ?_) (fun c27 hm => ?_)
    · refine a_iinc (y := x2 + (1 : Int32)) (lv' := [(0, v_R (some a0)), (1, v_I x1), (2, v_I (x2 + (1 : Int32))), (3, v_R r26)]) X dX3_round_42 rfl rfl (by decide) rfl ?_
      refine a_goto (tgt := 14) X dX3_round_45 (by decide) ?_
      refine a_pick (lv' := [(0, v_R (some a0)), (1, v_I x1), (2, v_I (x2 + (1 : Int32)))]) [0, 1, 2] rfl ?_
      exact hr_14 h x1 (x2 + (1 : Int32)) hm
    · refine a_aload_n X dX3_round_30 rfl ?_
      refine a_aload_n X dX3_round_31 rfl ?_
      obtain ⟨h29, r30, q28, hm⟩ := i_l hm
      refine a_callV (k' := 0) (n' := 0) (st := []) X (c_X3_readOnce q28) yv_X3_readOnce ml_X3_187 rfl (Or.inl k24) ⟨by decide, by decide, by decide, by decide, Nat.le_of_ble_eq_true rfl⟩ rfl rfl dX3_round_32 rfl rfl ?_
      show At_ v g 4 h29 M 0 0 35 [(0, v_R (some a0)), (1, v_I x1), (2, v_I x2), (3, v_R r26)] [v_I r30]
      refine a_iconst (x := 1) X dX3_round_35 (by decide) ?_
      refine a_icmp_ne (tgt := 42) X dX3_round_36 (by decide) hm (fun c31 hm => ?_) (fun c31 hm => ?_)
      · refine a_iinc (y := x2 + (1 : Int32)) (lv' := [(0, v_R (some a0)), (1, v_I x1), (2, v_I (x2 + (1 : Int32))), (3, v_R r26)]) X dX3_round_42 rfl rfl (by decide) rfl ?_
        refine a_goto (tgt := 14) X dX3_round_45 (by decide) ?_
        refine a_pick (lv' := [(0, v_R (some a0)), (1, v_I x1), (2, v_I (x2 + (1 : Int32)))]) [0, 1, 2] rfl ?_
        exact hr_14 h29 x1 (x2 + (1 : Int32)) hm
      · refine a_iinc (y := x1 + (1 : Int32)) (lv' := [(0, v_R (some a0)), (1, v_I (x1 + (1 : Int32))), (2, v_I x2), (3, v_R r26)]) X dX3_round_39 rfl rfl (by decide) rfl ?_
        refine a_iinc (y := x2 + (1 : Int32)) (lv' := [(0, v_R (some a0)), (1, v_I (x1 + (1 : Int32))), (2, v_I (x2 + (1 : Int32))), (3, v_R r26)]) X dX3_round_42 rfl rfl (by decide) rfl ?_
        refine a_goto (tgt := 14) X dX3_round_45 (by decide) ?_
        refine a_pick (lv' := [(0, v_R (some a0)), (1, v_I (x1 + (1 : Int32))), (2, v_I (x2 + (1 : Int32)))]) [0, 1, 2] rfl ?_
        exact hr_14 h29 (x1 + (1 : Int32)) (x2 + (1 : Int32)) hm
def l_X3_round_14 (a0 : Nat) (n : Nat) : Hpx → Int32 → Int32 → Option (Hpx × Int32) := lp_ (fun rec_14 => j_X3_round_14 a0 rec_14) (fun _ _ _ => none) n
theorem ql_X3_round_14 {v : Evx} {g : Gvx} {M : Msx} {h' : Hpx} {r : Int32} (X : Cx_ v g cX3_round 4 RX3 "round" ((some .int)) rm_X3_round) (a0 : Nat) (hF : Fi_ v g rm_X3_round (some (v_I r)) h' M) : ∀ (n : Nat) (h : Hpx) (x1 : Int32) (x2 : Int32), l_X3_round_14 a0 n h x1 x2 = some (h', r) → At_ v g 4 h M 0 0 14 [(0, v_R (some a0)), (1, v_I x1), (2, v_I x2)] [] := by
  intro n
  induction n with
  | zero => intro h x1 x2 hm; cases hm
  | succ n ih =>
    intro h x1 x2 hm
    exact q_X3_round_14 X a0 hF (l_X3_round_14 a0 n) ih h x1 x2 hm
def f_X3_round (h : Hpx) (a0 : Nat) : Option (Hpx × Int32) :=
  (if h_k h a0 = 4 then
  (if (h_I h a0 11) = 0 then
  some (h, (-2 : Int32))
  else l_X3_round_14 a0 70 h (0 : Int32) (0 : Int32)) else none)
set_option maxHeartbeats 4000000 in
theorem q_X3_round_0 {v : Evx} {g : Gvx} {M : Msx} {h' : Hpx} {r : Int32} (X : Cx_ v g cX3_round 4 RX3 "round" ((some .int)) rm_X3_round) (a0 : Nat) (hF : Fi_ v g rm_X3_round (some (v_I r)) h' M) (h : Hpx) (hm : f_X3_round h a0 = some (h', r)) : At_ v g 4 h M 0 0 0 [(0, v_R (some a0))] [] := by
  unfold f_X3_round at hm
  refine a_aload_n X dX3_round_0 rfl ?_
  obtain ⟨k21, hm⟩ := i_c hm
  refine a_getI X 3 11 rfl k21 (by decide) rfl fl_X3_41 dX3_round_1 ?_
  refine a_if_ne (tgt := 10) X dX3_round_4 (by decide) hm (fun c22 hm => ?_) (fun c22 hm => ?_)
  · refine a_iconst (x := 0) X dX3_round_10 (by decide) ?_
    refine a_istore_n (lv' := [(0, v_R (some a0)), (1, v_I (0 : Int32))]) X dX3_round_11 (by decide) rfl ?_
    refine a_iconst (x := 0) X dX3_round_12 (by decide) ?_
    refine a_istore_n (lv' := [(0, v_R (some a0)), (1, v_I (0 : Int32)), (2, v_I (0 : Int32))]) X dX3_round_13 (by decide) rfl ?_
    exact ql_X3_round_14 X a0 hF 70 h (0 : Int32) (0 : Int32) hm
  · refine a_bipush (x := -2) X dX3_round_7 (by decide) ?_
    exact a_iret X hF ⟨(Prod.mk.inj (Option.some.inj hm)).1, rfl, (Prod.mk.inj (Option.some.inj hm)).2⟩ (by decide) dX3_round_9
theorem c_X3_round {l : Launch} {g : Gvx} {h : Hpx} {M : Msx} {h' : Hpx} {r : Int32} {a0 : Nat} (hm : f_X3_round h a0 = some (h', r)) : Mt_ l g yX3_round cX3_round 4 ((some .int)) rm_X3_round [v_R (some a0)] h M (some (v_I r)) h' M := mt_of (by decide) (Nat.le_of_ble_eq_true rfl) (fun v _ X hF => q_X3_round_0 X a0 hF h hm)
theorem yv_X3_round : Yv_ yX3_round cX3_round 4 ((some .int)) 0 3 := ⟨rfl, by decide, ⟨by decide, by decide, by decide +kernel⟩, co_X3_round, im_X3_round, se_X3_round, ini_X3⟩

abbrev rm_X3_got : Room := { frames := 1, cells := 0, slots := 0, locals := 21 }
def f_X3_got (h : Hpx) (a0 : Nat) (x1 : Int32) (x2 : Int32) : Option (Int64) :=
  (if h_k h a0 = 4 then
  (f_X3_readerAt h a0 x1).bind fun r23 =>
  (if r23 = none then
  some (-1 : Int64)
  else r23.bind fun a25 =>
  (if h_k h a25 = 2 then
  (h_R h a25 3).bind fun a27 =>
  (if h_k h a27 = 1 then
  (if 0 ≤ (h_I h a27 2) then
  (if x2 = 0 then
  some ((h_I h a27 1).toInt64)
  else (if x2 = 1 then
  some ((h_I h a27 2).toInt64)
  else (if x2 = 2 then
  some (h_J h a27 3)
  else (if x2 = 3 then
  some ((h_I h a27 4).toInt64)
  else (if x2 = 4 then
  some ((h_I h a27 5).toInt64)
  else some (-1 : Int64))))))
  else some (-1 : Int64)) else none) else none)) else none)
set_option maxHeartbeats 4000000 in
theorem q_X3_got_0 {v : Evx} {g : Gvx} {M : Msx} {r : Int64} (X : Cx_ v g cX3_got 4 RX3 "got" ((some .long)) rm_X3_got) (h : Hpx) (a0 : Nat) (hF : Fi_ v g rm_X3_got (some (v_J r)) h M) (x1 : Int32) (x2 : Int32) (hm : f_X3_got h a0 x1 x2 = some r) : At_ v g 4 h M 0 0 0 [(0, v_R (some a0)), (1, v_I x1), (2, v_I x2)] [] := by
  unfold f_X3_got at hm
  refine a_aload_n X dX3_got_0 rfl ?_
  refine a_iload_n X dX3_got_1 rfl ?_
  obtain ⟨k21, hm⟩ := i_c hm
  obtain ⟨r23, q22, hm⟩ := i_b hm
  refine a_callV (k' := 0) (n' := 0) (st := []) X (c_X3_readerAt q22) yv_X3_readerAt ml_X3_73 rfl (Or.inl k21) ⟨by decide, by decide, by decide, by decide, Nat.le_of_ble_eq_true rfl⟩ rfl rfl dX3_got_2 rfl rfl ?_
  show At_ v g 4 h M 0 0 5 [(0, v_R (some a0)), (1, v_I x1), (2, v_I x2)] [v_R r23]
  refine a_astore_n (lv' := [(0, v_R (some a0)), (1, v_I x1), (2, v_I x2), (3, v_R r23)]) X dX3_got_5 (by decide) rfl ?_
  refine a_aload_n X dX3_got_6 rfl ?_
  refine a_ifnull (tgt := 20) X dX3_got_7 (by decide) hm (fun c24 hm => ?_) (fun c24 hm => ?_)
  · refine a_ldc2 X cn_X3_192 dX3_got_20 ?_
    exact a_lret X hF ⟨rfl, rfl, Option.some.inj hm⟩ (by decide) dX3_got_23
  · refine a_aload_n X dX3_got_10 rfl ?_
    obtain ⟨a25, ea25, hm⟩ := i_b hm
    obtain ⟨k26, hm⟩ := i_c hm
    refine a_getR X 1 3 ea25 k26 (by decide) rfl fl_X3_141 dX3_got_11 ?_
    obtain ⟨a27, ea27, hm⟩ := i_b hm
    obtain ⟨k28, hm⟩ := i_c hm
    refine a_getI X 0 2 ea27 k28 (by decide) rfl fl_X3_191 dX3_got_14 ?_
    refine a_if_ge (tgt := 24) X dX3_got_17 (by decide) hm (fun c29 hm => ?_) (fun c29 hm => ?_)
    · refine a_iload_n X dX3_got_24 rfl ?_
      by_cases c30 : x2 = 0
      · have hm := i_p hm c30
        refine a_tsIn (c := 0) (off := 35) (tgt := 60) X dX3_got_25 c30 (by decide) (by decide) rfl (by decide) ?_
        refine a_aload_n X dX3_got_60 rfl ?_
        refine a_getR X 1 3 ea25 k26 (by decide) rfl fl_X3_141 dX3_got_61 ?_
        refine a_getI X 0 1 ea27 k28 (by decide) rfl fl_X3_194 dX3_got_64 ?_
        refine a_i2l X dX3_got_67 ?_
        exact a_lret X hF ⟨rfl, rfl, Option.some.inj hm⟩ (by decide) dX3_got_68
      · have hm := i_n hm c30
        by_cases c31 : x2 = 1
        · have hm := i_p hm c31
          refine a_tsIn (c := 1) (off := 44) (tgt := 69) X dX3_got_25 c31 (by decide) (by decide) rfl (by decide) ?_
          refine a_aload_n X dX3_got_69 rfl ?_
          refine a_getR X 1 3 ea25 k26 (by decide) rfl fl_X3_141 dX3_got_70 ?_
          refine a_getI X 0 2 ea27 k28 (by decide) rfl fl_X3_191 dX3_got_73 ?_
          refine a_i2l X dX3_got_76 ?_
          exact a_lret X hF ⟨rfl, rfl, Option.some.inj hm⟩ (by decide) dX3_got_77
        · have hm := i_n hm c31
          by_cases c32 : x2 = 2
          · have hm := i_p hm c32
            refine a_tsIn (c := 2) (off := 53) (tgt := 78) X dX3_got_25 c32 (by decide) (by decide) rfl (by decide) ?_
            refine a_aload_n X dX3_got_78 rfl ?_
            refine a_getR X 1 3 ea25 k26 (by decide) rfl fl_X3_141 dX3_got_79 ?_
            refine a_getJ X 0 3 ea27 k28 (by decide) rfl fl_X3_197 dX3_got_82 ?_
            exact a_lret X hF ⟨rfl, rfl, Option.some.inj hm⟩ (by decide) dX3_got_85
          · have hm := i_n hm c32
            by_cases c33 : x2 = 3
            · have hm := i_p hm c33
              refine a_tsIn (c := 3) (off := 61) (tgt := 86) X dX3_got_25 c33 (by decide) (by decide) rfl (by decide) ?_
              refine a_aload_n X dX3_got_86 rfl ?_
              refine a_getR X 1 3 ea25 k26 (by decide) rfl fl_X3_141 dX3_got_87 ?_
              refine a_getI X 0 4 ea27 k28 (by decide) rfl fl_X3_200 dX3_got_90 ?_
              refine a_i2l X dX3_got_93 ?_
              exact a_lret X hF ⟨rfl, rfl, Option.some.inj hm⟩ (by decide) dX3_got_94
            · have hm := i_n hm c33
              by_cases c34 : x2 = 4
              · have hm := i_p hm c34
                refine a_tsIn (c := 4) (off := 70) (tgt := 95) X dX3_got_25 c34 (by decide) (by decide) rfl (by decide) ?_
                refine a_aload_n X dX3_got_95 rfl ?_
                refine a_getR X 1 3 ea25 k26 (by decide) rfl fl_X3_141 dX3_got_96 ?_
                refine a_getI X 0 5 ea27 k28 (by decide) rfl fl_X3_203 dX3_got_99 ?_
                refine a_i2l X dX3_got_102 ?_
                exact a_lret X hF ⟨rfl, rfl, Option.some.inj hm⟩ (by decide) dX3_got_103
              · have hm := i_n hm c34
                have wc30 : ¬ (x2).toInt = 0 := lv_neT c30 rfl
                have wc31 : ¬ (x2).toInt = 1 := lv_neT c31 rfl
                have wc32 : ¬ (x2).toInt = 2 := lv_neT c32 rfl
                have wc33 : ¬ (x2).toInt = 3 := lv_neT c33 rfl
                have wc34 : ¬ (x2).toInt = 4 := lv_neT c34 rfl
                refine a_tsOut (tgt := 104) X dX3_got_25 (by omega) (by decide) ?_
                refine a_ldc2 X cn_X3_192 dX3_got_104 ?_
                exact a_lret X hF ⟨rfl, rfl, Option.some.inj hm⟩ (by decide) dX3_got_107
    · refine a_ldc2 X cn_X3_192 dX3_got_20 ?_
      exact a_lret X hF ⟨rfl, rfl, Option.some.inj hm⟩ (by decide) dX3_got_23
theorem c_X3_got {l : Launch} {g : Gvx} {h : Hpx} {M : Msx} {r : Int64} {a0 : Nat} {x1 : Int32} {x2 : Int32} (hm : f_X3_got h a0 x1 x2 = some r) : Mt_ l g yX3_got cX3_got 4 ((some .long)) rm_X3_got [v_R (some a0), v_I x1, v_I x2] h M (some (v_J r)) h M := mt_of (by decide) (Nat.le_of_ble_eq_true rfl) (fun v _ X hF => q_X3_got_0 X h a0 hF x1 x2 hm)
theorem yv_X3_got : Yv_ yX3_got cX3_got 4 ((some .long)) 2 3 := ⟨rfl, by decide, ⟨by decide, by decide, by decide +kernel⟩, co_X3_got, im_X3_got, se_X3_got, ini_X3⟩

abbrev rm_X3_word : Room := { frames := 1, cells := 0, slots := 0, locals := 21 }
def j_X3_word_20 (h : Hpx) (a0 : Nat) : Option (Int64) :=
  some (0 : Int64)
set_option maxHeartbeats 4000000 in
theorem q_X3_word_20 {v : Evx} {g : Gvx} {M : Msx} {r : Int64} (X : Cx_ v g cX3_word 4 RX3 "word" ((some .long)) rm_X3_word) (h : Hpx) (a0 : Nat) (hF : Fi_ v g rm_X3_word (some (v_J r)) h M) (hm : j_X3_word_20 h a0  = some r) : At_ v g 4 h M 0 0 20 [(0, v_R (some a0))] [] := by
  unfold j_X3_word_20 at hm
  refine a_lconst (x := 0) X dX3_word_20 (by decide) ?_
  refine a_goto (tgt := 33) X dX3_word_21 (by decide) ?_
  exact a_lret X hF ⟨rfl, rfl, Option.some.inj hm⟩ (by decide) dX3_word_33
def f_X3_word (h : Hpx) (a0 : Nat) (x1 : Int32) (x2 : Int32) : Option (Int64) :=
  (if h_k h a0 = 4 then
  (f_X3_readerAt h a0 x1).bind fun r23 =>
  (if r23 = none then
  j_X3_word_20 h a0 
  else (if x2 < 0 then
  j_X3_word_20 h a0 
  else (if x2 < (8 : Int32) then
  r23.bind fun a27 =>
  (if h_k h a27 = 2 then
  (h_R h a27 3).bind fun a29 =>
  (if h_k h a29 = 1 then
  (h_R h a29 0).bind fun a31 =>
  (if h_k h a31 = 7 then
  (if in_b x2 (h_n h a31) = true then
  some (h_J h a31 x2.toNatClampNeg) else none) else none) else none) else none)
  else j_X3_word_20 h a0 ))) else none)
set_option maxHeartbeats 4000000 in
theorem q_X3_word_0 {v : Evx} {g : Gvx} {M : Msx} {r : Int64} (X : Cx_ v g cX3_word 4 RX3 "word" ((some .long)) rm_X3_word) (h : Hpx) (a0 : Nat) (hF : Fi_ v g rm_X3_word (some (v_J r)) h M) (x1 : Int32) (x2 : Int32) (hm : f_X3_word h a0 x1 x2 = some r) : At_ v g 4 h M 0 0 0 [(0, v_R (some a0)), (1, v_I x1), (2, v_I x2)] [] := by
  unfold f_X3_word at hm
  refine a_aload_n X dX3_word_0 rfl ?_
  refine a_iload_n X dX3_word_1 rfl ?_
  obtain ⟨k21, hm⟩ := i_c hm
  obtain ⟨r23, q22, hm⟩ := i_b hm
  refine a_callV (k' := 0) (n' := 0) (st := []) X (c_X3_readerAt q22) yv_X3_readerAt ml_X3_73 rfl (Or.inl k21) ⟨by decide, by decide, by decide, by decide, Nat.le_of_ble_eq_true rfl⟩ rfl rfl dX3_word_2 rfl rfl ?_
  show At_ v g 4 h M 0 0 5 [(0, v_R (some a0)), (1, v_I x1), (2, v_I x2)] [v_R r23]
  refine a_astore_n (lv' := [(0, v_R (some a0)), (1, v_I x1), (2, v_I x2), (3, v_R r23)]) X dX3_word_5 (by decide) rfl ?_
  refine a_aload_n X dX3_word_6 rfl ?_
  refine a_ifnull (tgt := 20) X dX3_word_7 (by decide) hm (fun c24 hm => ?_) (fun c24 hm => ?_)
  · refine a_pick (lv' := [(0, v_R (some a0))]) [0] rfl ?_
    exact q_X3_word_20 X h a0 hF  hm
  · refine a_iload_n X dX3_word_10 rfl ?_
    refine a_if_lt (tgt := 20) X dX3_word_11 (by decide) hm (fun c25 hm => ?_) (fun c25 hm => ?_)
    · refine a_pick (lv' := [(0, v_R (some a0))]) [0] rfl ?_
      exact q_X3_word_20 X h a0 hF  hm
    · refine a_iload_n X dX3_word_14 rfl ?_
      refine a_bipush (x := 8) X dX3_word_15 (by decide) ?_
      refine a_icmp_lt (tgt := 24) X dX3_word_17 (by decide) hm (fun c26 hm => ?_) (fun c26 hm => ?_)
      · refine a_aload_n X dX3_word_24 rfl ?_
        obtain ⟨a27, ea27, hm⟩ := i_b hm
        obtain ⟨k28, hm⟩ := i_c hm
        refine a_getR X 1 3 ea27 k28 (by decide) rfl fl_X3_141 dX3_word_25 ?_
        obtain ⟨a29, ea29, hm⟩ := i_b hm
        obtain ⟨k30, hm⟩ := i_c hm
        refine a_getR X 0 0 ea29 k30 (by decide) rfl fl_X3_135 dX3_word_28 ?_
        refine a_iload_n X dX3_word_31 rfl ?_
        obtain ⟨a31, ea31, hm⟩ := i_b hm
        obtain ⟨k32, hm⟩ := i_c hm
        obtain ⟨b33, hm⟩ := i_c hm
        refine a_lald X ea31 k32 b33 dX3_word_32 ?_
        exact a_lret X hF ⟨rfl, rfl, Option.some.inj hm⟩ (by decide) dX3_word_33
      · refine a_pick (lv' := [(0, v_R (some a0))]) [0] rfl ?_
        exact q_X3_word_20 X h a0 hF  hm
theorem c_X3_word {l : Launch} {g : Gvx} {h : Hpx} {M : Msx} {r : Int64} {a0 : Nat} {x1 : Int32} {x2 : Int32} (hm : f_X3_word h a0 x1 x2 = some r) : Mt_ l g yX3_word cX3_word 4 ((some .long)) rm_X3_word [v_R (some a0), v_I x1, v_I x2] h M (some (v_J r)) h M := mt_of (by decide) (Nat.le_of_ble_eq_true rfl) (fun v _ X hF => q_X3_word_0 X h a0 hF x1 x2 hm)
theorem yv_X3_word : Yv_ yX3_word cX3_word 4 ((some .long)) 2 3 := ⟨rfl, by decide, ⟨by decide, by decide, by decide +kernel⟩, co_X3_word, im_X3_word, se_X3_word, ini_X3⟩

abbrev rm_X3_of : Room := { frames := 1, cells := 0, slots := 0, locals := 21 }
def f_X3_of (h : Hpx) (a0 : Nat) (x1 : Int32) (x2 : Int32) : Option (Hpx × Int32) :=
  (if x2 < 0 then
  some (h, (-1 : Int32))
  else (if x2 ≤ (8 : Int32) then
  (if h_k h a0 = 4 then
  (f_X3_readerAt h a0 x1).bind fun r25 =>
  (if r25 = none then
  c_l (f_X3_finding h a0 (2 : Int32)) fun h60 r61 =>
  some (h60, r61)
  else (if x2 = 0 then
  r25.bind fun a57 =>
  (if h_k h a57 = 2 then
  some (h, (h_I h a57 0)) else none)
  else (if x2 = 1 then
  r25.bind fun a53 =>
  (if h_k h a53 = 2 then
  (h_R h a53 1).bind fun a55 =>
  (if h_k h a55 = 3 then
  some (h, (h_I h a55 0)) else none) else none)
  else (if x2 = 2 then
  r25.bind fun a47 =>
  (if h_k h a47 = 2 then
  (h_R h a47 1).bind fun a49 =>
  (if h_k h a49 = 3 then
  (f_X1_placeIn h a47 (h_I h a49 0)).bind fun r52 =>
  some (h, r52) else none) else none)
  else (if x2 = 3 then
  r25.bind fun a45 =>
  (if h_k h a45 = 2 then
  some (h, (h_I h a45 12)) else none)
  else (if x2 = 4 then
  r25.bind fun a43 =>
  (if h_k h a43 = 2 then
  some (h, (h_I h a43 13)) else none)
  else (if x2 = 5 then
  r25.bind fun a41 =>
  (if h_k h a41 = 2 then
  some (h, (h_I h a41 14)) else none)
  else (if x2 = 6 then
  r25.bind fun a39 =>
  (if h_k h a39 = 2 then
  some (h, (h_I h a39 10)) else none)
  else (if x2 = 7 then
  r25.bind fun a37 =>
  (if h_k h a37 = 2 then
  some (h, (h_I h a37 8)) else none)
  else r25.bind fun a35 =>
  (if h_k h a35 = 2 then
  some (h, (h_I h a35 11)) else none)))))))))) else none)
  else some (h, (-1 : Int32))))
set_option maxHeartbeats 4000000 in
theorem q_X3_of_0 {v : Evx} {g : Gvx} {M : Msx} {h' : Hpx} {r : Int32} (X : Cx_ v g cX3_of 4 RX3 "of" ((some .int)) rm_X3_of) (a0 : Nat) (hF : Fi_ v g rm_X3_of (some (v_I r)) h' M) (h : Hpx) (x1 : Int32) (x2 : Int32) (hm : f_X3_of h a0 x1 x2 = some (h', r)) : At_ v g 4 h M 0 0 0 [(0, v_R (some a0)), (1, v_I x1), (2, v_I x2)] [] := by
  unfold f_X3_of at hm
  refine a_iload_n X dX3_of_0 rfl ?_
  refine a_if_lt (tgt := 10) X dX3_of_1 (by decide) hm (fun c21 hm => ?_) (fun c21 hm => ?_)
  · refine a_iconst (x := -1) X dX3_of_10 (by decide) ?_
    exact a_iret X hF ⟨(Prod.mk.inj (Option.some.inj hm)).1, rfl, (Prod.mk.inj (Option.some.inj hm)).2⟩ (by decide) dX3_of_11
  · refine a_iload_n X dX3_of_4 rfl ?_
    refine a_bipush (x := 8) X dX3_of_5 (by decide) ?_
    refine a_icmp_le (tgt := 12) X dX3_of_7 (by decide) hm (fun c22 hm => ?_) (fun c22 hm => ?_)
    · refine a_aload_n X dX3_of_12 rfl ?_
      refine a_iload_n X dX3_of_13 rfl ?_
      obtain ⟨k23, hm⟩ := i_c hm
      obtain ⟨r25, q24, hm⟩ := i_b hm
      refine a_callV (k' := 0) (n' := 0) (st := []) X (c_X3_readerAt q24) yv_X3_readerAt ml_X3_73 rfl (Or.inl k23) ⟨by decide, by decide, by decide, by decide, Nat.le_of_ble_eq_true rfl⟩ rfl rfl dX3_of_14 rfl rfl ?_
      show At_ v g 4 h M 0 0 17 [(0, v_R (some a0)), (1, v_I x1), (2, v_I x2)] [v_R r25]
      refine a_astore_n (lv' := [(0, v_R (some a0)), (1, v_I x1), (2, v_I x2), (3, v_R r25)]) X dX3_of_17 (by decide) rfl ?_
      refine a_aload_n X dX3_of_18 rfl ?_
      refine a_ifnonnull (tgt := 28) X dX3_of_19 (by decide) hm (fun c26 hm => ?_) (fun c26 hm => ?_)
      · refine a_iload_n X dX3_of_28 rfl ?_
        by_cases c27 : x2 = 0
        · have hm := i_p hm c27
          refine a_tsIn (c := 0) (off := 47) (tgt := 76) X dX3_of_29 c27 (by decide) (by decide) rfl (by decide) ?_
          refine a_aload_n X dX3_of_76 rfl ?_
          obtain ⟨a57, ea57, hm⟩ := i_b hm
          obtain ⟨k58, hm⟩ := i_c hm
          refine a_getI X 1 0 ea57 k58 (by decide) rfl fl_X3_77 dX3_of_77 ?_
          exact a_iret X hF ⟨(Prod.mk.inj (Option.some.inj hm)).1, rfl, (Prod.mk.inj (Option.some.inj hm)).2⟩ (by decide) dX3_of_80
        · have hm := i_n hm c27
          by_cases c28 : x2 = 1
          · have hm := i_p hm c28
            refine a_tsIn (c := 1) (off := 52) (tgt := 81) X dX3_of_29 c28 (by decide) (by decide) rfl (by decide) ?_
            refine a_aload_n X dX3_of_81 rfl ?_
            obtain ⟨a53, ea53, hm⟩ := i_b hm
            obtain ⟨k54, hm⟩ := i_c hm
            refine a_getR X 1 1 ea53 k54 (by decide) rfl fl_X3_94 dX3_of_82 ?_
            obtain ⟨a55, ea55, hm⟩ := i_b hm
            obtain ⟨k56, hm⟩ := i_c hm
            refine a_getI X 2 0 ea55 k56 (by decide) rfl fl_X3_98 dX3_of_85 ?_
            exact a_iret X hF ⟨(Prod.mk.inj (Option.some.inj hm)).1, rfl, (Prod.mk.inj (Option.some.inj hm)).2⟩ (by decide) dX3_of_88
          · have hm := i_n hm c28
            by_cases c29 : x2 = 2
            · have hm := i_p hm c29
              refine a_tsIn (c := 2) (off := 60) (tgt := 89) X dX3_of_29 c29 (by decide) (by decide) rfl (by decide) ?_
              refine a_aload_n X dX3_of_89 rfl ?_
              refine a_aload_n X dX3_of_90 rfl ?_
              obtain ⟨a47, ea47, hm⟩ := i_b hm
              obtain ⟨k48, hm⟩ := i_c hm
              refine a_getR X 1 1 ea47 k48 (by decide) rfl fl_X3_94 dX3_of_91 ?_
              obtain ⟨a49, ea49, hm⟩ := i_b hm
              obtain ⟨k50, hm⟩ := i_c hm
              refine a_getI X 2 0 ea49 k50 (by decide) rfl fl_X3_98 dX3_of_94 ?_
              obtain ⟨r52, q51, hm⟩ := i_b hm
              refine a_callV (k' := 0) (n' := 0) (st := []) X (c_X1_placeIn q51) yv_X1_placeIn ml_X3_80 ea47 (Or.inl k48) ⟨by decide, by decide, by decide, by decide, Nat.le_of_ble_eq_true rfl⟩ rfl rfl dX3_of_97 rfl rfl ?_
              show At_ v g 4 h M 0 0 100 [(0, v_R (some a0)), (1, v_I x1), (2, v_I x2), (3, v_R r25)] [v_I r52]
              exact a_iret X hF ⟨(Prod.mk.inj (Option.some.inj hm)).1, rfl, (Prod.mk.inj (Option.some.inj hm)).2⟩ (by decide) dX3_of_100
            · have hm := i_n hm c29
              by_cases c30 : x2 = 3
              · have hm := i_p hm c30
                refine a_tsIn (c := 3) (off := 72) (tgt := 101) X dX3_of_29 c30 (by decide) (by decide) rfl (by decide) ?_
                refine a_aload_n X dX3_of_101 rfl ?_
                obtain ⟨a45, ea45, hm⟩ := i_b hm
                obtain ⟨k46, hm⟩ := i_c hm
                refine a_getI X 1 12 ea45 k46 (by decide) rfl fl_X3_206 dX3_of_102 ?_
                exact a_iret X hF ⟨(Prod.mk.inj (Option.some.inj hm)).1, rfl, (Prod.mk.inj (Option.some.inj hm)).2⟩ (by decide) dX3_of_105
              · have hm := i_n hm c30
                by_cases c31 : x2 = 4
                · have hm := i_p hm c31
                  refine a_tsIn (c := 4) (off := 77) (tgt := 106) X dX3_of_29 c31 (by decide) (by decide) rfl (by decide) ?_
                  refine a_aload_n X dX3_of_106 rfl ?_
                  obtain ⟨a43, ea43, hm⟩ := i_b hm
                  obtain ⟨k44, hm⟩ := i_c hm
                  refine a_getI X 1 13 ea43 k44 (by decide) rfl fl_X3_209 dX3_of_107 ?_
                  exact a_iret X hF ⟨(Prod.mk.inj (Option.some.inj hm)).1, rfl, (Prod.mk.inj (Option.some.inj hm)).2⟩ (by decide) dX3_of_110
                · have hm := i_n hm c31
                  by_cases c32 : x2 = 5
                  · have hm := i_p hm c32
                    refine a_tsIn (c := 5) (off := 82) (tgt := 111) X dX3_of_29 c32 (by decide) (by decide) rfl (by decide) ?_
                    refine a_aload_n X dX3_of_111 rfl ?_
                    obtain ⟨a41, ea41, hm⟩ := i_b hm
                    obtain ⟨k42, hm⟩ := i_c hm
                    refine a_getI X 1 14 ea41 k42 (by decide) rfl fl_X3_212 dX3_of_112 ?_
                    exact a_iret X hF ⟨(Prod.mk.inj (Option.some.inj hm)).1, rfl, (Prod.mk.inj (Option.some.inj hm)).2⟩ (by decide) dX3_of_115
                  · have hm := i_n hm c32
                    by_cases c33 : x2 = 6
                    · have hm := i_p hm c33
                      refine a_tsIn (c := 6) (off := 87) (tgt := 116) X dX3_of_29 c33 (by decide) (by decide) rfl (by decide) ?_
                      refine a_aload_n X dX3_of_116 rfl ?_
                      obtain ⟨a39, ea39, hm⟩ := i_b hm
                      obtain ⟨k40, hm⟩ := i_c hm
                      refine a_getI X 1 10 ea39 k40 (by decide) rfl fl_X3_215 dX3_of_117 ?_
                      exact a_iret X hF ⟨(Prod.mk.inj (Option.some.inj hm)).1, rfl, (Prod.mk.inj (Option.some.inj hm)).2⟩ (by decide) dX3_of_120
                    · have hm := i_n hm c33
                      by_cases c34 : x2 = 7
                      · have hm := i_p hm c34
                        refine a_tsIn (c := 7) (off := 92) (tgt := 121) X dX3_of_29 c34 (by decide) (by decide) rfl (by decide) ?_
                        refine a_aload_n X dX3_of_121 rfl ?_
                        obtain ⟨a37, ea37, hm⟩ := i_b hm
                        obtain ⟨k38, hm⟩ := i_c hm
                        refine a_getI X 1 8 ea37 k38 (by decide) rfl fl_X3_105 dX3_of_122 ?_
                        exact a_iret X hF ⟨(Prod.mk.inj (Option.some.inj hm)).1, rfl, (Prod.mk.inj (Option.some.inj hm)).2⟩ (by decide) dX3_of_125
                      · have hm := i_n hm c34
                        have wc27 : ¬ (x2).toInt = 0 := lv_neT c27 rfl
                        have wc28 : ¬ (x2).toInt = 1 := lv_neT c28 rfl
                        have wc29 : ¬ (x2).toInt = 2 := lv_neT c29 rfl
                        have wc30 : ¬ (x2).toInt = 3 := lv_neT c30 rfl
                        have wc31 : ¬ (x2).toInt = 4 := lv_neT c31 rfl
                        have wc32 : ¬ (x2).toInt = 5 := lv_neT c32 rfl
                        have wc33 : ¬ (x2).toInt = 6 := lv_neT c33 rfl
                        have wc34 : ¬ (x2).toInt = 7 := lv_neT c34 rfl
                        refine a_tsOut (tgt := 126) X dX3_of_29 (by omega) (by decide) ?_
                        refine a_aload_n X dX3_of_126 rfl ?_
                        obtain ⟨a35, ea35, hm⟩ := i_b hm
                        obtain ⟨k36, hm⟩ := i_c hm
                        refine a_getI X 1 11 ea35 k36 (by decide) rfl fl_X3_218 dX3_of_127 ?_
                        exact a_iret X hF ⟨(Prod.mk.inj (Option.some.inj hm)).1, rfl, (Prod.mk.inj (Option.some.inj hm)).2⟩ (by decide) dX3_of_130
      · refine a_aload_n X dX3_of_22 rfl ?_
        refine a_iconst (x := 2) X dX3_of_23 (by decide) ?_
        obtain ⟨h60, r61, q59, hm⟩ := i_l hm
        refine a_callV (k' := 0) (n' := 0) (st := []) X (c_X3_finding q59) yv_X3_finding ml_X3_32 rfl (Or.inl k23) ⟨by decide, by decide, by decide, by decide, Nat.le_of_ble_eq_true rfl⟩ rfl rfl dX3_of_24 rfl rfl ?_
        show At_ v g 4 h60 M 0 0 27 [(0, v_R (some a0)), (1, v_I x1), (2, v_I x2), (3, v_R r25)] [v_I r61]
        exact a_iret X hF ⟨(Prod.mk.inj (Option.some.inj hm)).1, rfl, (Prod.mk.inj (Option.some.inj hm)).2⟩ (by decide) dX3_of_27
    · refine a_iconst (x := -1) X dX3_of_10 (by decide) ?_
      exact a_iret X hF ⟨(Prod.mk.inj (Option.some.inj hm)).1, rfl, (Prod.mk.inj (Option.some.inj hm)).2⟩ (by decide) dX3_of_11
theorem c_X3_of {l : Launch} {g : Gvx} {h : Hpx} {M : Msx} {h' : Hpx} {r : Int32} {a0 : Nat} {x1 : Int32} {x2 : Int32} (hm : f_X3_of h a0 x1 x2 = some (h', r)) : Mt_ l g yX3_of cX3_of 4 ((some .int)) rm_X3_of [v_R (some a0), v_I x1, v_I x2] h M (some (v_I r)) h' M := mt_of (by decide) (Nat.le_of_ble_eq_true rfl) (fun v _ X hF => q_X3_of_0 X a0 hF h x1 x2 hm)
theorem yv_X3_of : Yv_ yX3_of cX3_of 4 ((some .int)) 2 3 := ⟨rfl, by decide, ⟨by decide, by decide, by decide +kernel⟩, co_X3_of, im_X3_of, se_X3_of, ini_X3⟩

abbrev rm_X3_place : Room := { frames := 2, cells := 0, slots := 0, locals := 44 }
def f_X3_place (h : Hpx) (a0 : Nat) (x1 : Int32) (x2 : Int32) : Option (Int32) :=
  (if h_k h a0 = 4 then
  (f_X3_placeOf h a0 x1 x2).bind fun r23 =>
  some r23 else none)
set_option maxHeartbeats 4000000 in
theorem q_X3_place_0 {v : Evx} {g : Gvx} {M : Msx} {r : Int32} (X : Cx_ v g cX3_place 3 RX3 "place" ((some .int)) rm_X3_place) (h : Hpx) (a0 : Nat) (hF : Fi_ v g rm_X3_place (some (v_I r)) h M) (x1 : Int32) (x2 : Int32) (hm : f_X3_place h a0 x1 x2 = some r) : At_ v g 3 h M 0 0 0 [(0, v_R (some a0)), (1, v_I x1), (2, v_I x2)] [] := by
  unfold f_X3_place at hm
  refine a_aload_n X dX3_place_0 rfl ?_
  refine a_iload_n X dX3_place_1 rfl ?_
  refine a_iload_n X dX3_place_2 rfl ?_
  obtain ⟨k21, hm⟩ := i_c hm
  obtain ⟨r23, q22, hm⟩ := i_b hm
  refine a_callV (k' := 0) (n' := 0) (st := []) X (c_X3_placeOf q22) yv_X3_placeOf ml_X3_62 rfl (Or.inl k21) ⟨by decide, by decide, by decide, by decide, Nat.le_of_ble_eq_true rfl⟩ rfl rfl dX3_place_3 rfl rfl ?_
  show At_ v g 3 h M 0 0 6 [(0, v_R (some a0)), (1, v_I x1), (2, v_I x2)] [v_I r23]
  exact a_iret X hF ⟨rfl, rfl, Option.some.inj hm⟩ (by decide) dX3_place_6
theorem c_X3_place {l : Launch} {g : Gvx} {h : Hpx} {M : Msx} {r : Int32} {a0 : Nat} {x1 : Int32} {x2 : Int32} (hm : f_X3_place h a0 x1 x2 = some r) : Mt_ l g yX3_place cX3_place 3 ((some .int)) rm_X3_place [v_R (some a0), v_I x1, v_I x2] h M (some (v_I r)) h M := mt_of (by decide) (Nat.le_of_ble_eq_true rfl) (fun v _ X hF => q_X3_place_0 X h a0 hF x1 x2 hm)
theorem yv_X3_place : Yv_ yX3_place cX3_place 3 ((some .int)) 2 3 := ⟨rfl, by decide, ⟨by decide, by decide, by decide +kernel⟩, co_X3_place, im_X3_place, se_X3_place, ini_X3⟩

abbrev rm_X3_named : Room := { frames := 1, cells := 0, slots := 0, locals := 21 }
def f_X3_named (h : Hpx) (a0 : Nat) (x1 : Int32) (x2 : Int32) : Option (Hpx × Int32) :=
  (if h_k h a0 = 4 then
  (f_X3_readerAt h a0 x1).bind fun r23 =>
  (if r23 = none then
  c_l (f_X3_finding h a0 (2 : Int32)) fun h40 r41 =>
  some (h40, r41)
  else r23.bind fun a25 =>
  (if h_k h a25 = 2 then
  (f_X1_mayName h a25).bind fun r28 =>
  (if r28 = 0 then
  c_l (f_X3_finding h a0 (4 : Int32)) fun h37 r38 =>
  some (h37, r38)
  else (if x2 < 0 then
  some (h, (-1 : Int32))
  else (if (h_I h a25 8) ≤ x2 then
  some (h, (-1 : Int32))
  else (if (4 : Int32) ≤ x2 then
  some (h, (-1 : Int32))
  else (h_R h a25 5).bind fun a33 =>
  (if h_k h a33 = 6 then
  (if in_b x2 (h_n h a33) = true then
  some (h, (h_I h a33 x2.toNatClampNeg)) else none) else none))))) else none)) else none)
set_option maxHeartbeats 4000000 in
theorem q_X3_named_0 {v : Evx} {g : Gvx} {M : Msx} {h' : Hpx} {r : Int32} (X : Cx_ v g cX3_named 4 RX3 "named" ((some .int)) rm_X3_named) (a0 : Nat) (hF : Fi_ v g rm_X3_named (some (v_I r)) h' M) (h : Hpx) (x1 : Int32) (x2 : Int32) (hm : f_X3_named h a0 x1 x2 = some (h', r)) : At_ v g 4 h M 0 0 0 [(0, v_R (some a0)), (1, v_I x1), (2, v_I x2)] [] := by
  unfold f_X3_named at hm
  refine a_aload_n X dX3_named_0 rfl ?_
  refine a_iload_n X dX3_named_1 rfl ?_
  obtain ⟨k21, hm⟩ := i_c hm
  obtain ⟨r23, q22, hm⟩ := i_b hm
  refine a_callV (k' := 0) (n' := 0) (st := []) X (c_X3_readerAt q22) yv_X3_readerAt ml_X3_73 rfl (Or.inl k21) ⟨by decide, by decide, by decide, by decide, Nat.le_of_ble_eq_true rfl⟩ rfl rfl dX3_named_2 rfl rfl ?_
  show At_ v g 4 h M 0 0 5 [(0, v_R (some a0)), (1, v_I x1), (2, v_I x2)] [v_R r23]
  refine a_astore_n (lv' := [(0, v_R (some a0)), (1, v_I x1), (2, v_I x2), (3, v_R r23)]) X dX3_named_5 (by decide) rfl ?_
  refine a_aload_n X dX3_named_6 rfl ?_
  refine a_ifnonnull (tgt := 16) X dX3_named_7 (by decide) hm (fun c24 hm => ?_) (fun c24 hm => ?_)
  · refine a_aload_n X dX3_named_16 rfl ?_
    obtain ⟨a25, ea25, hm⟩ := i_b hm
    obtain ⟨k26, hm⟩ := i_c hm
    obtain ⟨r28, q27, hm⟩ := i_b hm
    refine a_callV (k' := 0) (n' := 0) (st := []) X (c_X1_mayName q27) yv_X1_mayName ml_X3_90 ea25 (Or.inl k26) ⟨by decide, by decide, by decide, by decide, Nat.le_of_ble_eq_true rfl⟩ rfl rfl dX3_named_17 rfl rfl ?_
    show At_ v g 4 h M 0 0 20 [(0, v_R (some a0)), (1, v_I x1), (2, v_I x2), (3, v_R r23)] [v_I r28]
    refine a_if_ne (tgt := 29) X dX3_named_20 (by decide) hm (fun c29 hm => ?_) (fun c29 hm => ?_)
    · refine a_iload_n X dX3_named_29 rfl ?_
      refine a_if_lt (tgt := 55) X dX3_named_30 (by decide) hm (fun c30 hm => ?_) (fun c30 hm => ?_)
      · refine a_iconst (x := -1) X dX3_named_55 (by decide) ?_
        exact a_iret X hF ⟨(Prod.mk.inj (Option.some.inj hm)).1, rfl, (Prod.mk.inj (Option.some.inj hm)).2⟩ (by decide) dX3_named_56
      · refine a_iload_n X dX3_named_33 rfl ?_
        refine a_aload_n X dX3_named_34 rfl ?_
        refine a_getI X 1 8 ea25 k26 (by decide) rfl fl_X3_105 dX3_named_35 ?_
        refine a_icmp_ge (tgt := 55) X dX3_named_38 (by decide) hm (fun c31 hm => ?_) (fun c31 hm => ?_)
        · refine a_iconst (x := -1) X dX3_named_55 (by decide) ?_
          exact a_iret X hF ⟨(Prod.mk.inj (Option.some.inj hm)).1, rfl, (Prod.mk.inj (Option.some.inj hm)).2⟩ (by decide) dX3_named_56
        · refine a_iload_n X dX3_named_41 rfl ?_
          refine a_iconst (x := 4) X dX3_named_42 (by decide) ?_
          refine a_icmp_ge (tgt := 55) X dX3_named_43 (by decide) hm (fun c32 hm => ?_) (fun c32 hm => ?_)
          · refine a_iconst (x := -1) X dX3_named_55 (by decide) ?_
            exact a_iret X hF ⟨(Prod.mk.inj (Option.some.inj hm)).1, rfl, (Prod.mk.inj (Option.some.inj hm)).2⟩ (by decide) dX3_named_56
          · refine a_aload_n X dX3_named_46 rfl ?_
            refine a_getR X 1 5 ea25 k26 (by decide) rfl fl_X3_221 dX3_named_47 ?_
            refine a_iload_n X dX3_named_50 rfl ?_
            obtain ⟨a33, ea33, hm⟩ := i_b hm
            obtain ⟨k34, hm⟩ := i_c hm
            obtain ⟨b35, hm⟩ := i_c hm
            refine a_iald X ea33 k34 b35 dX3_named_51 ?_
            refine a_goto (tgt := 56) X dX3_named_52 (by decide) ?_
            exact a_iret X hF ⟨(Prod.mk.inj (Option.some.inj hm)).1, rfl, (Prod.mk.inj (Option.some.inj hm)).2⟩ (by decide) dX3_named_56
    · refine a_aload_n X dX3_named_23 rfl ?_
      refine a_iconst (x := 4) X dX3_named_24 (by decide) ?_
      obtain ⟨h37, r38, q36, hm⟩ := i_l hm
      refine a_callV (k' := 0) (n' := 0) (st := []) X (c_X3_finding q36) yv_X3_finding ml_X3_32 rfl (Or.inl k21) ⟨by decide, by decide, by decide, by decide, Nat.le_of_ble_eq_true rfl⟩ rfl rfl dX3_named_25 rfl rfl ?_
      show At_ v g 4 h37 M 0 0 28 [(0, v_R (some a0)), (1, v_I x1), (2, v_I x2), (3, v_R r23)] [v_I r38]
      exact a_iret X hF ⟨(Prod.mk.inj (Option.some.inj hm)).1, rfl, (Prod.mk.inj (Option.some.inj hm)).2⟩ (by decide) dX3_named_28
  · refine a_aload_n X dX3_named_10 rfl ?_
    refine a_iconst (x := 2) X dX3_named_11 (by decide) ?_
    obtain ⟨h40, r41, q39, hm⟩ := i_l hm
    refine a_callV (k' := 0) (n' := 0) (st := []) X (c_X3_finding q39) yv_X3_finding ml_X3_32 rfl (Or.inl k21) ⟨by decide, by decide, by decide, by decide, Nat.le_of_ble_eq_true rfl⟩ rfl rfl dX3_named_12 rfl rfl ?_
    show At_ v g 4 h40 M 0 0 15 [(0, v_R (some a0)), (1, v_I x1), (2, v_I x2), (3, v_R r23)] [v_I r41]
    exact a_iret X hF ⟨(Prod.mk.inj (Option.some.inj hm)).1, rfl, (Prod.mk.inj (Option.some.inj hm)).2⟩ (by decide) dX3_named_15
theorem c_X3_named {l : Launch} {g : Gvx} {h : Hpx} {M : Msx} {h' : Hpx} {r : Int32} {a0 : Nat} {x1 : Int32} {x2 : Int32} (hm : f_X3_named h a0 x1 x2 = some (h', r)) : Mt_ l g yX3_named cX3_named 4 ((some .int)) rm_X3_named [v_R (some a0), v_I x1, v_I x2] h M (some (v_I r)) h' M := mt_of (by decide) (Nat.le_of_ble_eq_true rfl) (fun v _ X hF => q_X3_named_0 X a0 hF h x1 x2 hm)
theorem yv_X3_named : Yv_ yX3_named cX3_named 4 ((some .int)) 2 3 := ⟨rfl, by decide, ⟨by decide, by decide, by decide +kernel⟩, co_X3_named, im_X3_named, se_X3_named, ini_X3⟩

abbrev rm_X3_entry : Room := { frames := 1, cells := 0, slots := 0, locals := 21 }
def f_X3_entry (h : Hpx) (a0 : Nat) (x1 : Int32) (x2 : Int32) : Option (Hpx × Int32) :=
  (if h_k h a0 = 4 then
  (f_X3_readerAt h a0 x1).bind fun r23 =>
  (if r23 = none then
  c_l (f_X3_finding h a0 (2 : Int32)) fun h40 r41 =>
  some (h40, r41)
  else r23.bind fun a25 =>
  (if h_k h a25 = 2 then
  (if (h_I h a25 0) = (4 : Int32) then
  (if x2 < 0 then
  some (h, (-1 : Int32))
  else (if (h_I h a25 10) ≤ x2 then
  some (h, (-1 : Int32))
  else (h_R h a25 6).bind fun a30 =>
  (if h_k h a30 = 9 then
  (if (nI (h_n h a30)) ≤ x2 then
  some (h, (-1 : Int32))
  else (if in_b x2 (h_n h a30) = true then
  (h_R h a30 x2.toNatClampNeg).bind fun a34 =>
  (if h_k h a34 = 1 then
  some (h, (h_I h a34 4)) else none) else none)) else none)))
  else c_l (f_X3_finding h a0 (4 : Int32)) fun h37 r38 =>
  some (h37, r38)) else none)) else none)
set_option maxHeartbeats 4000000 in
theorem q_X3_entry_0 {v : Evx} {g : Gvx} {M : Msx} {h' : Hpx} {r : Int32} (X : Cx_ v g cX3_entry 4 RX3 "entry" ((some .int)) rm_X3_entry) (a0 : Nat) (hF : Fi_ v g rm_X3_entry (some (v_I r)) h' M) (h : Hpx) (x1 : Int32) (x2 : Int32) (hm : f_X3_entry h a0 x1 x2 = some (h', r)) : At_ v g 4 h M 0 0 0 [(0, v_R (some a0)), (1, v_I x1), (2, v_I x2)] [] := by
  unfold f_X3_entry at hm
  refine a_aload_n X dX3_entry_0 rfl ?_
  refine a_iload_n X dX3_entry_1 rfl ?_
  obtain ⟨k21, hm⟩ := i_c hm
  obtain ⟨r23, q22, hm⟩ := i_b hm
  refine a_callV (k' := 0) (n' := 0) (st := []) X (c_X3_readerAt q22) yv_X3_readerAt ml_X3_73 rfl (Or.inl k21) ⟨by decide, by decide, by decide, by decide, Nat.le_of_ble_eq_true rfl⟩ rfl rfl dX3_entry_2 rfl rfl ?_
  show At_ v g 4 h M 0 0 5 [(0, v_R (some a0)), (1, v_I x1), (2, v_I x2)] [v_R r23]
  refine a_astore_n (lv' := [(0, v_R (some a0)), (1, v_I x1), (2, v_I x2), (3, v_R r23)]) X dX3_entry_5 (by decide) rfl ?_
  refine a_aload_n X dX3_entry_6 rfl ?_
  refine a_ifnonnull (tgt := 16) X dX3_entry_7 (by decide) hm (fun c24 hm => ?_) (fun c24 hm => ?_)
  · refine a_aload_n X dX3_entry_16 rfl ?_
    obtain ⟨a25, ea25, hm⟩ := i_b hm
    obtain ⟨k26, hm⟩ := i_c hm
    refine a_getI X 1 0 ea25 k26 (by decide) rfl fl_X3_77 dX3_entry_17 ?_
    refine a_iconst (x := 4) X dX3_entry_20 (by decide) ?_
    refine a_icmp_eq (tgt := 30) X dX3_entry_21 (by decide) hm (fun c27 hm => ?_) (fun c27 hm => ?_)
    · refine a_iload_n X dX3_entry_30 rfl ?_
      refine a_if_lt (tgt := 63) X dX3_entry_31 (by decide) hm (fun c28 hm => ?_) (fun c28 hm => ?_)
      · refine a_iconst (x := -1) X dX3_entry_63 (by decide) ?_
        exact a_iret X hF ⟨(Prod.mk.inj (Option.some.inj hm)).1, rfl, (Prod.mk.inj (Option.some.inj hm)).2⟩ (by decide) dX3_entry_64
      · refine a_iload_n X dX3_entry_34 rfl ?_
        refine a_aload_n X dX3_entry_35 rfl ?_
        refine a_getI X 1 10 ea25 k26 (by decide) rfl fl_X3_215 dX3_entry_36 ?_
        refine a_icmp_ge (tgt := 63) X dX3_entry_39 (by decide) hm (fun c29 hm => ?_) (fun c29 hm => ?_)
        · refine a_iconst (x := -1) X dX3_entry_63 (by decide) ?_
          exact a_iret X hF ⟨(Prod.mk.inj (Option.some.inj hm)).1, rfl, (Prod.mk.inj (Option.some.inj hm)).2⟩ (by decide) dX3_entry_64
        · refine a_iload_n X dX3_entry_42 rfl ?_
          refine a_aload_n X dX3_entry_43 rfl ?_
          refine a_getR X 1 6 ea25 k26 (by decide) rfl fl_X3_224 dX3_entry_44 ?_
          obtain ⟨a30, ea30, hm⟩ := i_b hm
          obtain ⟨k31, hm⟩ := i_c hm
          refine a_alen X 3 ea30 k31 (by decide) rfl dX3_entry_47 ?_
          refine a_icmp_ge (tgt := 63) X dX3_entry_48 (by decide) hm (fun c32 hm => ?_) (fun c32 hm => ?_)
          · refine a_iconst (x := -1) X dX3_entry_63 (by decide) ?_
            exact a_iret X hF ⟨(Prod.mk.inj (Option.some.inj hm)).1, rfl, (Prod.mk.inj (Option.some.inj hm)).2⟩ (by decide) dX3_entry_64
          · refine a_aload_n X dX3_entry_51 rfl ?_
            refine a_getR X 1 6 ea25 k26 (by decide) rfl fl_X3_224 dX3_entry_52 ?_
            refine a_iload_n X dX3_entry_55 rfl ?_
            obtain ⟨b33, hm⟩ := i_c hm
            refine a_aald X 3 ea30 k31 (by decide) rfl b33 dX3_entry_56 ?_
            obtain ⟨a34, ea34, hm⟩ := i_b hm
            obtain ⟨k35, hm⟩ := i_c hm
            refine a_getI X 0 4 ea34 k35 (by decide) rfl fl_X3_200 dX3_entry_57 ?_
            refine a_goto (tgt := 64) X dX3_entry_60 (by decide) ?_
            exact a_iret X hF ⟨(Prod.mk.inj (Option.some.inj hm)).1, rfl, (Prod.mk.inj (Option.some.inj hm)).2⟩ (by decide) dX3_entry_64
    · refine a_aload_n X dX3_entry_24 rfl ?_
      refine a_iconst (x := 4) X dX3_entry_25 (by decide) ?_
      obtain ⟨h37, r38, q36, hm⟩ := i_l hm
      refine a_callV (k' := 0) (n' := 0) (st := []) X (c_X3_finding q36) yv_X3_finding ml_X3_32 rfl (Or.inl k21) ⟨by decide, by decide, by decide, by decide, Nat.le_of_ble_eq_true rfl⟩ rfl rfl dX3_entry_26 rfl rfl ?_
      show At_ v g 4 h37 M 0 0 29 [(0, v_R (some a0)), (1, v_I x1), (2, v_I x2), (3, v_R r23)] [v_I r38]
      exact a_iret X hF ⟨(Prod.mk.inj (Option.some.inj hm)).1, rfl, (Prod.mk.inj (Option.some.inj hm)).2⟩ (by decide) dX3_entry_29
  · refine a_aload_n X dX3_entry_10 rfl ?_
    refine a_iconst (x := 2) X dX3_entry_11 (by decide) ?_
    obtain ⟨h40, r41, q39, hm⟩ := i_l hm
    refine a_callV (k' := 0) (n' := 0) (st := []) X (c_X3_finding q39) yv_X3_finding ml_X3_32 rfl (Or.inl k21) ⟨by decide, by decide, by decide, by decide, Nat.le_of_ble_eq_true rfl⟩ rfl rfl dX3_entry_12 rfl rfl ?_
    show At_ v g 4 h40 M 0 0 15 [(0, v_R (some a0)), (1, v_I x1), (2, v_I x2), (3, v_R r23)] [v_I r41]
    exact a_iret X hF ⟨(Prod.mk.inj (Option.some.inj hm)).1, rfl, (Prod.mk.inj (Option.some.inj hm)).2⟩ (by decide) dX3_entry_15
theorem c_X3_entry {l : Launch} {g : Gvx} {h : Hpx} {M : Msx} {h' : Hpx} {r : Int32} {a0 : Nat} {x1 : Int32} {x2 : Int32} (hm : f_X3_entry h a0 x1 x2 = some (h', r)) : Mt_ l g yX3_entry cX3_entry 4 ((some .int)) rm_X3_entry [v_R (some a0), v_I x1, v_I x2] h M (some (v_I r)) h' M := mt_of (by decide) (Nat.le_of_ble_eq_true rfl) (fun v _ X hF => q_X3_entry_0 X a0 hF h x1 x2 hm)
theorem yv_X3_entry : Yv_ yX3_entry cX3_entry 4 ((some .int)) 2 3 := ⟨rfl, by decide, ⟨by decide, by decide, by decide +kernel⟩, co_X3_entry, im_X3_entry, se_X3_entry, ini_X3⟩

abbrev rm_X3_target : Room := { frames := 1, cells := 0, slots := 0, locals := 21 }
def f_X3_target (h : Hpx) (a0 : Nat) (x1 : Int32) : Option (Hpx × Int32) :=
  (if h_k h a0 = 4 then
  (f_X3_readerAt h a0 x1).bind fun r23 =>
  (if r23 = none then
  c_l (f_X3_finding h a0 (2 : Int32)) fun h34 r35 =>
  some (h34, r35)
  else r23.bind fun a25 =>
  (if h_k h a25 = 2 then
  (if (h_R h a25 2) = none then
  c_l (f_X3_finding h a0 (4 : Int32)) fun h31 r32 =>
  some (h31, r32)
  else (h_R h a25 2).bind fun a28 =>
  (if h_k h a28 = 3 then
  some (h, (h_I h a28 0)) else none)) else none)) else none)
set_option maxHeartbeats 4000000 in
theorem q_X3_target_0 {v : Evx} {g : Gvx} {M : Msx} {h' : Hpx} {r : Int32} (X : Cx_ v g cX3_target 3 RX3 "target" ((some .int)) rm_X3_target) (a0 : Nat) (hF : Fi_ v g rm_X3_target (some (v_I r)) h' M) (h : Hpx) (x1 : Int32) (hm : f_X3_target h a0 x1 = some (h', r)) : At_ v g 3 h M 0 0 0 [(0, v_R (some a0)), (1, v_I x1)] [] := by
  unfold f_X3_target at hm
  refine a_aload_n X dX3_target_0 rfl ?_
  refine a_iload_n X dX3_target_1 rfl ?_
  obtain ⟨k21, hm⟩ := i_c hm
  obtain ⟨r23, q22, hm⟩ := i_b hm
  refine a_callV (k' := 0) (n' := 0) (st := []) X (c_X3_readerAt q22) yv_X3_readerAt ml_X3_73 rfl (Or.inl k21) ⟨by decide, by decide, by decide, by decide, Nat.le_of_ble_eq_true rfl⟩ rfl rfl dX3_target_2 rfl rfl ?_
  show At_ v g 3 h M 0 0 5 [(0, v_R (some a0)), (1, v_I x1)] [v_R r23]
  refine a_astore_n (lv' := [(0, v_R (some a0)), (1, v_I x1), (2, v_R r23)]) X dX3_target_5 (by decide) rfl ?_
  refine a_aload_n X dX3_target_6 rfl ?_
  refine a_ifnonnull (tgt := 16) X dX3_target_7 (by decide) hm (fun c24 hm => ?_) (fun c24 hm => ?_)
  · refine a_aload_n X dX3_target_16 rfl ?_
    obtain ⟨a25, ea25, hm⟩ := i_b hm
    obtain ⟨k26, hm⟩ := i_c hm
    refine a_getR X 1 2 ea25 k26 (by decide) rfl fl_X3_228 dX3_target_17 ?_
    refine a_ifnonnull (tgt := 31) X dX3_target_20 (by decide) hm (fun c27 hm => ?_) (fun c27 hm => ?_)
    · refine a_aload_n X dX3_target_31 rfl ?_
      refine a_getR X 1 2 ea25 k26 (by decide) rfl fl_X3_228 dX3_target_32 ?_
      obtain ⟨a28, ea28, hm⟩ := i_b hm
      obtain ⟨k29, hm⟩ := i_c hm
      refine a_getI X 2 0 ea28 k29 (by decide) rfl fl_X3_98 dX3_target_35 ?_
      exact a_iret X hF ⟨(Prod.mk.inj (Option.some.inj hm)).1, rfl, (Prod.mk.inj (Option.some.inj hm)).2⟩ (by decide) dX3_target_38
    · refine a_aload_n X dX3_target_23 rfl ?_
      refine a_iconst (x := 4) X dX3_target_24 (by decide) ?_
      obtain ⟨h31, r32, q30, hm⟩ := i_l hm
      refine a_callV (k' := 0) (n' := 0) (st := []) X (c_X3_finding q30) yv_X3_finding ml_X3_32 rfl (Or.inl k21) ⟨by decide, by decide, by decide, by decide, Nat.le_of_ble_eq_true rfl⟩ rfl rfl dX3_target_25 rfl rfl ?_
      show At_ v g 3 h31 M 0 0 28 [(0, v_R (some a0)), (1, v_I x1), (2, v_R r23)] [v_I r32]
      refine a_goto (tgt := 38) X dX3_target_28 (by decide) ?_
      exact a_iret X hF ⟨(Prod.mk.inj (Option.some.inj hm)).1, rfl, (Prod.mk.inj (Option.some.inj hm)).2⟩ (by decide) dX3_target_38
  · refine a_aload_n X dX3_target_10 rfl ?_
    refine a_iconst (x := 2) X dX3_target_11 (by decide) ?_
    obtain ⟨h34, r35, q33, hm⟩ := i_l hm
    refine a_callV (k' := 0) (n' := 0) (st := []) X (c_X3_finding q33) yv_X3_finding ml_X3_32 rfl (Or.inl k21) ⟨by decide, by decide, by decide, by decide, Nat.le_of_ble_eq_true rfl⟩ rfl rfl dX3_target_12 rfl rfl ?_
    show At_ v g 3 h34 M 0 0 15 [(0, v_R (some a0)), (1, v_I x1), (2, v_R r23)] [v_I r35]
    exact a_iret X hF ⟨(Prod.mk.inj (Option.some.inj hm)).1, rfl, (Prod.mk.inj (Option.some.inj hm)).2⟩ (by decide) dX3_target_15
theorem c_X3_target {l : Launch} {g : Gvx} {h : Hpx} {M : Msx} {h' : Hpx} {r : Int32} {a0 : Nat} {x1 : Int32} (hm : f_X3_target h a0 x1 = some (h', r)) : Mt_ l g yX3_target cX3_target 3 ((some .int)) rm_X3_target [v_R (some a0), v_I x1] h M (some (v_I r)) h' M := mt_of (by decide) (Nat.le_of_ble_eq_true rfl) (fun v _ X hF => q_X3_target_0 X a0 hF h x1 hm)
theorem yv_X3_target : Yv_ yX3_target cX3_target 3 ((some .int)) 1 3 := ⟨rfl, by decide, ⟨by decide, by decide, by decide +kernel⟩, co_X3_target, im_X3_target, se_X3_target, ini_X3⟩

abbrev rm_X3_why : Room := { frames := 5, cells := 0, slots := 0, locals := 113 }
def f_X3_why (h : Hpx) (a0 : Nat) (x1 : Int32) : Option (Int32) :=
  (if h_k h a0 = 4 then
  (if (h_I h a0 11) = 0 then
  some (-2 : Int32)
  else (f_X3_readerAt h a0 x1).bind fun r24 =>
  (if r24 = none then
  some (-1 : Int32)
  else (f_X3_reasonOf h a0 r24).bind fun r27 =>
  some r27)) else none)
set_option maxHeartbeats 4000000 in
theorem q_X3_why_0 {v : Evx} {g : Gvx} {M : Msx} {r : Int32} (X : Cx_ v g cX3_why 3 RX3 "why" ((some .int)) rm_X3_why) (h : Hpx) (a0 : Nat) (hF : Fi_ v g rm_X3_why (some (v_I r)) h M) (x1 : Int32) (hm : f_X3_why h a0 x1 = some r) : At_ v g 3 h M 0 0 0 [(0, v_R (some a0)), (1, v_I x1)] [] := by
  unfold f_X3_why at hm
  refine a_aload_n X dX3_why_0 rfl ?_
  obtain ⟨k21, hm⟩ := i_c hm
  refine a_getI X 3 11 rfl k21 (by decide) rfl fl_X3_41 dX3_why_1 ?_
  refine a_if_ne (tgt := 10) X dX3_why_4 (by decide) hm (fun c22 hm => ?_) (fun c22 hm => ?_)
  · refine a_aload_n X dX3_why_10 rfl ?_
    refine a_iload_n X dX3_why_11 rfl ?_
    obtain ⟨r24, q23, hm⟩ := i_b hm
    refine a_callV (k' := 0) (n' := 0) (st := []) X (c_X3_readerAt q23) yv_X3_readerAt ml_X3_73 rfl (Or.inl k21) ⟨by decide, by decide, by decide, by decide, Nat.le_of_ble_eq_true rfl⟩ rfl rfl dX3_why_12 rfl rfl ?_
    show At_ v g 3 h M 0 0 15 [(0, v_R (some a0)), (1, v_I x1)] [v_R r24]
    refine a_astore_n (lv' := [(0, v_R (some a0)), (1, v_I x1), (2, v_R r24)]) X dX3_why_15 (by decide) rfl ?_
    refine a_aload_n X dX3_why_16 rfl ?_
    refine a_ifnonnull (tgt := 24) X dX3_why_17 (by decide) hm (fun c25 hm => ?_) (fun c25 hm => ?_)
    · refine a_aload_n X dX3_why_24 rfl ?_
      refine a_aload_n X dX3_why_25 rfl ?_
      obtain ⟨r27, q26, hm⟩ := i_b hm
      refine a_callV (k' := 0) (n' := 0) (st := []) X (c_X3_reasonOf q26) yv_X3_reasonOf ml_X3_231 rfl (Or.inl k21) ⟨by decide, by decide, by decide, by decide, Nat.le_of_ble_eq_true rfl⟩ rfl rfl dX3_why_26 rfl rfl ?_
      show At_ v g 3 h M 0 0 29 [(0, v_R (some a0)), (1, v_I x1), (2, v_R r24)] [v_I r27]
      exact a_iret X hF ⟨rfl, rfl, Option.some.inj hm⟩ (by decide) dX3_why_29
    · refine a_iconst (x := -1) X dX3_why_20 (by decide) ?_
      refine a_goto (tgt := 29) X dX3_why_21 (by decide) ?_
      exact a_iret X hF ⟨rfl, rfl, Option.some.inj hm⟩ (by decide) dX3_why_29
  · refine a_bipush (x := -2) X dX3_why_7 (by decide) ?_
    exact a_iret X hF ⟨rfl, rfl, Option.some.inj hm⟩ (by decide) dX3_why_9
theorem c_X3_why {l : Launch} {g : Gvx} {h : Hpx} {M : Msx} {r : Int32} {a0 : Nat} {x1 : Int32} (hm : f_X3_why h a0 x1 = some r) : Mt_ l g yX3_why cX3_why 3 ((some .int)) rm_X3_why [v_R (some a0), v_I x1] h M (some (v_I r)) h M := mt_of (by decide) (Nat.le_of_ble_eq_true rfl) (fun v _ X hF => q_X3_why_0 X h a0 hF x1 hm)
theorem yv_X3_why : Yv_ yX3_why cX3_why 3 ((some .int)) 1 3 := ⟨rfl, by decide, ⟨by decide, by decide, by decide +kernel⟩, co_X3_why, im_X3_why, se_X3_why, ini_X3⟩

abbrev rm_X3_on : Room := { frames := 5, cells := 0, slots := 0, locals := 113 }
def f_X3_on (h : Hpx) (a0 : Nat) (x1 : Int32) : Option (Int32) :=
  (if h_k h a0 = 4 then
  (f_X3_readerAt h a0 x1).bind fun r23 =>
  (if (h_I h a0 11) = 0 then
  some (-1 : Int32)
  else (if r23 = none then
  some (-1 : Int32)
  else (f_X3_reasonOf h a0 r23).bind fun r27 =>
  (if r27 = 3 then
  r23.bind fun a42 =>
  (if h_k h a42 = 2 then
  (f_X1_placeToRead h a42).bind fun r45 =>
  some r45 else none)
  else (if r27 = 4 then
  (f_X3_leastNamedBehind h a0 r23).bind fun r41 =>
  some r41
  else (if r27 = 5 then
  r23.bind fun a35 =>
  (if h_k h a35 = 2 then
  (if (h_R h a35 2) = none then
  some (-1 : Int32)
  else (h_R h a35 2).bind fun a38 =>
  (if h_k h a38 = 3 then
  some (h_I h a38 0) else none)) else none)
  else (if r27 = 6 then
  some (-1 : Int32)
  else (if r27 = 7 then
  (f_X3_leastLackingRing h a0 r23).bind fun r34 =>
  some r34
  else some (-1 : Int32)))))))) else none)
set_option maxHeartbeats 4000000 in
theorem q_X3_on_0 {v : Evx} {g : Gvx} {M : Msx} {r : Int32} (X : Cx_ v g cX3_on 3 RX3 "on" ((some .int)) rm_X3_on) (h : Hpx) (a0 : Nat) (hF : Fi_ v g rm_X3_on (some (v_I r)) h M) (x1 : Int32) (hm : f_X3_on h a0 x1 = some r) : At_ v g 3 h M 0 0 0 [(0, v_R (some a0)), (1, v_I x1)] [] := by
  unfold f_X3_on at hm
  refine a_aload_n X dX3_on_0 rfl ?_
  refine a_iload_n X dX3_on_1 rfl ?_
  obtain ⟨k21, hm⟩ := i_c hm
  obtain ⟨r23, q22, hm⟩ := i_b hm
  refine a_callV (k' := 0) (n' := 0) (st := []) X (c_X3_readerAt q22) yv_X3_readerAt ml_X3_73 rfl (Or.inl k21) ⟨by decide, by decide, by decide, by decide, Nat.le_of_ble_eq_true rfl⟩ rfl rfl dX3_on_2 rfl rfl ?_
  show At_ v g 3 h M 0 0 5 [(0, v_R (some a0)), (1, v_I x1)] [v_R r23]
  refine a_astore_n (lv' := [(0, v_R (some a0)), (1, v_I x1), (2, v_R r23)]) X dX3_on_5 (by decide) rfl ?_
  refine a_aload_n X dX3_on_6 rfl ?_
  refine a_getI X 3 11 rfl k21 (by decide) rfl fl_X3_41 dX3_on_7 ?_
  refine a_if_eq (tgt := 17) X dX3_on_10 (by decide) hm (fun c24 hm => ?_) (fun c24 hm => ?_)
  · refine a_iconst (x := -1) X dX3_on_17 (by decide) ?_
    exact a_iret X hF ⟨rfl, rfl, Option.some.inj hm⟩ (by decide) dX3_on_18
  · refine a_aload_n X dX3_on_13 rfl ?_
    refine a_ifnonnull (tgt := 19) X dX3_on_14 (by decide) hm (fun c25 hm => ?_) (fun c25 hm => ?_)
    · refine a_aload_n X dX3_on_19 rfl ?_
      refine a_aload_n X dX3_on_20 rfl ?_
      obtain ⟨r27, q26, hm⟩ := i_b hm
      refine a_callV (k' := 0) (n' := 0) (st := []) X (c_X3_reasonOf q26) yv_X3_reasonOf ml_X3_231 rfl (Or.inl k21) ⟨by decide, by decide, by decide, by decide, Nat.le_of_ble_eq_true rfl⟩ rfl rfl dX3_on_21 rfl rfl ?_
      show At_ v g 3 h M 0 0 24 [(0, v_R (some a0)), (1, v_I x1), (2, v_R r23)] [v_I r27]
      by_cases c28 : r27 = 3
      · have hm := i_p hm c28
        refine a_tsIn (c := 3) (off := 36) (tgt := 60) X dX3_on_24 c28 (by decide) (by decide) rfl (by decide) ?_
        refine a_aload_n X dX3_on_60 rfl ?_
        obtain ⟨a42, ea42, hm⟩ := i_b hm
        obtain ⟨k43, hm⟩ := i_c hm
        obtain ⟨r45, q44, hm⟩ := i_b hm
        refine a_callV (k' := 0) (n' := 0) (st := []) X (c_X1_placeToRead q44) yv_X1_placeToRead ml_X3_234 ea42 (Or.inl k43) ⟨by decide, by decide, by decide, by decide, Nat.le_of_ble_eq_true rfl⟩ rfl rfl dX3_on_61 rfl rfl ?_
        show At_ v g 3 h M 0 0 64 [(0, v_R (some a0)), (1, v_I x1), (2, v_R r23)] [v_I r45]
        exact a_iret X hF ⟨rfl, rfl, Option.some.inj hm⟩ (by decide) dX3_on_64
      · have hm := i_n hm c28
        by_cases c29 : r27 = 4
        · have hm := i_p hm c29
          refine a_tsIn (c := 4) (off := 41) (tgt := 65) X dX3_on_24 c29 (by decide) (by decide) rfl (by decide) ?_
          refine a_aload_n X dX3_on_65 rfl ?_
          refine a_aload_n X dX3_on_66 rfl ?_
          obtain ⟨r41, q40, hm⟩ := i_b hm
          refine a_callV (k' := 0) (n' := 0) (st := []) X (c_X3_leastNamedBehind q40) yv_X3_leastNamedBehind ml_X3_237 rfl (Or.inl k21) ⟨by decide, by decide, by decide, by decide, Nat.le_of_ble_eq_true rfl⟩ rfl rfl dX3_on_67 rfl rfl ?_
          show At_ v g 3 h M 0 0 70 [(0, v_R (some a0)), (1, v_I x1), (2, v_R r23)] [v_I r41]
          exact a_iret X hF ⟨rfl, rfl, Option.some.inj hm⟩ (by decide) dX3_on_70
        · have hm := i_n hm c29
          by_cases c30 : r27 = 5
          · have hm := i_p hm c30
            refine a_tsIn (c := 5) (off := 47) (tgt := 71) X dX3_on_24 c30 (by decide) (by decide) rfl (by decide) ?_
            refine a_aload_n X dX3_on_71 rfl ?_
            obtain ⟨a35, ea35, hm⟩ := i_b hm
            obtain ⟨k36, hm⟩ := i_c hm
            refine a_getR X 1 2 ea35 k36 (by decide) rfl fl_X3_228 dX3_on_72 ?_
            refine a_ifnonnull (tgt := 82) X dX3_on_75 (by decide) hm (fun c37 hm => ?_) (fun c37 hm => ?_)
            · refine a_aload_n X dX3_on_82 rfl ?_
              refine a_getR X 1 2 ea35 k36 (by decide) rfl fl_X3_228 dX3_on_83 ?_
              obtain ⟨a38, ea38, hm⟩ := i_b hm
              obtain ⟨k39, hm⟩ := i_c hm
              refine a_getI X 2 0 ea38 k39 (by decide) rfl fl_X3_98 dX3_on_86 ?_
              exact a_iret X hF ⟨rfl, rfl, Option.some.inj hm⟩ (by decide) dX3_on_89
            · refine a_iconst (x := -1) X dX3_on_78 (by decide) ?_
              refine a_goto (tgt := 89) X dX3_on_79 (by decide) ?_
              exact a_iret X hF ⟨rfl, rfl, Option.some.inj hm⟩ (by decide) dX3_on_89
          · have hm := i_n hm c30
            by_cases c31 : r27 = 6
            · have hm := i_p hm c31
              refine a_tsIn (c := 6) (off := 72) (tgt := 96) X dX3_on_24 c31 (by decide) (by decide) rfl (by decide) ?_
              refine a_iconst (x := -1) X dX3_on_96 (by decide) ?_
              exact a_iret X hF ⟨rfl, rfl, Option.some.inj hm⟩ (by decide) dX3_on_97
            · have hm := i_n hm c31
              by_cases c32 : r27 = 7
              · have hm := i_p hm c32
                refine a_tsIn (c := 7) (off := 66) (tgt := 90) X dX3_on_24 c32 (by decide) (by decide) rfl (by decide) ?_
                refine a_aload_n X dX3_on_90 rfl ?_
                refine a_aload_n X dX3_on_91 rfl ?_
                obtain ⟨r34, q33, hm⟩ := i_b hm
                refine a_callV (k' := 0) (n' := 0) (st := []) X (c_X3_leastLackingRing q33) yv_X3_leastLackingRing ml_X3_240 rfl (Or.inl k21) ⟨by decide, by decide, by decide, by decide, Nat.le_of_ble_eq_true rfl⟩ rfl rfl dX3_on_92 rfl rfl ?_
                show At_ v g 3 h M 0 0 95 [(0, v_R (some a0)), (1, v_I x1), (2, v_R r23)] [v_I r34]
                exact a_iret X hF ⟨rfl, rfl, Option.some.inj hm⟩ (by decide) dX3_on_95
              · have hm := i_n hm c32
                have wc28 : ¬ (r27).toInt = 3 := lv_neT c28 rfl
                have wc29 : ¬ (r27).toInt = 4 := lv_neT c29 rfl
                have wc30 : ¬ (r27).toInt = 5 := lv_neT c30 rfl
                have wc31 : ¬ (r27).toInt = 6 := lv_neT c31 rfl
                have wc32 : ¬ (r27).toInt = 7 := lv_neT c32 rfl
                refine a_tsOut (tgt := 96) X dX3_on_24 (by omega) (by decide) ?_
                refine a_iconst (x := -1) X dX3_on_96 (by decide) ?_
                exact a_iret X hF ⟨rfl, rfl, Option.some.inj hm⟩ (by decide) dX3_on_97
    · refine a_iconst (x := -1) X dX3_on_17 (by decide) ?_
      exact a_iret X hF ⟨rfl, rfl, Option.some.inj hm⟩ (by decide) dX3_on_18
theorem c_X3_on {l : Launch} {g : Gvx} {h : Hpx} {M : Msx} {r : Int32} {a0 : Nat} {x1 : Int32} (hm : f_X3_on h a0 x1 = some r) : Mt_ l g yX3_on cX3_on 3 ((some .int)) rm_X3_on [v_R (some a0), v_I x1] h M (some (v_I r)) h M := mt_of (by decide) (Nat.le_of_ble_eq_true rfl) (fun v _ X hF => q_X3_on_0 X h a0 hF x1 hm)
theorem yv_X3_on : Yv_ yX3_on cX3_on 3 ((some .int)) 1 3 := ⟨rfl, by decide, ⟨by decide, by decide, by decide +kernel⟩, co_X3_on, im_X3_on, se_X3_on, ini_X3⟩

abbrev rm_X3_isAnyReady : Room := { frames := 5, cells := 0, slots := 0, locals := 113 }
def j_X3_isAnyReady_2 (h : Hpx) (a0 : Nat) (rec_2 : Int32 → Option (Int32)) (x1 : Int32) : Option (Int32) :=
  (if (16 : Int32) ≤ x1 then
  some (0 : Int32)
  else (if h_k h a0 = 4 then
  (f_X3_readerAt h a0 x1).bind fun r24 =>
  (if r24 = none then
  rec_2 (x1 + (1 : Int32))
  else (f_X3_reasonOf h a0 r24).bind fun r27 =>
  (if r27 = 0 then
  some (1 : Int32)
  else rec_2 (x1 + (1 : Int32)))) else none))
set_option maxHeartbeats 4000000 in
theorem q_X3_isAnyReady_2 {v : Evx} {g : Gvx} {M : Msx} {r : Int32} (X : Cx_ v g cX3_isAnyReady 3 RX3 "isAnyReady" ((some .boolean)) rm_X3_isAnyReady) (h : Hpx) (a0 : Nat) (hF : Fi_ v g rm_X3_isAnyReady (some (v_I r)) h M) (rec_2 : Int32 → Option (Int32)) (hr_2 : ∀ (x1 : Int32), rec_2 x1 = some r → At_ v g 3 h M 0 0 2 [(0, v_R (some a0)), (1, v_I x1)] []) (x1 : Int32) (hm : j_X3_isAnyReady_2 h a0 rec_2 x1 = some r) : At_ v g 3 h M 0 0 2 [(0, v_R (some a0)), (1, v_I x1)] [] := by
  unfold j_X3_isAnyReady_2 at hm
  refine a_iload_n X dX3_isAnyReady_2 rfl ?_
  refine a_bipush (x := 16) X dX3_isAnyReady_3 (by decide) ?_
  refine a_icmp_ge (tgt := 34) X dX3_isAnyReady_5 (by decide) hm (fun c21 hm => ?_) (fun c21 hm => ?_)
  · refine a_iconst (x := 0) X dX3_isAnyReady_34 (by decide) ?_
    exact a_zret X hF (Or.inl rfl) ⟨rfl, rfl, Option.some.inj hm⟩ (by decide) dX3_isAnyReady_35
  · refine a_aload_n X dX3_isAnyReady_8 rfl ?_
    refine a_iload_n X dX3_isAnyReady_9 rfl ?_
    obtain ⟨k22, hm⟩ := i_c hm
    obtain ⟨r24, q23, hm⟩ := i_b hm
    refine a_callV (k' := 0) (n' := 0) (st := []) X (c_X3_readerAt q23) yv_X3_readerAt ml_X3_73 rfl (Or.inl k22) ⟨by decide, by decide, by decide, by decide, Nat.le_of_ble_eq_true rfl⟩ rfl rfl dX3_isAnyReady_10 rfl rfl ?_
    show At_ v g 3 h M 0 0 13 [(0, v_R (some a0)), (1, v_I x1)] [v_R r24]
    refine a_astore_n (lv' := [(0, v_R (some a0)), (1, v_I x1), (2, v_R r24)]) X dX3_isAnyReady_13 (by decide) rfl ?_
    refine a_aload_n X dX3_isAnyReady_14 rfl ?_
    refine a_ifnull (tgt := 28) X dX3_isAnyReady_15 (by decide) hm (fun c25 hm => ?_) (fun c25 hm => ?_)
    · refine a_iinc (y := x1 + (1 : Int32)) (lv' := [(0, v_R (some a0)), (1, v_I (x1 + (1 : Int32))), (2, v_R r24)]) X dX3_isAnyReady_28 rfl rfl (by decide) rfl ?_
      refine a_goto (tgt := 2) X dX3_isAnyReady_31 (by decide) ?_
      refine a_pick (lv' := [(0, v_R (some a0)), (1, v_I (x1 + (1 : Int32)))]) [0, 1] rfl ?_
      exact hr_2 (x1 + (1 : Int32)) hm
    · refine a_aload_n X dX3_isAnyReady_18 rfl ?_
      refine a_aload_n X dX3_isAnyReady_19 rfl ?_
      obtain ⟨r27, q26, hm⟩ := i_b hm
      refine a_callV (k' := 0) (n' := 0) (st := []) X (c_X3_reasonOf q26) yv_X3_reasonOf ml_X3_231 rfl (Or.inl k22) ⟨by decide, by decide, by decide, by decide, Nat.le_of_ble_eq_true rfl⟩ rfl rfl dX3_isAnyReady_20 rfl rfl ?_
      show At_ v g 3 h M 0 0 23 [(0, v_R (some a0)), (1, v_I x1), (2, v_R r24)] [v_I r27]
      refine a_if_ne (tgt := 28) X dX3_isAnyReady_23 (by decide) hm (fun c28 hm => ?_) (fun c28 hm => ?_)
      · refine a_iinc (y := x1 + (1 : Int32)) (lv' := [(0, v_R (some a0)), (1, v_I (x1 + (1 : Int32))), (2, v_R r24)]) X dX3_isAnyReady_28 rfl rfl (by decide) rfl ?_
        refine a_goto (tgt := 2) X dX3_isAnyReady_31 (by decide) ?_
        refine a_pick (lv' := [(0, v_R (some a0)), (1, v_I (x1 + (1 : Int32)))]) [0, 1] rfl ?_
        exact hr_2 (x1 + (1 : Int32)) hm
      · refine a_iconst (x := 1) X dX3_isAnyReady_26 (by decide) ?_
        exact a_zret X hF (Or.inr rfl) ⟨rfl, rfl, Option.some.inj hm⟩ (by decide) dX3_isAnyReady_27
def l_X3_isAnyReady_2 (h : Hpx) (a0 : Nat) (n : Nat) : Int32 → Option (Int32) := lp_ (fun rec_2 => j_X3_isAnyReady_2 h a0 rec_2) (fun _ => none) n
theorem ql_X3_isAnyReady_2 {v : Evx} {g : Gvx} {M : Msx} {r : Int32} (X : Cx_ v g cX3_isAnyReady 3 RX3 "isAnyReady" ((some .boolean)) rm_X3_isAnyReady) (h : Hpx) (a0 : Nat) (hF : Fi_ v g rm_X3_isAnyReady (some (v_I r)) h M) : ∀ (n : Nat) (x1 : Int32), l_X3_isAnyReady_2 h a0 n x1 = some r → At_ v g 3 h M 0 0 2 [(0, v_R (some a0)), (1, v_I x1)] [] := by
  intro n
  induction n with
  | zero => intro x1 hm; cases hm
  | succ n ih =>
    intro x1 hm
    exact q_X3_isAnyReady_2 X h a0 hF (l_X3_isAnyReady_2 h a0 n) ih x1 hm
def f_X3_isAnyReady (h : Hpx) (a0 : Nat) : Option (Int32) :=
  l_X3_isAnyReady_2 h a0 70 (0 : Int32)
set_option maxHeartbeats 4000000 in
theorem q_X3_isAnyReady_0 {v : Evx} {g : Gvx} {M : Msx} {r : Int32} (X : Cx_ v g cX3_isAnyReady 3 RX3 "isAnyReady" ((some .boolean)) rm_X3_isAnyReady) (h : Hpx) (a0 : Nat) (hF : Fi_ v g rm_X3_isAnyReady (some (v_I r)) h M) (hm : f_X3_isAnyReady h a0 = some r) : At_ v g 3 h M 0 0 0 [(0, v_R (some a0))] [] := by
  unfold f_X3_isAnyReady at hm
  refine a_iconst (x := 0) X dX3_isAnyReady_0 (by decide) ?_
  refine a_istore_n (lv' := [(0, v_R (some a0)), (1, v_I (0 : Int32))]) X dX3_isAnyReady_1 (by decide) rfl ?_
  exact ql_X3_isAnyReady_2 X h a0 hF 70 (0 : Int32) hm
theorem c_X3_isAnyReady {l : Launch} {g : Gvx} {h : Hpx} {M : Msx} {r : Int32} {a0 : Nat} (hm : f_X3_isAnyReady h a0 = some r) : Mt_ l g yX3_isAnyReady cX3_isAnyReady 3 ((some .boolean)) rm_X3_isAnyReady [v_R (some a0)] h M (some (v_I r)) h M := mt_of (by decide) (Nat.le_of_ble_eq_true rfl) (fun v _ X hF => q_X3_isAnyReady_0 X h a0 hF hm)
theorem yv_X3_isAnyReady : Yv_ yX3_isAnyReady cX3_isAnyReady 3 ((some .boolean)) 0 3 := ⟨rfl, by decide, ⟨by decide, by decide, by decide +kernel⟩, co_X3_isAnyReady, im_X3_isAnyReady, se_X3_isAnyReady, ini_X3⟩

abbrev rm_X3_stuck : Room := { frames := 6, cells := 0, slots := 0, locals := 135 }
def j_X3_stuck_20 (h : Hpx) (a0 : Nat) (rec_20 : Int32 → Int32 → Option (Int32)) (x1 : Int32) (x2 : Int32) : Option (Int32) :=
  (if (8 : Int32) ≤ x2 then
  (if x1 = 0 ∨ x1 = 1 then
  some x1 else none)
  else (if h_k h a0 = 4 then
  (f_X3_ringAt h a0 x2).bind fun r30 =>
  (if r30 = none then
  rec_20 x1 (x2 + (1 : Int32))
  else r30.bind fun a32 =>
  (if h_k h a32 = 3 then
  (f_X2_isLive h a32).bind fun r35 =>
  (if r35 = 0 then
  rec_20 x1 (x2 + (1 : Int32))
  else (f_X3_isHeldUp h a0 r30 (h_I h a32 3)).bind fun r38 =>
  (if r38 = 0 then
  some (0 : Int32)
  else rec_20 (1 : Int32) (x2 + (1 : Int32)))) else none)) else none))
set_option maxHeartbeats 4000000 in
theorem q_X3_stuck_20 {v : Evx} {g : Gvx} {M : Msx} {r : Int32} (X : Cx_ v g cX3_stuck 4 RX3 "stuck" ((some .boolean)) rm_X3_stuck) (h : Hpx) (a0 : Nat) (hF : Fi_ v g rm_X3_stuck (some (v_I r)) h M) (rec_20 : Int32 → Int32 → Option (Int32)) (hr_20 : ∀ (x1 : Int32) (x2 : Int32), rec_20 x1 x2 = some r → At_ v g 4 h M 0 0 20 [(0, v_R (some a0)), (1, v_I x1), (2, v_I x2)] []) (x1 : Int32) (x2 : Int32) (hm : j_X3_stuck_20 h a0 rec_20 x1 x2 = some r) : At_ v g 4 h M 0 0 20 [(0, v_R (some a0)), (1, v_I x1), (2, v_I x2)] [] := by
  unfold j_X3_stuck_20 at hm
  refine a_iload_n X dX3_stuck_20 rfl ?_
  refine a_bipush (x := 8) X dX3_stuck_21 (by decide) ?_
  refine a_icmp_ge (tgt := 65) X dX3_stuck_23 (by decide) hm (fun c26 hm => ?_) (fun c26 hm => ?_)
  · refine a_iload_n X dX3_stuck_65 rfl ?_
    obtain ⟨b27, hm⟩ := i_c hm
    exact a_zret X hF b27 ⟨rfl, rfl, Option.some.inj hm⟩ (by decide) dX3_stuck_66
  · refine a_aload_n X dX3_stuck_26 rfl ?_
    refine a_iload_n X dX3_stuck_27 rfl ?_
    obtain ⟨k28, hm⟩ := i_c hm
    obtain ⟨r30, q29, hm⟩ := i_b hm
    refine a_callV (k' := 0) (n' := 0) (st := []) X (c_X3_ringAt q29) yv_X3_ringAt ml_X3_54 rfl (Or.inl k28) ⟨by decide, by decide, by decide, by decide, Nat.le_of_ble_eq_true rfl⟩ rfl rfl dX3_stuck_28 rfl rfl ?_
    show At_ v g 4 h M 0 0 31 [(0, v_R (some a0)), (1, v_I x1), (2, v_I x2)] [v_R r30]
    refine a_astore_n (lv' := [(0, v_R (some a0)), (1, v_I x1), (2, v_I x2), (3, v_R r30)]) X dX3_stuck_31 (by decide) rfl ?_
    refine a_aload_n X dX3_stuck_32 rfl ?_
    refine a_ifnull (tgt := 59) X dX3_stuck_33 (by decide) hm (fun c31 hm => ?_) (fun c31 hm => ?_)
    · refine a_iinc (y := x2 + (1 : Int32)) (lv' := [(0, v_R (some a0)), (1, v_I x1), (2, v_I (x2 + (1 : Int32))), (3, v_R r30)]) X dX3_stuck_59 rfl rfl (by decide) rfl ?_
      refine a_goto (tgt := 20) X dX3_stuck_62 (by decide) ?_
      refine a_pick (lv' := [(0, v_R (some a0)), (1, v_I x1), (2, v_I (x2 + (1 : Int32)))]) [0, 1, 2] rfl ?_
      exact hr_20 x1 (x2 + (1 : Int32)) hm
    · refine a_aload_n X dX3_stuck_36 rfl ?_
      obtain ⟨a32, ea32, hm⟩ := i_b hm
      obtain ⟨k33, hm⟩ := i_c hm
      obtain ⟨r35, q34, hm⟩ := i_b hm
      refine a_callV (k' := 0) (n' := 0) (st := []) X (c_X2_isLive q34) yv_X2_isLive ml_X3_246 ea32 (Or.inl k33) ⟨by decide, by decide, by decide, by decide, Nat.le_of_ble_eq_true rfl⟩ rfl rfl dX3_stuck_37 rfl rfl ?_
      show At_ v g 4 h M 0 0 40 [(0, v_R (some a0)), (1, v_I x1), (2, v_I x2), (3, v_R r30)] [v_I r35]
      refine a_if_eq (tgt := 59) X dX3_stuck_40 (by decide) hm (fun c36 hm => ?_) (fun c36 hm => ?_)
      · refine a_iinc (y := x2 + (1 : Int32)) (lv' := [(0, v_R (some a0)), (1, v_I x1), (2, v_I (x2 + (1 : Int32))), (3, v_R r30)]) X dX3_stuck_59 rfl rfl (by decide) rfl ?_
        refine a_goto (tgt := 20) X dX3_stuck_62 (by decide) ?_
        refine a_pick (lv' := [(0, v_R (some a0)), (1, v_I x1), (2, v_I (x2 + (1 : Int32)))]) [0, 1, 2] rfl ?_
        exact hr_20 x1 (x2 + (1 : Int32)) hm
      · refine a_iconst (x := 1) X dX3_stuck_43 (by decide) ?_
        refine a_istore_n (lv' := [(0, v_R (some a0)), (1, v_I (1 : Int32)), (2, v_I x2), (3, v_R r30)]) X dX3_stuck_44 (by decide) rfl ?_
        refine a_aload_n X dX3_stuck_45 rfl ?_
        refine a_aload_n X dX3_stuck_46 rfl ?_
        refine a_aload_n X dX3_stuck_47 rfl ?_
        refine a_getI X 2 3 ea32 k33 (by decide) rfl fl_X3_162 dX3_stuck_48 ?_
        obtain ⟨r38, q37, hm⟩ := i_b hm
        refine a_callV (k' := 0) (n' := 0) (st := []) X (c_X3_isHeldUp q37) yv_X3_isHeldUp ml_X3_179 rfl (Or.inl k28) ⟨by decide, by decide, by decide, by decide, Nat.le_of_ble_eq_true rfl⟩ rfl rfl dX3_stuck_51 rfl rfl ?_
        show At_ v g 4 h M 0 0 54 [(0, v_R (some a0)), (1, v_I (1 : Int32)), (2, v_I x2), (3, v_R r30)] [v_I r38]
        refine a_if_ne (tgt := 59) X dX3_stuck_54 (by decide) hm (fun c39 hm => ?_) (fun c39 hm => ?_)
        · refine a_iinc (y := x2 + (1 : Int32)) (lv' := [(0, v_R (some a0)), (1, v_I (1 : Int32)), (2, v_I (x2 + (1 : Int32))), (3, v_R r30)]) X dX3_stuck_59 rfl rfl (by decide) rfl ?_
          refine a_goto (tgt := 20) X dX3_stuck_62 (by decide) ?_
          refine a_pick (lv' := [(0, v_R (some a0)), (1, v_I (1 : Int32)), (2, v_I (x2 + (1 : Int32)))]) [0, 1, 2] rfl ?_
          exact hr_20 (1 : Int32) (x2 + (1 : Int32)) hm
        · refine a_iconst (x := 0) X dX3_stuck_57 (by decide) ?_
          exact a_zret X hF (Or.inl rfl) ⟨rfl, rfl, Option.some.inj hm⟩ (by decide) dX3_stuck_58
def l_X3_stuck_20 (h : Hpx) (a0 : Nat) (n : Nat) : Int32 → Int32 → Option (Int32) := lp_ (fun rec_20 => j_X3_stuck_20 h a0 rec_20) (fun _ _ => none) n
theorem ql_X3_stuck_20 {v : Evx} {g : Gvx} {M : Msx} {r : Int32} (X : Cx_ v g cX3_stuck 4 RX3 "stuck" ((some .boolean)) rm_X3_stuck) (h : Hpx) (a0 : Nat) (hF : Fi_ v g rm_X3_stuck (some (v_I r)) h M) : ∀ (n : Nat) (x1 : Int32) (x2 : Int32), l_X3_stuck_20 h a0 n x1 x2 = some r → At_ v g 4 h M 0 0 20 [(0, v_R (some a0)), (1, v_I x1), (2, v_I x2)] [] := by
  intro n
  induction n with
  | zero => intro x1 x2 hm; cases hm
  | succ n ih =>
    intro x1 x2 hm
    exact q_X3_stuck_20 X h a0 hF (l_X3_stuck_20 h a0 n) ih x1 x2 hm
def f_X3_stuck (h : Hpx) (a0 : Nat) : Option (Int32) :=
  (if h_k h a0 = 4 then
  (if (h_I h a0 11) = 0 then
  some (0 : Int32)
  else (f_X3_isAnyReady h a0).bind fun r24 =>
  (if r24 = 0 then
  l_X3_stuck_20 h a0 70 (0 : Int32) (0 : Int32)
  else some (0 : Int32))) else none)
set_option maxHeartbeats 4000000 in
theorem q_X3_stuck_0 {v : Evx} {g : Gvx} {M : Msx} {r : Int32} (X : Cx_ v g cX3_stuck 4 RX3 "stuck" ((some .boolean)) rm_X3_stuck) (h : Hpx) (a0 : Nat) (hF : Fi_ v g rm_X3_stuck (some (v_I r)) h M) (hm : f_X3_stuck h a0 = some r) : At_ v g 4 h M 0 0 0 [(0, v_R (some a0))] [] := by
  unfold f_X3_stuck at hm
  refine a_aload_n X dX3_stuck_0 rfl ?_
  obtain ⟨k21, hm⟩ := i_c hm
  refine a_getI X 3 11 rfl k21 (by decide) rfl fl_X3_41 dX3_stuck_1 ?_
  refine a_if_eq (tgt := 14) X dX3_stuck_4 (by decide) hm (fun c22 hm => ?_) (fun c22 hm => ?_)
  · refine a_iconst (x := 0) X dX3_stuck_14 (by decide) ?_
    exact a_zret X hF (Or.inl rfl) ⟨rfl, rfl, Option.some.inj hm⟩ (by decide) dX3_stuck_15
  · refine a_aload_n X dX3_stuck_7 rfl ?_
    obtain ⟨r24, q23, hm⟩ := i_b hm
    refine a_callV (k' := 0) (n' := 0) (st := []) X (c_X3_isAnyReady q23) yv_X3_isAnyReady ml_X3_243 rfl (Or.inl k21) ⟨by decide, by decide, by decide, by decide, Nat.le_of_ble_eq_true rfl⟩ rfl rfl dX3_stuck_8 rfl rfl ?_
    show At_ v g 4 h M 0 0 11 [(0, v_R (some a0))] [v_I r24]
    refine a_if_eq (tgt := 16) X dX3_stuck_11 (by decide) hm (fun c25 hm => ?_) (fun c25 hm => ?_)
    · refine a_iconst (x := 0) X dX3_stuck_16 (by decide) ?_
      refine a_istore_n (lv' := [(0, v_R (some a0)), (1, v_I (0 : Int32))]) X dX3_stuck_17 (by decide) rfl ?_
      refine a_iconst (x := 0) X dX3_stuck_18 (by decide) ?_
      refine a_istore_n (lv' := [(0, v_R (some a0)), (1, v_I (0 : Int32)), (2, v_I (0 : Int32))]) X dX3_stuck_19 (by decide) rfl ?_
      exact ql_X3_stuck_20 X h a0 hF 70 (0 : Int32) (0 : Int32) hm
    · refine a_iconst (x := 0) X dX3_stuck_14 (by decide) ?_
      exact a_zret X hF (Or.inl rfl) ⟨rfl, rfl, Option.some.inj hm⟩ (by decide) dX3_stuck_15
theorem c_X3_stuck {l : Launch} {g : Gvx} {h : Hpx} {M : Msx} {r : Int32} {a0 : Nat} (hm : f_X3_stuck h a0 = some r) : Mt_ l g yX3_stuck cX3_stuck 4 ((some .boolean)) rm_X3_stuck [v_R (some a0)] h M (some (v_I r)) h M := mt_of (by decide) (Nat.le_of_ble_eq_true rfl) (fun v _ X hF => q_X3_stuck_0 X h a0 hF hm)
theorem yv_X3_stuck : Yv_ yX3_stuck cX3_stuck 4 ((some .boolean)) 0 3 := ⟨rfl, by decide, ⟨by decide, by decide, by decide +kernel⟩, co_X3_stuck, im_X3_stuck, se_X3_stuck, ini_X3⟩

abbrev rm_X3_found : Room := { frames := 0, cells := 0, slots := 0, locals := 0 }
def f_X3_found (h : Hpx) (a0 : Nat) (x1 : Int32) : Option (Int32) :=
  (if x1 = 0 then
  (if h_k h a0 = 4 then
  some (h_I h a0 7) else none)
  else (if x1 < (1 : Int32) then
  some (-1 : Int32)
  else (if (6 : Int32) < x1 then
  some (-1 : Int32)
  else (if h_k h a0 = 4 then
  (h_R h a0 2).bind fun a25 =>
  (if h_k h a25 = 6 then
  (if in_b x1 (h_n h a25) = true then
  some (h_I h a25 x1.toNatClampNeg) else none) else none) else none))))
set_option maxHeartbeats 4000000 in
theorem q_X3_found_0 {v : Evx} {g : Gvx} {M : Msx} {r : Int32} (X : Cx_ v g cX3_found 2 RX3 "found" ((some .int)) rm_X3_found) (h : Hpx) (a0 : Nat) (hF : Fi_ v g rm_X3_found (some (v_I r)) h M) (x1 : Int32) (hm : f_X3_found h a0 x1 = some r) : At_ v g 2 h M 0 0 0 [(0, v_R (some a0)), (1, v_I x1)] [] := by
  unfold f_X3_found at hm
  refine a_iload_n X dX3_found_0 rfl ?_
  refine a_if_ne (tgt := 9) X dX3_found_1 (by decide) hm (fun c21 hm => ?_) (fun c21 hm => ?_)
  · refine a_iload_n X dX3_found_9 rfl ?_
    refine a_iconst (x := 1) X dX3_found_10 (by decide) ?_
    refine a_icmp_lt (tgt := 29) X dX3_found_11 (by decide) hm (fun c22 hm => ?_) (fun c22 hm => ?_)
    · refine a_iconst (x := -1) X dX3_found_29 (by decide) ?_
      exact a_iret X hF ⟨rfl, rfl, Option.some.inj hm⟩ (by decide) dX3_found_30
    · refine a_iload_n X dX3_found_14 rfl ?_
      refine a_bipush (x := 6) X dX3_found_15 (by decide) ?_
      refine a_icmp_gt (tgt := 29) X dX3_found_17 (by decide) hm (fun c23 hm => ?_) (fun c23 hm => ?_)
      · refine a_iconst (x := -1) X dX3_found_29 (by decide) ?_
        exact a_iret X hF ⟨rfl, rfl, Option.some.inj hm⟩ (by decide) dX3_found_30
      · refine a_aload_n X dX3_found_20 rfl ?_
        obtain ⟨k24, hm⟩ := i_c hm
        refine a_getR X 3 2 rfl k24 (by decide) rfl fl_X3_21 dX3_found_21 ?_
        refine a_iload_n X dX3_found_24 rfl ?_
        obtain ⟨a25, ea25, hm⟩ := i_b hm
        obtain ⟨k26, hm⟩ := i_c hm
        obtain ⟨b27, hm⟩ := i_c hm
        refine a_iald X ea25 k26 b27 dX3_found_25 ?_
        refine a_goto (tgt := 30) X dX3_found_26 (by decide) ?_
        exact a_iret X hF ⟨rfl, rfl, Option.some.inj hm⟩ (by decide) dX3_found_30
  · refine a_aload_n X dX3_found_4 rfl ?_
    obtain ⟨k28, hm⟩ := i_c hm
    refine a_getI X 3 7 rfl k28 (by decide) rfl fl_X3_249 dX3_found_5 ?_
    exact a_iret X hF ⟨rfl, rfl, Option.some.inj hm⟩ (by decide) dX3_found_8
theorem c_X3_found {l : Launch} {g : Gvx} {h : Hpx} {M : Msx} {r : Int32} {a0 : Nat} {x1 : Int32} (hm : f_X3_found h a0 x1 = some r) : Mt_ l g yX3_found cX3_found 2 ((some .int)) rm_X3_found [v_R (some a0), v_I x1] h M (some (v_I r)) h M := mt_of (by decide) (Nat.le_of_ble_eq_true rfl) (fun v _ X hF => q_X3_found_0 X h a0 hF x1 hm)
theorem yv_X3_found : Yv_ yX3_found cX3_found 2 ((some .int)) 1 3 := ⟨rfl, by decide, ⟨by decide, by decide, by decide +kernel⟩, co_X3_found, im_X3_found, se_X3_found, ini_X3⟩
