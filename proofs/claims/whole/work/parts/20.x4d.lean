abbrev rm_X4_stuck : Room := { frames := 6, cells := 0, slots := 0, locals := 139 }
def j_X4_stuck_43 (M : Msx) (rec_43 : Int32 → Int32 → Int32 → Option (Int32)) (x1 : Int32) (x2 : Int32) (x3 : Int32) : Option (Int32) :=
  (if (m_I M 0 0) ≤ x3 then
  (if x1 = 0 then
  some (0 : Int32)
  else (if x2 = 0 then
  some (0 : Int32)
  else some (1 : Int32)))
  else (if in_b x3 8 = true then
  (if (m_I M 3 x3.toNatClampNeg) = 0 then
  (if x1 = 0 then
  rec_43 (0 : Int32) (1 : Int32) (x3 + (1 : Int32))
  else (f_X4_isHeldUp M x3).bind fun r33 =>
  (if r33 = 0 then
  rec_43 (0 : Int32) (1 : Int32) (x3 + (1 : Int32))
  else rec_43 (1 : Int32) (1 : Int32) (x3 + (1 : Int32))))
  else rec_43 x1 x2 (x3 + (1 : Int32))) else none))
set_option maxHeartbeats 4000000 in
theorem q_X4_stuck_43 {v : Evx} {g : Gvx} {h : Hpx} {r : Int32} (X : Cx_ v g cX4_stuck 4 RX4 "stuck" ((some .boolean)) rm_X4_stuck) (hMR : MR_ h) (M : Msx) (hF : Fi_ v g rm_X4_stuck (some (v_I r)) h M) (rec_43 : Int32 → Int32 → Int32 → Option (Int32)) (hr_43 : ∀ (x1 : Int32) (x2 : Int32) (x3 : Int32), rec_43 x1 x2 x3 = some r → At_ v g 4 h M 0 0 43 [(0, v_R (some 5)), (1, v_I x1), (2, v_I x2), (3, v_I x3)] []) (x1 : Int32) (x2 : Int32) (x3 : Int32) (hm : j_X4_stuck_43 M rec_43 x1 x2 x3 = some r) : At_ v g 4 h M 0 0 43 [(0, v_R (some 5)), (1, v_I x1), (2, v_I x2), (3, v_I x3)] [] := by
  unfold j_X4_stuck_43 at hm
  refine a_iload_n X dX4_stuck_43 rfl ?_
  refine a_aload_n X dX4_stuck_44 rfl ?_
  refine a_mgetI X hMR 0 (by decide) rfl fl_X4_121 dX4_stuck_45 ?_
  refine a_icmp_ge (tgt := 86) X dX4_stuck_48 (by decide) hm (fun c26 hm => ?_) (fun c26 hm => ?_)
  · refine a_iload_n X dX4_stuck_86 rfl ?_
    refine a_if_eq (tgt := 98) X dX4_stuck_87 (by decide) hm (fun c27 hm => ?_) (fun c27 hm => ?_)
    · refine a_iconst (x := 0) X dX4_stuck_98 (by decide) ?_
      exact a_zret X hF (Or.inl rfl) ⟨rfl, rfl, Option.some.inj hm⟩ (by decide) dX4_stuck_99
    · refine a_iload_n X dX4_stuck_90 rfl ?_
      refine a_if_eq (tgt := 98) X dX4_stuck_91 (by decide) hm (fun c28 hm => ?_) (fun c28 hm => ?_)
      · refine a_iconst (x := 0) X dX4_stuck_98 (by decide) ?_
        exact a_zret X hF (Or.inl rfl) ⟨rfl, rfl, Option.some.inj hm⟩ (by decide) dX4_stuck_99
      · refine a_iconst (x := 1) X dX4_stuck_94 (by decide) ?_
        refine a_goto (tgt := 99) X dX4_stuck_95 (by decide) ?_
        exact a_zret X hF (Or.inr rfl) ⟨rfl, rfl, Option.some.inj hm⟩ (by decide) dX4_stuck_99
  · refine a_aload_n X dX4_stuck_51 rfl ?_
    refine a_mgetA X hMR 3 (by decide) rfl rfl fl_X4_16 dX4_stuck_52 ?_
    refine a_iload_n X dX4_stuck_55 rfl ?_
    obtain ⟨b29, hm⟩ := i_c hm
    refine a_maldI X hMR 3 (by decide) rfl rfl rfl b29 dX4_stuck_56 ?_
    refine a_if_ne (tgt := 80) X dX4_stuck_57 (by decide) hm (fun c30 hm => ?_) (fun c30 hm => ?_)
    · refine a_iinc (y := x3 + (1 : Int32)) (lv' := [(0, v_R (some 5)), (1, v_I x1), (2, v_I x2), (3, v_I (x3 + (1 : Int32)))]) X dX4_stuck_80 rfl rfl (by decide) rfl ?_
      refine a_goto (tgt := 43) X dX4_stuck_83 (by decide) ?_
      exact hr_43 x1 x2 (x3 + (1 : Int32)) hm
    · refine a_iconst (x := 1) X dX4_stuck_60 (by decide) ?_
      refine a_istore_n (lv' := [(0, v_R (some 5)), (1, v_I x1), (2, v_I (1 : Int32)), (3, v_I x3)]) X dX4_stuck_61 (by decide) rfl ?_
      refine a_iload_n X dX4_stuck_62 rfl ?_
      refine a_if_eq (tgt := 78) X dX4_stuck_63 (by decide) hm (fun c31 hm => ?_) (fun c31 hm => ?_)
      · refine a_iconst (x := 0) X dX4_stuck_78 (by decide) ?_
        refine a_istore_n (lv' := [(0, v_R (some 5)), (1, v_I (0 : Int32)), (2, v_I (1 : Int32)), (3, v_I x3)]) X dX4_stuck_79 (by decide) rfl ?_
        refine a_iinc (y := x3 + (1 : Int32)) (lv' := [(0, v_R (some 5)), (1, v_I (0 : Int32)), (2, v_I (1 : Int32)), (3, v_I (x3 + (1 : Int32)))]) X dX4_stuck_80 rfl rfl (by decide) rfl ?_
        refine a_goto (tgt := 43) X dX4_stuck_83 (by decide) ?_
        exact hr_43 (0 : Int32) (1 : Int32) (x3 + (1 : Int32)) hm
      · refine a_aload_n X dX4_stuck_66 rfl ?_
        refine a_iload_n X dX4_stuck_67 rfl ?_
        obtain ⟨r33, q32, hm⟩ := i_b hm
        refine a_callV (k' := 0) (n' := 0) (st := []) X (c_X4_isHeldUp hMR q32) yv_X4_isHeldUp ml_X4_219 rfl (Or.inr (mr5_ hMR)) ⟨by decide, by decide, by decide, by decide, Nat.le_of_ble_eq_true rfl⟩ rfl rfl dX4_stuck_68 rfl rfl ?_
        show At_ v g 4 h M 0 0 71 [(0, v_R (some 5)), (1, v_I x1), (2, v_I (1 : Int32)), (3, v_I x3)] [v_I r33]
        refine a_if_eq (tgt := 78) X dX4_stuck_71 (by decide) hm (fun c34 hm => ?_) (fun c34 hm => ?_)
        · refine a_iconst (x := 0) X dX4_stuck_78 (by decide) ?_
          refine a_istore_n (lv' := [(0, v_R (some 5)), (1, v_I (0 : Int32)), (2, v_I (1 : Int32)), (3, v_I x3)]) X dX4_stuck_79 (by decide) rfl ?_
          refine a_iinc (y := x3 + (1 : Int32)) (lv' := [(0, v_R (some 5)), (1, v_I (0 : Int32)), (2, v_I (1 : Int32)), (3, v_I (x3 + (1 : Int32)))]) X dX4_stuck_80 rfl rfl (by decide) rfl ?_
          refine a_goto (tgt := 43) X dX4_stuck_83 (by decide) ?_
          exact hr_43 (0 : Int32) (1 : Int32) (x3 + (1 : Int32)) hm
        · refine a_iconst (x := 1) X dX4_stuck_74 (by decide) ?_
          refine a_goto (tgt := 79) X dX4_stuck_75 (by decide) ?_
          refine a_istore_n (lv' := [(0, v_R (some 5)), (1, v_I (1 : Int32)), (2, v_I (1 : Int32)), (3, v_I x3)]) X dX4_stuck_79 (by decide) rfl ?_
          refine a_iinc (y := x3 + (1 : Int32)) (lv' := [(0, v_R (some 5)), (1, v_I (1 : Int32)), (2, v_I (1 : Int32)), (3, v_I (x3 + (1 : Int32)))]) X dX4_stuck_80 rfl rfl (by decide) rfl ?_
          refine a_goto (tgt := 43) X dX4_stuck_83 (by decide) ?_
          exact hr_43 (1 : Int32) (1 : Int32) (x3 + (1 : Int32)) hm
def l_X4_stuck_43 (M : Msx) (n : Nat) : Int32 → Int32 → Int32 → Option (Int32) := lp_ (fun rec_43 => j_X4_stuck_43 M rec_43) (fun _ _ _ => none) n
theorem ql_X4_stuck_43 {v : Evx} {g : Gvx} {h : Hpx} {r : Int32} (X : Cx_ v g cX4_stuck 4 RX4 "stuck" ((some .boolean)) rm_X4_stuck) (hMR : MR_ h) (M : Msx) (hF : Fi_ v g rm_X4_stuck (some (v_I r)) h M) : ∀ (n : Nat) (x1 : Int32) (x2 : Int32) (x3 : Int32), l_X4_stuck_43 M n x1 x2 x3 = some r → At_ v g 4 h M 0 0 43 [(0, v_R (some 5)), (1, v_I x1), (2, v_I x2), (3, v_I x3)] [] := by
  intro n
  induction n with
  | zero => intro x1 x2 x3 hm; cases hm
  | succ n ih =>
    intro x1 x2 x3 hm
    exact q_X4_stuck_43 X hMR M hF (l_X4_stuck_43 M n) ih x1 x2 x3 hm
def j_X4_stuck_7 (M : Msx) (rec_7 : Int32 → Int32 → Option (Int32)) (x1 : Int32) (x2 : Int32) : Option (Int32) :=
  (if (m_I M 10 0) ≤ x2 then
  l_X4_stuck_43 M 70 x1 (0 : Int32) (0 : Int32)
  else (if x1 = 0 then
  rec_7 (0 : Int32) (x2 + (1 : Int32))
  else (f_X4_whyOne M x2).bind fun r24 =>
  (if r24 = 0 then
  rec_7 (0 : Int32) (x2 + (1 : Int32))
  else rec_7 (1 : Int32) (x2 + (1 : Int32)))))
set_option maxHeartbeats 4000000 in
theorem q_X4_stuck_7 {v : Evx} {g : Gvx} {h : Hpx} {r : Int32} (X : Cx_ v g cX4_stuck 4 RX4 "stuck" ((some .boolean)) rm_X4_stuck) (hMR : MR_ h) (M : Msx) (hF : Fi_ v g rm_X4_stuck (some (v_I r)) h M) (rec_7 : Int32 → Int32 → Option (Int32)) (hr_7 : ∀ (x1 : Int32) (x2 : Int32), rec_7 x1 x2 = some r → At_ v g 4 h M 0 0 7 [(0, v_R (some 5)), (1, v_I x1), (2, v_I x2)] []) (x1 : Int32) (x2 : Int32) (hm : j_X4_stuck_7 M rec_7 x1 x2 = some r) : At_ v g 4 h M 0 0 7 [(0, v_R (some 5)), (1, v_I x1), (2, v_I x2)] [] := by
  unfold j_X4_stuck_7 at hm
  refine a_iload_n X dX4_stuck_7 rfl ?_
  refine a_aload_n X dX4_stuck_8 rfl ?_
  refine a_mgetI X hMR 10 (by decide) rfl fl_X4_124 dX4_stuck_9 ?_
  refine a_icmp_ge (tgt := 39) X dX4_stuck_12 (by decide) hm (fun c21 hm => ?_) (fun c21 hm => ?_)
  · refine a_iconst (x := 0) X dX4_stuck_39 (by decide) ?_
    refine a_istore_n (lv' := [(0, v_R (some 5)), (1, v_I x1), (2, v_I (0 : Int32))]) X dX4_stuck_40 (by decide) rfl ?_
    refine a_iconst (x := 0) X dX4_stuck_41 (by decide) ?_
    refine a_istore_n (lv' := [(0, v_R (some 5)), (1, v_I x1), (2, v_I (0 : Int32)), (3, v_I (0 : Int32))]) X dX4_stuck_42 (by decide) rfl ?_
    exact ql_X4_stuck_43 X hMR M hF 70 x1 (0 : Int32) (0 : Int32) hm
  · refine a_iload_n X dX4_stuck_15 rfl ?_
    refine a_if_eq (tgt := 31) X dX4_stuck_16 (by decide) hm (fun c22 hm => ?_) (fun c22 hm => ?_)
    · refine a_iconst (x := 0) X dX4_stuck_31 (by decide) ?_
      refine a_istore_n (lv' := [(0, v_R (some 5)), (1, v_I (0 : Int32)), (2, v_I x2)]) X dX4_stuck_32 (by decide) rfl ?_
      refine a_iinc (y := x2 + (1 : Int32)) (lv' := [(0, v_R (some 5)), (1, v_I (0 : Int32)), (2, v_I (x2 + (1 : Int32)))]) X dX4_stuck_33 rfl rfl (by decide) rfl ?_
      refine a_goto (tgt := 7) X dX4_stuck_36 (by decide) ?_
      exact hr_7 (0 : Int32) (x2 + (1 : Int32)) hm
    · refine a_aload_n X dX4_stuck_19 rfl ?_
      refine a_iload_n X dX4_stuck_20 rfl ?_
      obtain ⟨r24, q23, hm⟩ := i_b hm
      refine a_callV (k' := 0) (n' := 0) (st := []) X (c_X4_whyOne hMR q23) yv_X4_whyOne ml_X4_240 rfl (Or.inr (mr5_ hMR)) ⟨by decide, by decide, by decide, by decide, Nat.le_of_ble_eq_true rfl⟩ rfl rfl dX4_stuck_21 rfl rfl ?_
      show At_ v g 4 h M 0 0 24 [(0, v_R (some 5)), (1, v_I x1), (2, v_I x2)] [v_I r24]
      refine a_if_eq (tgt := 31) X dX4_stuck_24 (by decide) hm (fun c25 hm => ?_) (fun c25 hm => ?_)
      · refine a_iconst (x := 0) X dX4_stuck_31 (by decide) ?_
        refine a_istore_n (lv' := [(0, v_R (some 5)), (1, v_I (0 : Int32)), (2, v_I x2)]) X dX4_stuck_32 (by decide) rfl ?_
        refine a_iinc (y := x2 + (1 : Int32)) (lv' := [(0, v_R (some 5)), (1, v_I (0 : Int32)), (2, v_I (x2 + (1 : Int32)))]) X dX4_stuck_33 rfl rfl (by decide) rfl ?_
        refine a_goto (tgt := 7) X dX4_stuck_36 (by decide) ?_
        exact hr_7 (0 : Int32) (x2 + (1 : Int32)) hm
      · refine a_iconst (x := 1) X dX4_stuck_27 (by decide) ?_
        refine a_goto (tgt := 32) X dX4_stuck_28 (by decide) ?_
        refine a_istore_n (lv' := [(0, v_R (some 5)), (1, v_I (1 : Int32)), (2, v_I x2)]) X dX4_stuck_32 (by decide) rfl ?_
        refine a_iinc (y := x2 + (1 : Int32)) (lv' := [(0, v_R (some 5)), (1, v_I (1 : Int32)), (2, v_I (x2 + (1 : Int32)))]) X dX4_stuck_33 rfl rfl (by decide) rfl ?_
        refine a_goto (tgt := 7) X dX4_stuck_36 (by decide) ?_
        exact hr_7 (1 : Int32) (x2 + (1 : Int32)) hm
def l_X4_stuck_7 (M : Msx) (n : Nat) : Int32 → Int32 → Option (Int32) := lp_ (fun rec_7 => j_X4_stuck_7 M rec_7) (fun _ _ => none) n
theorem ql_X4_stuck_7 {v : Evx} {g : Gvx} {h : Hpx} {r : Int32} (X : Cx_ v g cX4_stuck 4 RX4 "stuck" ((some .boolean)) rm_X4_stuck) (hMR : MR_ h) (M : Msx) (hF : Fi_ v g rm_X4_stuck (some (v_I r)) h M) : ∀ (n : Nat) (x1 : Int32) (x2 : Int32), l_X4_stuck_7 M n x1 x2 = some r → At_ v g 4 h M 0 0 7 [(0, v_R (some 5)), (1, v_I x1), (2, v_I x2)] [] := by
  intro n
  induction n with
  | zero => intro x1 x2 hm; cases hm
  | succ n ih =>
    intro x1 x2 hm
    exact q_X4_stuck_7 X hMR M hF (l_X4_stuck_7 M n) ih x1 x2 hm
def f_X4_stuck (M : Msx) : Option (Int32) :=
  l_X4_stuck_7 M 70 (m_I M 34 0) (0 : Int32)
set_option maxHeartbeats 4000000 in
theorem q_X4_stuck_0 {v : Evx} {g : Gvx} {h : Hpx} {r : Int32} (X : Cx_ v g cX4_stuck 4 RX4 "stuck" ((some .boolean)) rm_X4_stuck) (hMR : MR_ h) (M : Msx) (hF : Fi_ v g rm_X4_stuck (some (v_I r)) h M) (hm : f_X4_stuck M = some r) : At_ v g 4 h M 0 0 0 [(0, v_R (some 5))] [] := by
  unfold f_X4_stuck at hm
  refine a_aload_n X dX4_stuck_0 rfl ?_
  refine a_mgetI X hMR 34 (by decide) rfl fl_X4_135 dX4_stuck_1 ?_
  refine a_istore_n (lv' := [(0, v_R (some 5)), (1, v_I (m_I M 34 0))]) X dX4_stuck_4 (by decide) rfl ?_
  refine a_iconst (x := 0) X dX4_stuck_5 (by decide) ?_
  refine a_istore_n (lv' := [(0, v_R (some 5)), (1, v_I (m_I M 34 0)), (2, v_I (0 : Int32))]) X dX4_stuck_6 (by decide) rfl ?_
  exact ql_X4_stuck_7 X hMR M hF 70 (m_I M 34 0) (0 : Int32) hm
theorem c_X4_stuck {l : Launch} {g : Gvx} {h : Hpx} {M : Msx} {r : Int32} (hMR : MR_ h) (hm : f_X4_stuck M = some r) : Mt_ l g yX4_stuck cX4_stuck 4 ((some .boolean)) rm_X4_stuck [v_R (some 5)] h M (some (v_I r)) h M := mt_of (by decide) (Nat.le_of_ble_eq_true rfl) (fun v _ X hF => q_X4_stuck_0 X hMR M hF hm)
theorem yv_X4_stuck : Yv_ yX4_stuck cX4_stuck 4 ((some .boolean)) 0 4 := ⟨rfl, by decide, ⟨by decide, by decide, by decide +kernel⟩, co_X4_stuck, im_X4_stuck, se_X4_stuck, ini_X4⟩

abbrev rm_X4_take : Room := { frames := 1, cells := 0, slots := 0, locals := 22 }
def j_X4_take_74 (rec_74 : Msx → Int32 → Int32 → Int32 → Option (Msx)) (M : Msx) (x1 : Int32) (x4 : Int32) (x5 : Int32) : Option (Msx) :=
  (if (8 : Int32) ≤ x5 then
  some M
  else (if in_b (((8 : Int32) * x4) + x5) 4096 = true then
  (if in_b (((8 : Int32) * x1) + x5) 128 = true then
  b_d (n_J M 27 (((8 : Int32) * x1) + x5).toNatClampNeg (m_J M 9 (((8 : Int32) * x4) + x5).toNatClampNeg)) fun M41 =>
  rec_74 M41 x1 x4 (x5 + (1 : Int32)) else none) else none))
set_option maxHeartbeats 4000000 in
theorem q_X4_take_74 {v : Evx} {g : Gvx} {h : Hpx} {M' : Msx} (X : Cx_ v g cX4_take 6 RX4 "take" (none) rm_X4_take) (hMR : MR_ h) (hF : Fi_ v g rm_X4_take (none) h M') (rec_74 : Msx → Int32 → Int32 → Int32 → Option (Msx)) (hr_74 : ∀ (M : Msx) (x1 : Int32) (x4 : Int32) (x5 : Int32), rec_74 M x1 x4 x5 = some M' → At_ v g 6 h M 0 0 74 [(0, v_R (some 5)), (1, v_I x1), (4, v_I x4), (5, v_I x5)] []) (M : Msx) (x1 : Int32) (x4 : Int32) (x5 : Int32) (hm : j_X4_take_74 rec_74 M x1 x4 x5 = some M') : At_ v g 6 h M 0 0 74 [(0, v_R (some 5)), (1, v_I x1), (4, v_I x4), (5, v_I x5)] [] := by
  unfold j_X4_take_74 at hm
  refine a_iload X dX4_take_74 rfl ?_
  refine a_bipush (x := 8) X dX4_take_76 (by decide) ?_
  refine a_icmp_ge (tgt := 112) X dX4_take_78 (by decide) hm (fun c38 hm => ?_) (fun c38 hm => ?_)
  · exact a_vret X hF ⟨rfl, Option.some.inj hm⟩ (by decide) dX4_take_112
  · refine a_aload_n X dX4_take_81 rfl ?_
    refine a_mgetA X hMR 27 (by decide) rfl rfl fl_X4_87 dX4_take_82 ?_
    refine a_bipush (x := 8) X dX4_take_85 (by decide) ?_
    refine a_iload_n X dX4_take_87 rfl ?_
    refine a_imul X dX4_take_88 ?_
    refine a_iload X dX4_take_89 rfl ?_
    refine a_iadd X dX4_take_91 ?_
    refine a_aload_n X dX4_take_92 rfl ?_
    refine a_mgetA X hMR 9 (by decide) rfl rfl fl_X4_36 dX4_take_93 ?_
    refine a_bipush (x := 8) X dX4_take_96 (by decide) ?_
    refine a_iload X dX4_take_98 rfl ?_
    refine a_imul X dX4_take_100 ?_
    refine a_iload X dX4_take_101 rfl ?_
    refine a_iadd X dX4_take_103 ?_
    obtain ⟨b39, hm⟩ := i_c hm
    refine a_maldJ X hMR 9 (by decide) rfl rfl rfl b39 dX4_take_104 ?_
    obtain ⟨b40, hm⟩ := i_c hm
    obtain ⟨M41, eM41, hm⟩ := i_d hm
    refine a_mastJ X hMR 27 (by decide) rfl rfl rfl b40 dX4_take_105 ?_
    rw [← eM41]
    refine a_iinc (y := x5 + (1 : Int32)) (lv' := [(0, v_R (some 5)), (1, v_I x1), (4, v_I x4), (5, v_I (x5 + (1 : Int32)))]) X dX4_take_106 rfl rfl (by decide) rfl ?_
    refine a_goto (tgt := 74) X dX4_take_109 (by decide) ?_
    exact hr_74 M41 x1 x4 (x5 + (1 : Int32)) hm
def l_X4_take_74 (n : Nat) : Msx → Int32 → Int32 → Int32 → Option (Msx) := lp_ (fun rec_74 => j_X4_take_74 rec_74) (fun _ _ _ _ => none) n
theorem ql_X4_take_74 {v : Evx} {g : Gvx} {h : Hpx} {M' : Msx} (X : Cx_ v g cX4_take 6 RX4 "take" (none) rm_X4_take) (hMR : MR_ h) (hF : Fi_ v g rm_X4_take (none) h M') : ∀ (n : Nat) (M : Msx) (x1 : Int32) (x4 : Int32) (x5 : Int32), l_X4_take_74 n M x1 x4 x5 = some M' → At_ v g 6 h M 0 0 74 [(0, v_R (some 5)), (1, v_I x1), (4, v_I x4), (5, v_I x5)] [] := by
  intro n
  induction n with
  | zero => intro M x1 x4 x5 hm; cases hm
  | succ n ih =>
    intro M x1 x4 x5 hm
    exact q_X4_take_74 X hMR hF (l_X4_take_74 n) ih M x1 x4 x5 hm
def f_X4_take (M : Msx) (x1 : Int32) (x2 : Int32) (x3 : Int32) : Option (Msx) :=
  (f_X4_slot M x2 x3).bind fun r22 =>
  (if in_b x1 16 = true then
  b_d (n_I M 21 x1.toNatClampNeg ((m_I M 21 x1.toNatClampNeg) + (1 : Int32))) fun M24 =>
  (if in_b x1 16 = true then
  b_d (n_I M24 22 x1.toNatClampNeg x2) fun M26 =>
  (if in_b x1 16 = true then
  b_d (n_I M26 23 x1.toNatClampNeg x3) fun M28 =>
  (if in_b r22 512 = true then
  (if in_b x1 16 = true then
  b_d (n_J M28 24 x1.toNatClampNeg (m_J M28 6 r22.toNatClampNeg)) fun M31 =>
  (if in_b r22 512 = true then
  (if in_b x1 16 = true then
  b_d (n_I M31 25 x1.toNatClampNeg (m_I M31 7 r22.toNatClampNeg)) fun M34 =>
  (if in_b r22 512 = true then
  (if in_b x1 16 = true then
  b_d (n_I M34 26 x1.toNatClampNeg (m_I M34 8 r22.toNatClampNeg)) fun M37 =>
  l_X4_take_74 70 M37 x1 r22 (0 : Int32) else none) else none) else none) else none) else none) else none) else none) else none) else none)
set_option maxHeartbeats 4000000 in
theorem q_X4_take_0 {v : Evx} {g : Gvx} {h : Hpx} {M' : Msx} (X : Cx_ v g cX4_take 6 RX4 "take" (none) rm_X4_take) (hMR : MR_ h) (hF : Fi_ v g rm_X4_take (none) h M') (M : Msx) (x1 : Int32) (x2 : Int32) (x3 : Int32) (hm : f_X4_take M x1 x2 x3 = some M') : At_ v g 6 h M 0 0 0 [(0, v_R (some 5)), (1, v_I x1), (2, v_I x2), (3, v_I x3)] [] := by
  unfold f_X4_take at hm
  refine a_aload_n X dX4_take_0 rfl ?_
  refine a_iload_n X dX4_take_1 rfl ?_
  refine a_iload_n X dX4_take_2 rfl ?_
  obtain ⟨r22, q21, hm⟩ := i_b hm
  refine a_callV (k' := 0) (n' := 0) (st := []) X (c_X4_slot hMR q21) yv_X4_slot ml_X4_171 rfl (Or.inr (mr5_ hMR)) ⟨by decide, by decide, by decide, by decide, Nat.le_of_ble_eq_true rfl⟩ rfl rfl dX4_take_3 rfl rfl ?_
  show At_ v g 6 h M 0 0 6 [(0, v_R (some 5)), (1, v_I x1), (2, v_I x2), (3, v_I x3)] [v_I r22]
  refine a_istore (lv' := [(0, v_R (some 5)), (1, v_I x1), (2, v_I x2), (3, v_I x3), (4, v_I r22)]) X dX4_take_6 (by decide) rfl ?_
  refine a_aload_n X dX4_take_8 rfl ?_
  refine a_mgetA X hMR 21 (by decide) rfl rfl fl_X4_69 dX4_take_9 ?_
  refine a_iload_n X dX4_take_12 rfl ?_
  refine a_dup2 X dX4_take_13 rfl rfl ?_
  obtain ⟨b23, hm⟩ := i_c hm
  refine a_maldI X hMR 21 (by decide) rfl rfl rfl b23 dX4_take_14 ?_
  refine a_iconst (x := 1) X dX4_take_15 (by decide) ?_
  refine a_iadd X dX4_take_16 ?_
  obtain ⟨M24, eM24, hm⟩ := i_d hm
  refine a_mastI X hMR 21 (by decide) rfl rfl rfl b23 dX4_take_17 ?_
  rw [← eM24]
  refine a_aload_n X dX4_take_18 rfl ?_
  refine a_mgetA X hMR 22 (by decide) rfl rfl fl_X4_72 dX4_take_19 ?_
  refine a_iload_n X dX4_take_22 rfl ?_
  refine a_iload_n X dX4_take_23 rfl ?_
  obtain ⟨b25, hm⟩ := i_c hm
  obtain ⟨M26, eM26, hm⟩ := i_d hm
  refine a_mastI X hMR 22 (by decide) rfl rfl rfl b25 dX4_take_24 ?_
  rw [← eM26]
  refine a_aload_n X dX4_take_25 rfl ?_
  refine a_mgetA X hMR 23 (by decide) rfl rfl fl_X4_75 dX4_take_26 ?_
  refine a_iload_n X dX4_take_29 rfl ?_
  refine a_iload_n X dX4_take_30 rfl ?_
  obtain ⟨b27, hm⟩ := i_c hm
  obtain ⟨M28, eM28, hm⟩ := i_d hm
  refine a_mastI X hMR 23 (by decide) rfl rfl rfl b27 dX4_take_31 ?_
  rw [← eM28]
  refine a_aload_n X dX4_take_32 rfl ?_
  refine a_mgetA X hMR 24 (by decide) rfl rfl fl_X4_78 dX4_take_33 ?_
  refine a_iload_n X dX4_take_36 rfl ?_
  refine a_aload_n X dX4_take_37 rfl ?_
  refine a_mgetA X hMR 6 (by decide) rfl rfl fl_X4_27 dX4_take_38 ?_
  refine a_iload X dX4_take_41 rfl ?_
  obtain ⟨b29, hm⟩ := i_c hm
  refine a_maldJ X hMR 6 (by decide) rfl rfl rfl b29 dX4_take_43 ?_
  obtain ⟨b30, hm⟩ := i_c hm
  obtain ⟨M31, eM31, hm⟩ := i_d hm
  refine a_mastJ X hMR 24 (by decide) rfl rfl rfl b30 dX4_take_44 ?_
  rw [← eM31]
  refine a_aload_n X dX4_take_45 rfl ?_
  refine a_mgetA X hMR 25 (by decide) rfl rfl fl_X4_81 dX4_take_46 ?_
  refine a_iload_n X dX4_take_49 rfl ?_
  refine a_aload_n X dX4_take_50 rfl ?_
  refine a_mgetA X hMR 7 (by decide) rfl rfl fl_X4_30 dX4_take_51 ?_
  refine a_iload X dX4_take_54 rfl ?_
  obtain ⟨b32, hm⟩ := i_c hm
  refine a_maldI X hMR 7 (by decide) rfl rfl rfl b32 dX4_take_56 ?_
  obtain ⟨b33, hm⟩ := i_c hm
  obtain ⟨M34, eM34, hm⟩ := i_d hm
  refine a_mastI X hMR 25 (by decide) rfl rfl rfl b33 dX4_take_57 ?_
  rw [← eM34]
  refine a_aload_n X dX4_take_58 rfl ?_
  refine a_mgetA X hMR 26 (by decide) rfl rfl fl_X4_84 dX4_take_59 ?_
  refine a_iload_n X dX4_take_62 rfl ?_
  refine a_aload_n X dX4_take_63 rfl ?_
  refine a_mgetA X hMR 8 (by decide) rfl rfl fl_X4_33 dX4_take_64 ?_
  refine a_iload X dX4_take_67 rfl ?_
  obtain ⟨b35, hm⟩ := i_c hm
  refine a_maldI X hMR 8 (by decide) rfl rfl rfl b35 dX4_take_69 ?_
  obtain ⟨b36, hm⟩ := i_c hm
  obtain ⟨M37, eM37, hm⟩ := i_d hm
  refine a_mastI X hMR 26 (by decide) rfl rfl rfl b36 dX4_take_70 ?_
  rw [← eM37]
  refine a_iconst (x := 0) X dX4_take_71 (by decide) ?_
  refine a_istore (lv' := [(0, v_R (some 5)), (1, v_I x1), (2, v_I x2), (3, v_I x3), (4, v_I r22), (5, v_I (0 : Int32))]) X dX4_take_72 (by decide) rfl ?_
  refine a_pick (lv' := [(0, v_R (some 5)), (1, v_I x1), (4, v_I r22), (5, v_I (0 : Int32))]) [0, 1, 4, 5] rfl ?_
  exact ql_X4_take_74 X hMR hF 70 M37 x1 r22 (0 : Int32) hm
theorem c_X4_take {l : Launch} {g : Gvx} {h : Hpx} {M : Msx} {M' : Msx} {x1 : Int32} {x2 : Int32} {x3 : Int32} (hMR : MR_ h) (hm : f_X4_take M x1 x2 x3 = some M') : Mt_ l g yX4_take cX4_take 6 (none) rm_X4_take [v_R (some 5), v_I x1, v_I x2, v_I x3] h M (none) h M' := mt_of (by decide) (Nat.le_of_ble_eq_true rfl) (fun v _ X hF => q_X4_take_0 X hMR hF M x1 x2 x3 hm)
theorem yv_X4_take : Yv_ yX4_take cX4_take 6 (none) 3 4 := ⟨rfl, by decide, ⟨by decide, by decide, by decide +kernel⟩, co_X4_take, im_X4_take, se_X4_take, ini_X4⟩

abbrev rm_X4_takeEntry : Room := { frames := 0, cells := 0, slots := 0, locals := 0 }
def j_X4_takeEntry_196 (rec_125 : Msx → Int32 → Int32 → Int32 → Option (Msx)) (rec_196 : Msx → Int32 → Int32 → Int32 → Int32 → Option (Msx)) (M : Msx) (x1 : Int32) (x2 : Int32) (x3 : Int32) (x4 : Int32) : Option (Msx) :=
  (if (8 : Int32) ≤ x4 then
  rec_125 M x1 x2 (x3 + (1 : Int32))
  else (if in_b ((((8 : Int32) * x3) + (8 : Int32)) + x4) 4096 = true then
  (if in_b (((8 : Int32) * x3) + x4) 4096 = true then
  b_d (n_J M 33 (((8 : Int32) * x3) + x4).toNatClampNeg (m_J M 33 ((((8 : Int32) * x3) + (8 : Int32)) + x4).toNatClampNeg)) fun M61 =>
  rec_196 M61 x1 x2 x3 (x4 + (1 : Int32)) else none) else none))
set_option maxHeartbeats 4000000 in
theorem q_X4_takeEntry_196 {v : Evx} {g : Gvx} {h : Hpx} {M' : Msx} (X : Cx_ v g cX4_takeEntry 5 RX4 "takeEntry" (none) rm_X4_takeEntry) (hMR : MR_ h) (hF : Fi_ v g rm_X4_takeEntry (none) h M') (rec_125 : Msx → Int32 → Int32 → Int32 → Option (Msx)) (hr_125 : ∀ (M : Msx) (x1 : Int32) (x2 : Int32) (x3 : Int32), rec_125 M x1 x2 x3 = some M' → At_ v g 5 h M 0 0 125 [(0, v_R (some 5)), (1, v_I x1), (2, v_I x2), (3, v_I x3)] []) (rec_196 : Msx → Int32 → Int32 → Int32 → Int32 → Option (Msx)) (hr_196 : ∀ (M : Msx) (x1 : Int32) (x2 : Int32) (x3 : Int32) (x4 : Int32), rec_196 M x1 x2 x3 x4 = some M' → At_ v g 5 h M 0 0 196 [(0, v_R (some 5)), (1, v_I x1), (2, v_I x2), (3, v_I x3), (4, v_I x4)] []) (M : Msx) (x1 : Int32) (x2 : Int32) (x3 : Int32) (x4 : Int32) (hm : j_X4_takeEntry_196 rec_125 rec_196 M x1 x2 x3 x4 = some M') : At_ v g 5 h M 0 0 196 [(0, v_R (some 5)), (1, v_I x1), (2, v_I x2), (3, v_I x3), (4, v_I x4)] [] := by
  unfold j_X4_takeEntry_196 at hm
  refine a_iload X dX4_takeEntry_196 rfl ?_
  refine a_bipush (x := 8) X dX4_takeEntry_198 (by decide) ?_
  refine a_icmp_ge (tgt := 236) X dX4_takeEntry_200 (by decide) hm (fun c58 hm => ?_) (fun c58 hm => ?_)
  · refine a_iinc (y := x3 + (1 : Int32)) (lv' := [(0, v_R (some 5)), (1, v_I x1), (2, v_I x2), (3, v_I (x3 + (1 : Int32))), (4, v_I x4)]) X dX4_takeEntry_236 rfl rfl (by decide) rfl ?_
    refine a_goto (tgt := 125) X dX4_takeEntry_239 (by decide) ?_
    refine a_pick (lv' := [(0, v_R (some 5)), (1, v_I x1), (2, v_I x2), (3, v_I (x3 + (1 : Int32)))]) [0, 1, 2, 3] rfl ?_
    exact hr_125 M x1 x2 (x3 + (1 : Int32)) hm
  · refine a_aload_n X dX4_takeEntry_203 rfl ?_
    refine a_mgetA X hMR 33 (by decide) rfl rfl fl_X4_105 dX4_takeEntry_204 ?_
    refine a_bipush (x := 8) X dX4_takeEntry_207 (by decide) ?_
    refine a_iload_n X dX4_takeEntry_209 rfl ?_
    refine a_imul X dX4_takeEntry_210 ?_
    refine a_iload X dX4_takeEntry_211 rfl ?_
    refine a_iadd X dX4_takeEntry_213 ?_
    refine a_aload_n X dX4_takeEntry_214 rfl ?_
    refine a_mgetA X hMR 33 (by decide) rfl rfl fl_X4_105 dX4_takeEntry_215 ?_
    refine a_bipush (x := 8) X dX4_takeEntry_218 (by decide) ?_
    refine a_iload_n X dX4_takeEntry_220 rfl ?_
    refine a_imul X dX4_takeEntry_221 ?_
    refine a_bipush (x := 8) X dX4_takeEntry_222 (by decide) ?_
    refine a_iadd X dX4_takeEntry_224 ?_
    refine a_iload X dX4_takeEntry_225 rfl ?_
    refine a_iadd X dX4_takeEntry_227 ?_
    obtain ⟨b59, hm⟩ := i_c hm
    refine a_maldJ X hMR 33 (by decide) rfl rfl rfl b59 dX4_takeEntry_228 ?_
    obtain ⟨b60, hm⟩ := i_c hm
    obtain ⟨M61, eM61, hm⟩ := i_d hm
    refine a_mastJ X hMR 33 (by decide) rfl rfl rfl b60 dX4_takeEntry_229 ?_
    rw [← eM61]
    refine a_iinc (y := x4 + (1 : Int32)) (lv' := [(0, v_R (some 5)), (1, v_I x1), (2, v_I x2), (3, v_I x3), (4, v_I (x4 + (1 : Int32)))]) X dX4_takeEntry_230 rfl rfl (by decide) rfl ?_
    refine a_goto (tgt := 196) X dX4_takeEntry_233 (by decide) ?_
    exact hr_196 M61 x1 x2 x3 (x4 + (1 : Int32)) hm
def l_X4_takeEntry_196 (rec_125 : Msx → Int32 → Int32 → Int32 → Option (Msx)) (n : Nat) : Msx → Int32 → Int32 → Int32 → Int32 → Option (Msx) := lp_ (fun rec_196 => j_X4_takeEntry_196 rec_125 rec_196) (fun _ _ _ _ _ => none) n
theorem ql_X4_takeEntry_196 {v : Evx} {g : Gvx} {h : Hpx} {M' : Msx} (X : Cx_ v g cX4_takeEntry 5 RX4 "takeEntry" (none) rm_X4_takeEntry) (hMR : MR_ h) (hF : Fi_ v g rm_X4_takeEntry (none) h M') (rec_125 : Msx → Int32 → Int32 → Int32 → Option (Msx)) (hr_125 : ∀ (M : Msx) (x1 : Int32) (x2 : Int32) (x3 : Int32), rec_125 M x1 x2 x3 = some M' → At_ v g 5 h M 0 0 125 [(0, v_R (some 5)), (1, v_I x1), (2, v_I x2), (3, v_I x3)] []) : ∀ (n : Nat) (M : Msx) (x1 : Int32) (x2 : Int32) (x3 : Int32) (x4 : Int32), l_X4_takeEntry_196 rec_125 n M x1 x2 x3 x4 = some M' → At_ v g 5 h M 0 0 196 [(0, v_R (some 5)), (1, v_I x1), (2, v_I x2), (3, v_I x3), (4, v_I x4)] [] := by
  intro n
  induction n with
  | zero => intro M x1 x2 x3 x4 hm; cases hm
  | succ n ih =>
    intro M x1 x2 x3 x4 hm
    exact q_X4_takeEntry_196 X hMR hF rec_125 hr_125 (l_X4_takeEntry_196 rec_125 n) ih M x1 x2 x3 x4 hm
def j_X4_takeEntry_125 (rec_125 : Msx → Int32 → Int32 → Int32 → Option (Msx)) (M : Msx) (x1 : Int32) (x2 : Int32) (x3 : Int32) : Option (Msx) :=
  (if in_b x1 16 = true then
  (if (x2 + (m_I M 28 x1.toNatClampNeg)) ≤ x3 then
  some M
  else (if in_b (x3 + (1 : Int32)) 512 = true then
  (if in_b x3 512 = true then
  b_d (n_I M 29 x3.toNatClampNeg (m_I M 29 (x3 + (1 : Int32)).toNatClampNeg)) fun M48 =>
  (if in_b (x3 + (1 : Int32)) 512 = true then
  (if in_b x3 512 = true then
  b_d (n_J M48 30 x3.toNatClampNeg (m_J M48 30 (x3 + (1 : Int32)).toNatClampNeg)) fun M51 =>
  (if in_b (x3 + (1 : Int32)) 512 = true then
  (if in_b x3 512 = true then
  b_d (n_I M51 31 x3.toNatClampNeg (m_I M51 31 (x3 + (1 : Int32)).toNatClampNeg)) fun M54 =>
  (if in_b (x3 + (1 : Int32)) 512 = true then
  (if in_b x3 512 = true then
  b_d (n_I M54 32 x3.toNatClampNeg (m_I M54 32 (x3 + (1 : Int32)).toNatClampNeg)) fun M57 =>
  l_X4_takeEntry_196 rec_125 70 M57 x1 x2 x3 (0 : Int32) else none) else none) else none) else none) else none) else none) else none) else none)) else none)
set_option maxHeartbeats 4000000 in
theorem q_X4_takeEntry_125 {v : Evx} {g : Gvx} {h : Hpx} {M' : Msx} (X : Cx_ v g cX4_takeEntry 5 RX4 "takeEntry" (none) rm_X4_takeEntry) (hMR : MR_ h) (hF : Fi_ v g rm_X4_takeEntry (none) h M') (rec_125 : Msx → Int32 → Int32 → Int32 → Option (Msx)) (hr_125 : ∀ (M : Msx) (x1 : Int32) (x2 : Int32) (x3 : Int32), rec_125 M x1 x2 x3 = some M' → At_ v g 5 h M 0 0 125 [(0, v_R (some 5)), (1, v_I x1), (2, v_I x2), (3, v_I x3)] []) (M : Msx) (x1 : Int32) (x2 : Int32) (x3 : Int32) (hm : j_X4_takeEntry_125 rec_125 M x1 x2 x3 = some M') : At_ v g 5 h M 0 0 125 [(0, v_R (some 5)), (1, v_I x1), (2, v_I x2), (3, v_I x3)] [] := by
  unfold j_X4_takeEntry_125 at hm
  refine a_iload_n X dX4_takeEntry_125 rfl ?_
  refine a_iload_n X dX4_takeEntry_126 rfl ?_
  refine a_aload_n X dX4_takeEntry_127 rfl ?_
  refine a_mgetA X hMR 28 (by decide) rfl rfl fl_X4_90 dX4_takeEntry_128 ?_
  refine a_iload_n X dX4_takeEntry_131 rfl ?_
  obtain ⟨b44, hm⟩ := i_c hm
  refine a_maldI X hMR 28 (by decide) rfl rfl rfl b44 dX4_takeEntry_132 ?_
  refine a_iadd X dX4_takeEntry_133 ?_
  refine a_icmp_ge (tgt := 242) X dX4_takeEntry_134 (by decide) hm (fun c45 hm => ?_) (fun c45 hm => ?_)
  · exact a_vret X hF ⟨rfl, Option.some.inj hm⟩ (by decide) dX4_takeEntry_242
  · refine a_aload_n X dX4_takeEntry_137 rfl ?_
    refine a_mgetA X hMR 29 (by decide) rfl rfl fl_X4_93 dX4_takeEntry_138 ?_
    refine a_iload_n X dX4_takeEntry_141 rfl ?_
    refine a_aload_n X dX4_takeEntry_142 rfl ?_
    refine a_mgetA X hMR 29 (by decide) rfl rfl fl_X4_93 dX4_takeEntry_143 ?_
    refine a_iload_n X dX4_takeEntry_146 rfl ?_
    refine a_iconst (x := 1) X dX4_takeEntry_147 (by decide) ?_
    refine a_iadd X dX4_takeEntry_148 ?_
    obtain ⟨b46, hm⟩ := i_c hm
    refine a_maldI X hMR 29 (by decide) rfl rfl rfl b46 dX4_takeEntry_149 ?_
    obtain ⟨b47, hm⟩ := i_c hm
    obtain ⟨M48, eM48, hm⟩ := i_d hm
    refine a_mastI X hMR 29 (by decide) rfl rfl rfl b47 dX4_takeEntry_150 ?_
    rw [← eM48]
    refine a_aload_n X dX4_takeEntry_151 rfl ?_
    refine a_mgetA X hMR 30 (by decide) rfl rfl fl_X4_96 dX4_takeEntry_152 ?_
    refine a_iload_n X dX4_takeEntry_155 rfl ?_
    refine a_aload_n X dX4_takeEntry_156 rfl ?_
    refine a_mgetA X hMR 30 (by decide) rfl rfl fl_X4_96 dX4_takeEntry_157 ?_
    refine a_iload_n X dX4_takeEntry_160 rfl ?_
    refine a_iconst (x := 1) X dX4_takeEntry_161 (by decide) ?_
    refine a_iadd X dX4_takeEntry_162 ?_
    obtain ⟨b49, hm⟩ := i_c hm
    refine a_maldJ X hMR 30 (by decide) rfl rfl rfl b49 dX4_takeEntry_163 ?_
    obtain ⟨b50, hm⟩ := i_c hm
    obtain ⟨M51, eM51, hm⟩ := i_d hm
    refine a_mastJ X hMR 30 (by decide) rfl rfl rfl b50 dX4_takeEntry_164 ?_
    rw [← eM51]
    refine a_aload_n X dX4_takeEntry_165 rfl ?_
    refine a_mgetA X hMR 31 (by decide) rfl rfl fl_X4_99 dX4_takeEntry_166 ?_
    refine a_iload_n X dX4_takeEntry_169 rfl ?_
    refine a_aload_n X dX4_takeEntry_170 rfl ?_
    refine a_mgetA X hMR 31 (by decide) rfl rfl fl_X4_99 dX4_takeEntry_171 ?_
    refine a_iload_n X dX4_takeEntry_174 rfl ?_
    refine a_iconst (x := 1) X dX4_takeEntry_175 (by decide) ?_
    refine a_iadd X dX4_takeEntry_176 ?_
    obtain ⟨b52, hm⟩ := i_c hm
    refine a_maldI X hMR 31 (by decide) rfl rfl rfl b52 dX4_takeEntry_177 ?_
    obtain ⟨b53, hm⟩ := i_c hm
    obtain ⟨M54, eM54, hm⟩ := i_d hm
    refine a_mastI X hMR 31 (by decide) rfl rfl rfl b53 dX4_takeEntry_178 ?_
    rw [← eM54]
    refine a_aload_n X dX4_takeEntry_179 rfl ?_
    refine a_mgetA X hMR 32 (by decide) rfl rfl fl_X4_102 dX4_takeEntry_180 ?_
    refine a_iload_n X dX4_takeEntry_183 rfl ?_
    refine a_aload_n X dX4_takeEntry_184 rfl ?_
    refine a_mgetA X hMR 32 (by decide) rfl rfl fl_X4_102 dX4_takeEntry_185 ?_
    refine a_iload_n X dX4_takeEntry_188 rfl ?_
    refine a_iconst (x := 1) X dX4_takeEntry_189 (by decide) ?_
    refine a_iadd X dX4_takeEntry_190 ?_
    obtain ⟨b55, hm⟩ := i_c hm
    refine a_maldI X hMR 32 (by decide) rfl rfl rfl b55 dX4_takeEntry_191 ?_
    obtain ⟨b56, hm⟩ := i_c hm
    obtain ⟨M57, eM57, hm⟩ := i_d hm
    refine a_mastI X hMR 32 (by decide) rfl rfl rfl b56 dX4_takeEntry_192 ?_
    rw [← eM57]
    refine a_iconst (x := 0) X dX4_takeEntry_193 (by decide) ?_
    refine a_istore (lv' := [(0, v_R (some 5)), (1, v_I x1), (2, v_I x2), (3, v_I x3), (4, v_I (0 : Int32))]) X dX4_takeEntry_194 (by decide) rfl ?_
    exact ql_X4_takeEntry_196 X hMR hF rec_125 hr_125 70 M57 x1 x2 x3 (0 : Int32) hm
def l_X4_takeEntry_125 (n : Nat) : Msx → Int32 → Int32 → Int32 → Option (Msx) := lp_ (fun rec_125 => j_X4_takeEntry_125 rec_125) (fun _ _ _ _ => none) n
theorem ql_X4_takeEntry_125 {v : Evx} {g : Gvx} {h : Hpx} {M' : Msx} (X : Cx_ v g cX4_takeEntry 5 RX4 "takeEntry" (none) rm_X4_takeEntry) (hMR : MR_ h) (hF : Fi_ v g rm_X4_takeEntry (none) h M') : ∀ (n : Nat) (M : Msx) (x1 : Int32) (x2 : Int32) (x3 : Int32), l_X4_takeEntry_125 n M x1 x2 x3 = some M' → At_ v g 5 h M 0 0 125 [(0, v_R (some 5)), (1, v_I x1), (2, v_I x2), (3, v_I x3)] [] := by
  intro n
  induction n with
  | zero => intro M x1 x2 x3 hm; cases hm
  | succ n ih =>
    intro M x1 x2 x3 hm
    exact q_X4_takeEntry_125 X hMR hF (l_X4_takeEntry_125 n) ih M x1 x2 x3 hm
def j_X4_takeEntry_79 (rec_79 : Msx → Int32 → Int32 → Int32 → Option (Msx)) (M : Msx) (x1 : Int32) (x2 : Int32) (x3 : Int32) : Option (Msx) :=
  (if (8 : Int32) ≤ x3 then
  (if in_b x1 16 = true then
  b_d (n_I M 28 x1.toNatClampNeg ((m_I M 28 x1.toNatClampNeg) - (1 : Int32))) fun M40 =>
  l_X4_takeEntry_125 70 M40 x1 x2 x2 else none)
  else (if in_b (((8 : Int32) * x2) + x3) 4096 = true then
  (if in_b (((8 : Int32) * x1) + x3) 128 = true then
  b_d (n_J M 27 (((8 : Int32) * x1) + x3).toNatClampNeg (m_J M 33 (((8 : Int32) * x2) + x3).toNatClampNeg)) fun M43 =>
  rec_79 M43 x1 x2 (x3 + (1 : Int32)) else none) else none))
set_option maxHeartbeats 4000000 in
theorem q_X4_takeEntry_79 {v : Evx} {g : Gvx} {h : Hpx} {M' : Msx} (X : Cx_ v g cX4_takeEntry 5 RX4 "takeEntry" (none) rm_X4_takeEntry) (hMR : MR_ h) (hF : Fi_ v g rm_X4_takeEntry (none) h M') (rec_79 : Msx → Int32 → Int32 → Int32 → Option (Msx)) (hr_79 : ∀ (M : Msx) (x1 : Int32) (x2 : Int32) (x3 : Int32), rec_79 M x1 x2 x3 = some M' → At_ v g 5 h M 0 0 79 [(0, v_R (some 5)), (1, v_I x1), (2, v_I x2), (3, v_I x3)] []) (M : Msx) (x1 : Int32) (x2 : Int32) (x3 : Int32) (hm : j_X4_takeEntry_79 rec_79 M x1 x2 x3 = some M') : At_ v g 5 h M 0 0 79 [(0, v_R (some 5)), (1, v_I x1), (2, v_I x2), (3, v_I x3)] [] := by
  unfold j_X4_takeEntry_79 at hm
  refine a_iload_n X dX4_takeEntry_79 rfl ?_
  refine a_bipush (x := 8) X dX4_takeEntry_80 (by decide) ?_
  refine a_icmp_ge (tgt := 113) X dX4_takeEntry_82 (by decide) hm (fun c38 hm => ?_) (fun c38 hm => ?_)
  · refine a_aload_n X dX4_takeEntry_113 rfl ?_
    refine a_mgetA X hMR 28 (by decide) rfl rfl fl_X4_90 dX4_takeEntry_114 ?_
    refine a_iload_n X dX4_takeEntry_117 rfl ?_
    refine a_dup2 X dX4_takeEntry_118 rfl rfl ?_
    obtain ⟨b39, hm⟩ := i_c hm
    refine a_maldI X hMR 28 (by decide) rfl rfl rfl b39 dX4_takeEntry_119 ?_
    refine a_iconst (x := 1) X dX4_takeEntry_120 (by decide) ?_
    refine a_isub X dX4_takeEntry_121 ?_
    obtain ⟨M40, eM40, hm⟩ := i_d hm
    refine a_mastI X hMR 28 (by decide) rfl rfl rfl b39 dX4_takeEntry_122 ?_
    rw [← eM40]
    refine a_iload_n X dX4_takeEntry_123 rfl ?_
    refine a_istore_n (lv' := [(0, v_R (some 5)), (1, v_I x1), (2, v_I x2), (3, v_I x2)]) X dX4_takeEntry_124 (by decide) rfl ?_
    exact ql_X4_takeEntry_125 X hMR hF 70 M40 x1 x2 x2 hm
  · refine a_aload_n X dX4_takeEntry_85 rfl ?_
    refine a_mgetA X hMR 27 (by decide) rfl rfl fl_X4_87 dX4_takeEntry_86 ?_
    refine a_bipush (x := 8) X dX4_takeEntry_89 (by decide) ?_
    refine a_iload_n X dX4_takeEntry_91 rfl ?_
    refine a_imul X dX4_takeEntry_92 ?_
    refine a_iload_n X dX4_takeEntry_93 rfl ?_
    refine a_iadd X dX4_takeEntry_94 ?_
    refine a_aload_n X dX4_takeEntry_95 rfl ?_
    refine a_mgetA X hMR 33 (by decide) rfl rfl fl_X4_105 dX4_takeEntry_96 ?_
    refine a_bipush (x := 8) X dX4_takeEntry_99 (by decide) ?_
    refine a_iload_n X dX4_takeEntry_101 rfl ?_
    refine a_imul X dX4_takeEntry_102 ?_
    refine a_iload_n X dX4_takeEntry_103 rfl ?_
    refine a_iadd X dX4_takeEntry_104 ?_
    obtain ⟨b41, hm⟩ := i_c hm
    refine a_maldJ X hMR 33 (by decide) rfl rfl rfl b41 dX4_takeEntry_105 ?_
    obtain ⟨b42, hm⟩ := i_c hm
    obtain ⟨M43, eM43, hm⟩ := i_d hm
    refine a_mastJ X hMR 27 (by decide) rfl rfl rfl b42 dX4_takeEntry_106 ?_
    rw [← eM43]
    refine a_iinc (y := x3 + (1 : Int32)) (lv' := [(0, v_R (some 5)), (1, v_I x1), (2, v_I x2), (3, v_I (x3 + (1 : Int32)))]) X dX4_takeEntry_107 rfl rfl (by decide) rfl ?_
    refine a_goto (tgt := 79) X dX4_takeEntry_110 (by decide) ?_
    exact hr_79 M43 x1 x2 (x3 + (1 : Int32)) hm
def l_X4_takeEntry_79 (n : Nat) : Msx → Int32 → Int32 → Int32 → Option (Msx) := lp_ (fun rec_79 => j_X4_takeEntry_79 rec_79) (fun _ _ _ _ => none) n
theorem ql_X4_takeEntry_79 {v : Evx} {g : Gvx} {h : Hpx} {M' : Msx} (X : Cx_ v g cX4_takeEntry 5 RX4 "takeEntry" (none) rm_X4_takeEntry) (hMR : MR_ h) (hF : Fi_ v g rm_X4_takeEntry (none) h M') : ∀ (n : Nat) (M : Msx) (x1 : Int32) (x2 : Int32) (x3 : Int32), l_X4_takeEntry_79 n M x1 x2 x3 = some M' → At_ v g 5 h M 0 0 79 [(0, v_R (some 5)), (1, v_I x1), (2, v_I x2), (3, v_I x3)] [] := by
  intro n
  induction n with
  | zero => intro M x1 x2 x3 hm; cases hm
  | succ n ih =>
    intro M x1 x2 x3 hm
    exact q_X4_takeEntry_79 X hMR hF (l_X4_takeEntry_79 n) ih M x1 x2 x3 hm
def f_X4_takeEntry (M : Msx) (x1 : Int32) : Option (Msx) :=
  (if in_b x1 16 = true then
  b_d (n_I M 21 x1.toNatClampNeg ((m_I M 21 x1.toNatClampNeg) + (1 : Int32))) fun M22 =>
  (if in_b ((4 : Int32) * x1) 64 = true then
  (if in_b x1 16 = true then
  b_d (n_I M22 22 x1.toNatClampNeg (m_I M22 12 ((4 : Int32) * x1).toNatClampNeg)) fun M25 =>
  (if in_b ((32 : Int32) * x1) 512 = true then
  (if in_b x1 16 = true then
  b_d (n_I M25 23 x1.toNatClampNeg (m_I M25 29 ((32 : Int32) * x1).toNatClampNeg)) fun M28 =>
  (if in_b ((32 : Int32) * x1) 512 = true then
  (if in_b x1 16 = true then
  b_d (n_J M28 24 x1.toNatClampNeg (m_J M28 30 ((32 : Int32) * x1).toNatClampNeg)) fun M31 =>
  (if in_b ((32 : Int32) * x1) 512 = true then
  (if in_b x1 16 = true then
  b_d (n_I M31 25 x1.toNatClampNeg (m_I M31 31 ((32 : Int32) * x1).toNatClampNeg)) fun M34 =>
  (if in_b ((32 : Int32) * x1) 512 = true then
  (if in_b x1 16 = true then
  b_d (n_I M34 26 x1.toNatClampNeg (m_I M34 32 ((32 : Int32) * x1).toNatClampNeg)) fun M37 =>
  l_X4_takeEntry_79 70 M37 x1 ((32 : Int32) * x1) (0 : Int32) else none) else none) else none) else none) else none) else none) else none) else none) else none) else none) else none)
set_option maxHeartbeats 4000000 in
theorem q_X4_takeEntry_0 {v : Evx} {g : Gvx} {h : Hpx} {M' : Msx} (X : Cx_ v g cX4_takeEntry 5 RX4 "takeEntry" (none) rm_X4_takeEntry) (hMR : MR_ h) (hF : Fi_ v g rm_X4_takeEntry (none) h M') (M : Msx) (x1 : Int32) (hm : f_X4_takeEntry M x1 = some M') : At_ v g 5 h M 0 0 0 [(0, v_R (some 5)), (1, v_I x1)] [] := by
  unfold f_X4_takeEntry at hm
  refine a_bipush (x := 32) X dX4_takeEntry_0 (by decide) ?_
  refine a_iload_n X dX4_takeEntry_2 rfl ?_
  refine a_imul X dX4_takeEntry_3 ?_
  refine a_istore_n (lv' := [(0, v_R (some 5)), (1, v_I x1), (2, v_I ((32 : Int32) * x1))]) X dX4_takeEntry_4 (by decide) rfl ?_
  refine a_aload_n X dX4_takeEntry_5 rfl ?_
  refine a_mgetA X hMR 21 (by decide) rfl rfl fl_X4_69 dX4_takeEntry_6 ?_
  refine a_iload_n X dX4_takeEntry_9 rfl ?_
  refine a_dup2 X dX4_takeEntry_10 rfl rfl ?_
  obtain ⟨b21, hm⟩ := i_c hm
  refine a_maldI X hMR 21 (by decide) rfl rfl rfl b21 dX4_takeEntry_11 ?_
  refine a_iconst (x := 1) X dX4_takeEntry_12 (by decide) ?_
  refine a_iadd X dX4_takeEntry_13 ?_
  obtain ⟨M22, eM22, hm⟩ := i_d hm
  refine a_mastI X hMR 21 (by decide) rfl rfl rfl b21 dX4_takeEntry_14 ?_
  rw [← eM22]
  refine a_aload_n X dX4_takeEntry_15 rfl ?_
  refine a_mgetA X hMR 22 (by decide) rfl rfl fl_X4_72 dX4_takeEntry_16 ?_
  refine a_iload_n X dX4_takeEntry_19 rfl ?_
  refine a_aload_n X dX4_takeEntry_20 rfl ?_
  refine a_mgetA X hMR 12 (by decide) rfl rfl fl_X4_42 dX4_takeEntry_21 ?_
  refine a_iconst (x := 4) X dX4_takeEntry_24 (by decide) ?_
  refine a_iload_n X dX4_takeEntry_25 rfl ?_
  refine a_imul X dX4_takeEntry_26 ?_
  obtain ⟨b23, hm⟩ := i_c hm
  refine a_maldI X hMR 12 (by decide) rfl rfl rfl b23 dX4_takeEntry_27 ?_
  obtain ⟨b24, hm⟩ := i_c hm
  obtain ⟨M25, eM25, hm⟩ := i_d hm
  refine a_mastI X hMR 22 (by decide) rfl rfl rfl b24 dX4_takeEntry_28 ?_
  rw [← eM25]
  refine a_aload_n X dX4_takeEntry_29 rfl ?_
  refine a_mgetA X hMR 23 (by decide) rfl rfl fl_X4_75 dX4_takeEntry_30 ?_
  refine a_iload_n X dX4_takeEntry_33 rfl ?_
  refine a_aload_n X dX4_takeEntry_34 rfl ?_
  refine a_mgetA X hMR 29 (by decide) rfl rfl fl_X4_93 dX4_takeEntry_35 ?_
  refine a_iload_n X dX4_takeEntry_38 rfl ?_
  obtain ⟨b26, hm⟩ := i_c hm
  refine a_maldI X hMR 29 (by decide) rfl rfl rfl b26 dX4_takeEntry_39 ?_
  obtain ⟨b27, hm⟩ := i_c hm
  obtain ⟨M28, eM28, hm⟩ := i_d hm
  refine a_mastI X hMR 23 (by decide) rfl rfl rfl b27 dX4_takeEntry_40 ?_
  rw [← eM28]
  refine a_aload_n X dX4_takeEntry_41 rfl ?_
  refine a_mgetA X hMR 24 (by decide) rfl rfl fl_X4_78 dX4_takeEntry_42 ?_
  refine a_iload_n X dX4_takeEntry_45 rfl ?_
  refine a_aload_n X dX4_takeEntry_46 rfl ?_
  refine a_mgetA X hMR 30 (by decide) rfl rfl fl_X4_96 dX4_takeEntry_47 ?_
  refine a_iload_n X dX4_takeEntry_50 rfl ?_
  obtain ⟨b29, hm⟩ := i_c hm
  refine a_maldJ X hMR 30 (by decide) rfl rfl rfl b29 dX4_takeEntry_51 ?_
  obtain ⟨b30, hm⟩ := i_c hm
  obtain ⟨M31, eM31, hm⟩ := i_d hm
  refine a_mastJ X hMR 24 (by decide) rfl rfl rfl b30 dX4_takeEntry_52 ?_
  rw [← eM31]
  refine a_aload_n X dX4_takeEntry_53 rfl ?_
  refine a_mgetA X hMR 25 (by decide) rfl rfl fl_X4_81 dX4_takeEntry_54 ?_
  refine a_iload_n X dX4_takeEntry_57 rfl ?_
  refine a_aload_n X dX4_takeEntry_58 rfl ?_
  refine a_mgetA X hMR 31 (by decide) rfl rfl fl_X4_99 dX4_takeEntry_59 ?_
  refine a_iload_n X dX4_takeEntry_62 rfl ?_
  obtain ⟨b32, hm⟩ := i_c hm
  refine a_maldI X hMR 31 (by decide) rfl rfl rfl b32 dX4_takeEntry_63 ?_
  obtain ⟨b33, hm⟩ := i_c hm
  obtain ⟨M34, eM34, hm⟩ := i_d hm
  refine a_mastI X hMR 25 (by decide) rfl rfl rfl b33 dX4_takeEntry_64 ?_
  rw [← eM34]
  refine a_aload_n X dX4_takeEntry_65 rfl ?_
  refine a_mgetA X hMR 26 (by decide) rfl rfl fl_X4_84 dX4_takeEntry_66 ?_
  refine a_iload_n X dX4_takeEntry_69 rfl ?_
  refine a_aload_n X dX4_takeEntry_70 rfl ?_
  refine a_mgetA X hMR 32 (by decide) rfl rfl fl_X4_102 dX4_takeEntry_71 ?_
  refine a_iload_n X dX4_takeEntry_74 rfl ?_
  obtain ⟨b35, hm⟩ := i_c hm
  refine a_maldI X hMR 32 (by decide) rfl rfl rfl b35 dX4_takeEntry_75 ?_
  obtain ⟨b36, hm⟩ := i_c hm
  obtain ⟨M37, eM37, hm⟩ := i_d hm
  refine a_mastI X hMR 26 (by decide) rfl rfl rfl b36 dX4_takeEntry_76 ?_
  rw [← eM37]
  refine a_iconst (x := 0) X dX4_takeEntry_77 (by decide) ?_
  refine a_istore_n (lv' := [(0, v_R (some 5)), (1, v_I x1), (2, v_I ((32 : Int32) * x1)), (3, v_I (0 : Int32))]) X dX4_takeEntry_78 (by decide) rfl ?_
  exact ql_X4_takeEntry_79 X hMR hF 70 M37 x1 ((32 : Int32) * x1) (0 : Int32) hm
theorem c_X4_takeEntry {l : Launch} {g : Gvx} {h : Hpx} {M : Msx} {M' : Msx} {x1 : Int32} (hMR : MR_ h) (hm : f_X4_takeEntry M x1 = some M') : Mt_ l g yX4_takeEntry cX4_takeEntry 5 (none) rm_X4_takeEntry [v_R (some 5), v_I x1] h M (none) h M' := mt_of (by decide) (Nat.le_of_ble_eq_true rfl) (fun v _ X hF => q_X4_takeEntry_0 X hMR hF M x1 hm)
theorem yv_X4_takeEntry : Yv_ yX4_takeEntry cX4_takeEntry 5 (none) 1 4 := ⟨rfl, by decide, ⟨by decide, by decide, by decide +kernel⟩, co_X4_takeEntry, im_X4_takeEntry, se_X4_takeEntry, ini_X4⟩

abbrev rm_X4_echo : Room := { frames := 3, cells := 0, slots := 0, locals := 74 }
def j_X4_echo_105 (rec_105 : Msx → Int32 → Int32 → Int32 → Int32 → Int32 → Option (Msx)) (M : Msx) (x1 : Int32) (x2 : Int32) (x5 : Int32) (x6 : Int32) (x7 : Int32) : Option (Msx) :=
  (if (8 : Int32) ≤ x7 then
  (f_X4_fold M x2 x5).bind fun M42 =>
  some M42
  else (if in_b (((8 : Int32) * x1) + x7) 128 = true then
  (if in_b (((8 : Int32) * x6) + x7) 4096 = true then
  b_d (n_J M 9 (((8 : Int32) * x6) + x7).toNatClampNeg (m_J M 27 (((8 : Int32) * x1) + x7).toNatClampNeg)) fun M45 =>
  rec_105 M45 x1 x2 x5 x6 (x7 + (1 : Int32)) else none) else none))
set_option maxHeartbeats 4000000 in
theorem q_X4_echo_105 {v : Evx} {g : Gvx} {h : Hpx} {M' : Msx} (X : Cx_ v g cX4_echo 8 RX4 "echo" (none) rm_X4_echo) (hMR : MR_ h) (hF : Fi_ v g rm_X4_echo (none) h M') (rec_105 : Msx → Int32 → Int32 → Int32 → Int32 → Int32 → Option (Msx)) (hr_105 : ∀ (M : Msx) (x1 : Int32) (x2 : Int32) (x5 : Int32) (x6 : Int32) (x7 : Int32), rec_105 M x1 x2 x5 x6 x7 = some M' → At_ v g 8 h M 0 0 105 [(0, v_R (some 5)), (1, v_I x1), (2, v_I x2), (5, v_I x5), (6, v_I x6), (7, v_I x7)] []) (M : Msx) (x1 : Int32) (x2 : Int32) (x5 : Int32) (x6 : Int32) (x7 : Int32) (hm : j_X4_echo_105 rec_105 M x1 x2 x5 x6 x7 = some M') : At_ v g 8 h M 0 0 105 [(0, v_R (some 5)), (1, v_I x1), (2, v_I x2), (5, v_I x5), (6, v_I x6), (7, v_I x7)] [] := by
  unfold j_X4_echo_105 at hm
  refine a_iload X dX4_echo_105 rfl ?_
  refine a_bipush (x := 8) X dX4_echo_107 (by decide) ?_
  refine a_icmp_ge (tgt := 143) X dX4_echo_109 (by decide) hm (fun c40 hm => ?_) (fun c40 hm => ?_)
  · refine a_aload_n X dX4_echo_143 rfl ?_
    refine a_iload_n X dX4_echo_144 rfl ?_
    refine a_iload X dX4_echo_145 rfl ?_
    obtain ⟨M42, q41, hm⟩ := i_b hm
    refine a_callV (k' := 0) (n' := 0) (st := []) X (c_X4_fold hMR q41) yv_X4_fold ml_X4_207 rfl (Or.inr (mr5_ hMR)) ⟨by decide, by decide, by decide, by decide, Nat.le_of_ble_eq_true rfl⟩ rfl rfl dX4_echo_147 rfl rfl ?_
    show At_ v g 8 h M42 0 0 150 [(0, v_R (some 5)), (1, v_I x1), (2, v_I x2), (5, v_I x5), (6, v_I x6), (7, v_I x7)] []
    exact a_vret X hF ⟨rfl, Option.some.inj hm⟩ (by decide) dX4_echo_150
  · refine a_aload_n X dX4_echo_112 rfl ?_
    refine a_mgetA X hMR 9 (by decide) rfl rfl fl_X4_36 dX4_echo_113 ?_
    refine a_bipush (x := 8) X dX4_echo_116 (by decide) ?_
    refine a_iload X dX4_echo_118 rfl ?_
    refine a_imul X dX4_echo_120 ?_
    refine a_iload X dX4_echo_121 rfl ?_
    refine a_iadd X dX4_echo_123 ?_
    refine a_aload_n X dX4_echo_124 rfl ?_
    refine a_mgetA X hMR 27 (by decide) rfl rfl fl_X4_87 dX4_echo_125 ?_
    refine a_bipush (x := 8) X dX4_echo_128 (by decide) ?_
    refine a_iload_n X dX4_echo_130 rfl ?_
    refine a_imul X dX4_echo_131 ?_
    refine a_iload X dX4_echo_132 rfl ?_
    refine a_iadd X dX4_echo_134 ?_
    obtain ⟨b43, hm⟩ := i_c hm
    refine a_maldJ X hMR 27 (by decide) rfl rfl rfl b43 dX4_echo_135 ?_
    obtain ⟨b44, hm⟩ := i_c hm
    obtain ⟨M45, eM45, hm⟩ := i_d hm
    refine a_mastJ X hMR 9 (by decide) rfl rfl rfl b44 dX4_echo_136 ?_
    rw [← eM45]
    refine a_iinc (y := x7 + (1 : Int32)) (lv' := [(0, v_R (some 5)), (1, v_I x1), (2, v_I x2), (5, v_I x5), (6, v_I x6), (7, v_I (x7 + (1 : Int32)))]) X dX4_echo_137 rfl rfl (by decide) rfl ?_
    refine a_goto (tgt := 105) X dX4_echo_140 (by decide) ?_
    exact hr_105 M45 x1 x2 x5 x6 (x7 + (1 : Int32)) hm
def l_X4_echo_105 (n : Nat) : Msx → Int32 → Int32 → Int32 → Int32 → Int32 → Option (Msx) := lp_ (fun rec_105 => j_X4_echo_105 rec_105) (fun _ _ _ _ _ _ => none) n
theorem ql_X4_echo_105 {v : Evx} {g : Gvx} {h : Hpx} {M' : Msx} (X : Cx_ v g cX4_echo 8 RX4 "echo" (none) rm_X4_echo) (hMR : MR_ h) (hF : Fi_ v g rm_X4_echo (none) h M') : ∀ (n : Nat) (M : Msx) (x1 : Int32) (x2 : Int32) (x5 : Int32) (x6 : Int32) (x7 : Int32), l_X4_echo_105 n M x1 x2 x5 x6 x7 = some M' → At_ v g 8 h M 0 0 105 [(0, v_R (some 5)), (1, v_I x1), (2, v_I x2), (5, v_I x5), (6, v_I x6), (7, v_I x7)] [] := by
  intro n
  induction n with
  | zero => intro M x1 x2 x5 x6 x7 hm; cases hm
  | succ n ih =>
    intro M x1 x2 x5 x6 x7 hm
    exact q_X4_echo_105 X hMR hF (l_X4_echo_105 n) ih M x1 x2 x5 x6 x7 hm
def j_X4_echo_46 (M : Msx) (x1 : Int32) (x2 : Int32) (y1 : Int32) (y2 : Int64) : Option (Msx) :=
  (f_X4_make M y1 y2).bind fun M28 =>
  (if in_b x2 8 = true then
  (f_X4_slot M28 x2 ((m_I M28 2 x2.toNatClampNeg) - (1 : Int32))).bind fun r31 =>
  (if in_b r31 512 = true then
  b_d (n_I M28 5 r31.toNatClampNeg (0 : Int32)) fun M33 =>
  (if in_b x1 16 = true then
  (if in_b r31 512 = true then
  b_d (n_I M33 7 r31.toNatClampNeg (m_I M33 25 x1.toNatClampNeg)) fun M36 =>
  (if in_b x1 16 = true then
  (if in_b r31 512 = true then
  b_d (n_I M36 8 r31.toNatClampNeg (m_I M36 26 x1.toNatClampNeg)) fun M39 =>
  l_X4_echo_105 70 M39 x1 x2 ((m_I M28 2 x2.toNatClampNeg) - (1 : Int32)) r31 (0 : Int32) else none) else none) else none) else none) else none) else none)
set_option maxHeartbeats 4000000 in
theorem q_X4_echo_46 {v : Evx} {g : Gvx} {h : Hpx} {M' : Msx} (X : Cx_ v g cX4_echo 8 RX4 "echo" (none) rm_X4_echo) (hMR : MR_ h) (hF : Fi_ v g rm_X4_echo (none) h M') (M : Msx) (x1 : Int32) (x2 : Int32) (y1 : Int32) (y2 : Int64) (hm : j_X4_echo_46 M x1 x2 y1 y2 = some M') : At_ v g 8 h M 0 0 46 [(0, v_R (some 5)), (1, v_I x1), (2, v_I x2)] [v_J y2, v_I y1, v_R (some 5)] := by
  unfold j_X4_echo_46 at hm
  obtain ⟨M28, q27, hm⟩ := i_b hm
  refine a_callV (k' := 0) (n' := 0) (st := []) X (c_X4_make hMR q27) yv_X4_make ml_X4_196 rfl (Or.inr (mr5_ hMR)) ⟨by decide, by decide, by decide, by decide, Nat.le_of_ble_eq_true rfl⟩ rfl rfl dX4_echo_46 rfl rfl ?_
  show At_ v g 8 h M28 0 0 49 [(0, v_R (some 5)), (1, v_I x1), (2, v_I x2)] []
  refine a_aload_n X dX4_echo_49 rfl ?_
  refine a_mgetA X hMR 2 (by decide) rfl rfl fl_X4_13 dX4_echo_50 ?_
  refine a_iload_n X dX4_echo_53 rfl ?_
  obtain ⟨b29, hm⟩ := i_c hm
  refine a_maldI X hMR 2 (by decide) rfl rfl rfl b29 dX4_echo_54 ?_
  refine a_iconst (x := 1) X dX4_echo_55 (by decide) ?_
  refine a_isub X dX4_echo_56 ?_
  refine a_istore (lv' := [(0, v_R (some 5)), (1, v_I x1), (2, v_I x2), (5, v_I ((m_I M28 2 x2.toNatClampNeg) - (1 : Int32)))]) X dX4_echo_57 (by decide) rfl ?_
  refine a_aload_n X dX4_echo_59 rfl ?_
  refine a_iload_n X dX4_echo_60 rfl ?_
  refine a_iload X dX4_echo_61 rfl ?_
  obtain ⟨r31, q30, hm⟩ := i_b hm
  refine a_callV (k' := 0) (n' := 0) (st := []) X (c_X4_slot hMR q30) yv_X4_slot ml_X4_171 rfl (Or.inr (mr5_ hMR)) ⟨by decide, by decide, by decide, by decide, Nat.le_of_ble_eq_true rfl⟩ rfl rfl dX4_echo_63 rfl rfl ?_
  show At_ v g 8 h M28 0 0 66 [(0, v_R (some 5)), (1, v_I x1), (2, v_I x2), (5, v_I ((m_I M28 2 x2.toNatClampNeg) - (1 : Int32)))] [v_I r31]
  refine a_istore (lv' := [(0, v_R (some 5)), (1, v_I x1), (2, v_I x2), (5, v_I ((m_I M28 2 x2.toNatClampNeg) - (1 : Int32))), (6, v_I r31)]) X dX4_echo_66 (by decide) rfl ?_
  refine a_aload_n X dX4_echo_68 rfl ?_
  refine a_mgetA X hMR 5 (by decide) rfl rfl fl_X4_23 dX4_echo_69 ?_
  refine a_iload X dX4_echo_72 rfl ?_
  refine a_iconst (x := 0) X dX4_echo_74 (by decide) ?_
  obtain ⟨b32, hm⟩ := i_c hm
  obtain ⟨M33, eM33, hm⟩ := i_d hm
  refine a_mastZ X hMR 5 (by decide) rfl rfl rfl b32 (Or.inl rfl) dX4_echo_75 ?_
  rw [← eM33]
  refine a_aload_n X dX4_echo_76 rfl ?_
  refine a_mgetA X hMR 7 (by decide) rfl rfl fl_X4_30 dX4_echo_77 ?_
  refine a_iload X dX4_echo_80 rfl ?_
  refine a_aload_n X dX4_echo_82 rfl ?_
  refine a_mgetA X hMR 25 (by decide) rfl rfl fl_X4_81 dX4_echo_83 ?_
  refine a_iload_n X dX4_echo_86 rfl ?_
  obtain ⟨b34, hm⟩ := i_c hm
  refine a_maldI X hMR 25 (by decide) rfl rfl rfl b34 dX4_echo_87 ?_
  obtain ⟨b35, hm⟩ := i_c hm
  obtain ⟨M36, eM36, hm⟩ := i_d hm
  refine a_mastI X hMR 7 (by decide) rfl rfl rfl b35 dX4_echo_88 ?_
  rw [← eM36]
  refine a_aload_n X dX4_echo_89 rfl ?_
  refine a_mgetA X hMR 8 (by decide) rfl rfl fl_X4_33 dX4_echo_90 ?_
  refine a_iload X dX4_echo_93 rfl ?_
  refine a_aload_n X dX4_echo_95 rfl ?_
  refine a_mgetA X hMR 26 (by decide) rfl rfl fl_X4_84 dX4_echo_96 ?_
  refine a_iload_n X dX4_echo_99 rfl ?_
  obtain ⟨b37, hm⟩ := i_c hm
  refine a_maldI X hMR 26 (by decide) rfl rfl rfl b37 dX4_echo_100 ?_
  obtain ⟨b38, hm⟩ := i_c hm
  obtain ⟨M39, eM39, hm⟩ := i_d hm
  refine a_mastI X hMR 8 (by decide) rfl rfl rfl b38 dX4_echo_101 ?_
  rw [← eM39]
  refine a_iconst (x := 0) X dX4_echo_102 (by decide) ?_
  refine a_istore (lv' := [(0, v_R (some 5)), (1, v_I x1), (2, v_I x2), (5, v_I ((m_I M28 2 x2.toNatClampNeg) - (1 : Int32))), (6, v_I r31), (7, v_I (0 : Int32))]) X dX4_echo_103 (by decide) rfl ?_
  exact ql_X4_echo_105 X hMR hF 70 M39 x1 x2 ((m_I M28 2 x2.toNatClampNeg) - (1 : Int32)) r31 (0 : Int32) hm
def j_X4_echo_45 (M : Msx) (x1 : Int32) (x2 : Int32) (x3 : Int64) (y1 : Int32) : Option (Msx) :=
  j_X4_echo_46 M x1 x2 y1 x3
set_option maxHeartbeats 4000000 in
theorem q_X4_echo_45 {v : Evx} {g : Gvx} {h : Hpx} {M' : Msx} (X : Cx_ v g cX4_echo 8 RX4 "echo" (none) rm_X4_echo) (hMR : MR_ h) (hF : Fi_ v g rm_X4_echo (none) h M') (M : Msx) (x1 : Int32) (x2 : Int32) (x3 : Int64) (y1 : Int32) (hm : j_X4_echo_45 M x1 x2 x3 y1 = some M') : At_ v g 8 h M 0 0 45 [(0, v_R (some 5)), (1, v_I x1), (2, v_I x2), (3, v_J x3)] [v_I y1, v_R (some 5)] := by
  unfold j_X4_echo_45 at hm
  refine a_lload_n X dX4_echo_45 rfl ?_
  refine a_pick (lv' := [(0, v_R (some 5)), (1, v_I x1), (2, v_I x2)]) [0, 1, 2] rfl ?_
  exact q_X4_echo_46 X hMR hF M x1 x2 y1 x3 hm
def f_X4_echo (M : Msx) (x1 : Int32) : Option (Msx) :=
  (if in_b x1 16 = true then
  (if in_b x1 16 = true then
  (if in_b (m_I M 17 x1.toNatClampNeg) 8 = true then
  (if (m_I M 2 (m_I M 17 x1.toNatClampNeg).toNatClampNeg) ≤ 0 then
  j_X4_echo_45 M x1 (m_I M 17 x1.toNatClampNeg) (m_J M 24 x1.toNatClampNeg) (m_I M 17 x1.toNatClampNeg)
  else (if in_b (m_I M 17 x1.toNatClampNeg) 8 = true then
  (if 0 ≤ (lg_cmp (m_J M 24 x1.toNatClampNeg) (m_J M 4 (m_I M 17 x1.toNatClampNeg).toNatClampNeg)) then
  j_X4_echo_45 M x1 (m_I M 17 x1.toNatClampNeg) (m_J M 24 x1.toNatClampNeg) (m_I M 17 x1.toNatClampNeg)
  else j_X4_echo_46 M x1 (m_I M 17 x1.toNatClampNeg) (m_I M 17 x1.toNatClampNeg) (m_J M 4 (m_I M 17 x1.toNatClampNeg).toNatClampNeg)) else none)) else none) else none) else none)
set_option maxHeartbeats 4000000 in
theorem q_X4_echo_0 {v : Evx} {g : Gvx} {h : Hpx} {M' : Msx} (X : Cx_ v g cX4_echo 8 RX4 "echo" (none) rm_X4_echo) (hMR : MR_ h) (hF : Fi_ v g rm_X4_echo (none) h M') (M : Msx) (x1 : Int32) (hm : f_X4_echo M x1 = some M') : At_ v g 8 h M 0 0 0 [(0, v_R (some 5)), (1, v_I x1)] [] := by
  unfold f_X4_echo at hm
  refine a_aload_n X dX4_echo_0 rfl ?_
  refine a_mgetA X hMR 17 (by decide) rfl rfl fl_X4_57 dX4_echo_1 ?_
  refine a_iload_n X dX4_echo_4 rfl ?_
  obtain ⟨b21, hm⟩ := i_c hm
  refine a_maldI X hMR 17 (by decide) rfl rfl rfl b21 dX4_echo_5 ?_
  refine a_istore_n (lv' := [(0, v_R (some 5)), (1, v_I x1), (2, v_I (m_I M 17 x1.toNatClampNeg))]) X dX4_echo_6 (by decide) rfl ?_
  refine a_aload_n X dX4_echo_7 rfl ?_
  refine a_mgetA X hMR 24 (by decide) rfl rfl fl_X4_78 dX4_echo_8 ?_
  refine a_iload_n X dX4_echo_11 rfl ?_
  obtain ⟨b22, hm⟩ := i_c hm
  refine a_maldJ X hMR 24 (by decide) rfl rfl rfl b22 dX4_echo_12 ?_
  refine a_lstore_n (lv' := [(0, v_R (some 5)), (1, v_I x1), (2, v_I (m_I M 17 x1.toNatClampNeg)), (3, v_J (m_J M 24 x1.toNatClampNeg))]) X dX4_echo_13 (by decide) rfl ?_
  refine a_aload_n X dX4_echo_14 rfl ?_
  refine a_iload_n X dX4_echo_15 rfl ?_
  refine a_aload_n X dX4_echo_16 rfl ?_
  refine a_mgetA X hMR 2 (by decide) rfl rfl fl_X4_13 dX4_echo_17 ?_
  refine a_iload_n X dX4_echo_20 rfl ?_
  obtain ⟨b23, hm⟩ := i_c hm
  refine a_maldI X hMR 2 (by decide) rfl rfl rfl b23 dX4_echo_21 ?_
  refine a_if_le (tgt := 45) X dX4_echo_22 (by decide) hm (fun c24 hm => ?_) (fun c24 hm => ?_)
  · exact q_X4_echo_45 X hMR hF M x1 (m_I M 17 x1.toNatClampNeg) (m_J M 24 x1.toNatClampNeg) (m_I M 17 x1.toNatClampNeg) hm
  · refine a_lload_n X dX4_echo_25 rfl ?_
    refine a_aload_n X dX4_echo_26 rfl ?_
    refine a_mgetA X hMR 4 (by decide) rfl rfl fl_X4_19 dX4_echo_27 ?_
    refine a_iload_n X dX4_echo_30 rfl ?_
    obtain ⟨b25, hm⟩ := i_c hm
    refine a_maldJ X hMR 4 (by decide) rfl rfl rfl b25 dX4_echo_31 ?_
    refine a_lcmp X dX4_echo_32 ?_
    refine a_if_ge (tgt := 45) X dX4_echo_33 (by decide) hm (fun c26 hm => ?_) (fun c26 hm => ?_)
    · exact q_X4_echo_45 X hMR hF M x1 (m_I M 17 x1.toNatClampNeg) (m_J M 24 x1.toNatClampNeg) (m_I M 17 x1.toNatClampNeg) hm
    · refine a_aload_n X dX4_echo_36 rfl ?_
      refine a_mgetA X hMR 4 (by decide) rfl rfl fl_X4_19 dX4_echo_37 ?_
      refine a_iload_n X dX4_echo_40 rfl ?_
      refine a_maldJ X hMR 4 (by decide) rfl rfl rfl b25 dX4_echo_41 ?_
      refine a_goto (tgt := 46) X dX4_echo_42 (by decide) ?_
      refine a_pick (lv' := [(0, v_R (some 5)), (1, v_I x1), (2, v_I (m_I M 17 x1.toNatClampNeg))]) [0, 1, 2] rfl ?_
      exact q_X4_echo_46 X hMR hF M x1 (m_I M 17 x1.toNatClampNeg) (m_I M 17 x1.toNatClampNeg) (m_J M 4 (m_I M 17 x1.toNatClampNeg).toNatClampNeg) hm
theorem c_X4_echo {l : Launch} {g : Gvx} {h : Hpx} {M : Msx} {M' : Msx} {x1 : Int32} (hMR : MR_ h) (hm : f_X4_echo M x1 = some M') : Mt_ l g yX4_echo cX4_echo 8 (none) rm_X4_echo [v_R (some 5), v_I x1] h M (none) h M' := mt_of (by decide) (Nat.le_of_ble_eq_true rfl) (fun v _ X hF => q_X4_echo_0 X hMR hF M x1 hm)
theorem yv_X4_echo : Yv_ yX4_echo cX4_echo 8 (none) 1 4 := ⟨rfl, by decide, ⟨by decide, by decide, by decide +kernel⟩, co_X4_echo, im_X4_echo, se_X4_echo, ini_X4⟩

abbrev rm_X4_miss : Room := { frames := 0, cells := 0, slots := 0, locals := 0 }
def f_X4_miss (M : Msx) (x1 : Int32) (x2 : Int32) : Option (Msx) :=
  (if in_b ((4 : Int32) * x1) 64 = true then
  (if x2 ≤ (m_I M 13 ((4 : Int32) * x1).toNatClampNeg) then
  some M
  else (if in_b x1 16 = true then
  b_d (n_I M 18 x1.toNatClampNeg ((m_I M 18 x1.toNatClampNeg) + (x2 - (m_I M 13 ((4 : Int32) * x1).toNatClampNeg)))) fun M24 =>
  (if in_b x1 16 = true then
  b_d (n_I M24 19 x1.toNatClampNeg (m_I M 13 ((4 : Int32) * x1).toNatClampNeg)) fun M26 =>
  (if in_b x1 16 = true then
  b_d (n_I M26 20 x1.toNatClampNeg (x2 - (1 : Int32))) fun M28 =>
  b_d (n_I M28 13 ((4 : Int32) * x1).toNatClampNeg x2) fun M29 =>
  some M29 else none) else none) else none)) else none)
set_option maxHeartbeats 4000000 in
theorem q_X4_miss_0 {v : Evx} {g : Gvx} {h : Hpx} {M' : Msx} (X : Cx_ v g cX4_miss 4 RX4 "miss" (none) rm_X4_miss) (hMR : MR_ h) (hF : Fi_ v g rm_X4_miss (none) h M') (M : Msx) (x1 : Int32) (x2 : Int32) (hm : f_X4_miss M x1 x2 = some M') : At_ v g 4 h M 0 0 0 [(0, v_R (some 5)), (1, v_I x1), (2, v_I x2)] [] := by
  unfold f_X4_miss at hm
  refine a_aload_n X dX4_miss_0 rfl ?_
  refine a_mgetA X hMR 13 (by decide) rfl rfl fl_X4_45 dX4_miss_1 ?_
  refine a_iconst (x := 4) X dX4_miss_4 (by decide) ?_
  refine a_iload_n X dX4_miss_5 rfl ?_
  refine a_imul X dX4_miss_6 ?_
  obtain ⟨b21, hm⟩ := i_c hm
  refine a_maldI X hMR 13 (by decide) rfl rfl rfl b21 dX4_miss_7 ?_
  refine a_istore_n (lv' := [(0, v_R (some 5)), (1, v_I x1), (2, v_I x2), (3, v_I (m_I M 13 ((4 : Int32) * x1).toNatClampNeg))]) X dX4_miss_8 (by decide) rfl ?_
  refine a_iload_n X dX4_miss_9 rfl ?_
  refine a_iload_n X dX4_miss_10 rfl ?_
  refine a_icmp_le (tgt := 51) X dX4_miss_11 (by decide) hm (fun c22 hm => ?_) (fun c22 hm => ?_)
  · exact a_vret X hF ⟨rfl, Option.some.inj hm⟩ (by decide) dX4_miss_51
  · refine a_aload_n X dX4_miss_14 rfl ?_
    refine a_mgetA X hMR 18 (by decide) rfl rfl fl_X4_60 dX4_miss_15 ?_
    refine a_iload_n X dX4_miss_18 rfl ?_
    refine a_dup2 X dX4_miss_19 rfl rfl ?_
    obtain ⟨b23, hm⟩ := i_c hm
    refine a_maldI X hMR 18 (by decide) rfl rfl rfl b23 dX4_miss_20 ?_
    refine a_iload_n X dX4_miss_21 rfl ?_
    refine a_iload_n X dX4_miss_22 rfl ?_
    refine a_isub X dX4_miss_23 ?_
    refine a_iadd X dX4_miss_24 ?_
    obtain ⟨M24, eM24, hm⟩ := i_d hm
    refine a_mastI X hMR 18 (by decide) rfl rfl rfl b23 dX4_miss_25 ?_
    rw [← eM24]
    refine a_aload_n X dX4_miss_26 rfl ?_
    refine a_mgetA X hMR 19 (by decide) rfl rfl fl_X4_63 dX4_miss_27 ?_
    refine a_iload_n X dX4_miss_30 rfl ?_
    refine a_iload_n X dX4_miss_31 rfl ?_
    obtain ⟨b25, hm⟩ := i_c hm
    obtain ⟨M26, eM26, hm⟩ := i_d hm
    refine a_mastI X hMR 19 (by decide) rfl rfl rfl b25 dX4_miss_32 ?_
    rw [← eM26]
    refine a_aload_n X dX4_miss_33 rfl ?_
    refine a_mgetA X hMR 20 (by decide) rfl rfl fl_X4_66 dX4_miss_34 ?_
    refine a_iload_n X dX4_miss_37 rfl ?_
    refine a_iload_n X dX4_miss_38 rfl ?_
    refine a_iconst (x := 1) X dX4_miss_39 (by decide) ?_
    refine a_isub X dX4_miss_40 ?_
    obtain ⟨b27, hm⟩ := i_c hm
    obtain ⟨M28, eM28, hm⟩ := i_d hm
    refine a_mastI X hMR 20 (by decide) rfl rfl rfl b27 dX4_miss_41 ?_
    rw [← eM28]
    refine a_aload_n X dX4_miss_42 rfl ?_
    refine a_mgetA X hMR 13 (by decide) rfl rfl fl_X4_45 dX4_miss_43 ?_
    refine a_iconst (x := 4) X dX4_miss_46 (by decide) ?_
    refine a_iload_n X dX4_miss_47 rfl ?_
    refine a_imul X dX4_miss_48 ?_
    refine a_iload_n X dX4_miss_49 rfl ?_
    obtain ⟨M29, eM29, hm⟩ := i_d hm
    refine a_mastI X hMR 13 (by decide) rfl rfl rfl b21 dX4_miss_50 ?_
    rw [← eM29]
    exact a_vret X hF ⟨rfl, Option.some.inj hm⟩ (by decide) dX4_miss_51
theorem c_X4_miss {l : Launch} {g : Gvx} {h : Hpx} {M : Msx} {M' : Msx} {x1 : Int32} {x2 : Int32} (hMR : MR_ h) (hm : f_X4_miss M x1 x2 = some M') : Mt_ l g yX4_miss cX4_miss 4 (none) rm_X4_miss [v_R (some 5), v_I x1, v_I x2] h M (none) h M' := mt_of (by decide) (Nat.le_of_ble_eq_true rfl) (fun v _ X hF => q_X4_miss_0 X hMR hF M x1 x2 hm)
theorem yv_X4_miss : Yv_ yX4_miss cX4_miss 4 (none) 2 4 := ⟨rfl, by decide, ⟨by decide, by decide, by decide +kernel⟩, co_X4_miss, im_X4_miss, se_X4_miss, ini_X4⟩

abbrev rm_X4_takeLeast : Room := { frames := 2, cells := 0, slots := 0, locals := 47 }
def j_X4_takeLeast_136 (rec_4 : Msx → Int32 → Int32 → Int32 → Option (Msx)) (M : Msx) (x1 : Int32) (x3 : Int32) : Option (Msx) :=
  rec_4 M x1 x3 (x3 + (1 : Int32))
set_option maxHeartbeats 4000000 in
theorem q_X4_takeLeast_136 {v : Evx} {g : Gvx} {h : Hpx} {M' : Msx} (X : Cx_ v g cX4_takeLeast 10 RX4 "takeLeast" (none) rm_X4_takeLeast) (hMR : MR_ h) (hF : Fi_ v g rm_X4_takeLeast (none) h M') (rec_4 : Msx → Int32 → Int32 → Int32 → Option (Msx)) (hr_4 : ∀ (M : Msx) (x1 : Int32) (x2 : Int32) (x3 : Int32), rec_4 M x1 x2 x3 = some M' → At_ v g 10 h M 0 0 4 [(0, v_R (some 5)), (1, v_I x1), (2, v_I x2), (3, v_I x3)] []) (M : Msx) (x1 : Int32) (x3 : Int32) (hm : j_X4_takeLeast_136 rec_4 M x1 x3 = some M') : At_ v g 10 h M 0 0 136 [(0, v_R (some 5)), (1, v_I x1), (3, v_I x3)] [] := by
  unfold j_X4_takeLeast_136 at hm
  refine a_iload_n X dX4_takeLeast_136 rfl ?_
  refine a_goto (tgt := 141) X dX4_takeLeast_137 (by decide) ?_
  refine a_istore_n (lv' := [(0, v_R (some 5)), (1, v_I x1), (2, v_I x3), (3, v_I x3)]) X dX4_takeLeast_141 (by decide) rfl ?_
  refine a_iinc (y := x3 + (1 : Int32)) (lv' := [(0, v_R (some 5)), (1, v_I x1), (2, v_I x3), (3, v_I (x3 + (1 : Int32)))]) X dX4_takeLeast_142 rfl rfl (by decide) rfl ?_
  refine a_goto (tgt := 4) X dX4_takeLeast_145 (by decide) ?_
  exact hr_4 M x1 x3 (x3 + (1 : Int32)) hm
def j_X4_takeLeast_107 (rec_4 : Msx → Int32 → Int32 → Int32 → Option (Msx)) (M : Msx) (x1 : Int32) (x2 : Int32) (x3 : Int32) (x4 : Int32) (x5 : Int64) (x7 : Int32) (y0 : Int64) : Option (Msx) :=
  (if x2 < 0 then
  j_X4_takeLeast_136 rec_4 M x1 x3
  else (if (lg_cmp x5 y0) < 0 then
  j_X4_takeLeast_136 rec_4 M x1 x3
  else (if (lg_cmp x5 y0) = 0 then
  (if x7 ≤ x4 then
  rec_4 M x1 x2 (x3 + (1 : Int32))
  else j_X4_takeLeast_136 rec_4 M x1 x3)
  else rec_4 M x1 x2 (x3 + (1 : Int32)))))
set_option maxHeartbeats 4000000 in
theorem q_X4_takeLeast_107 {v : Evx} {g : Gvx} {h : Hpx} {M' : Msx} (X : Cx_ v g cX4_takeLeast 10 RX4 "takeLeast" (none) rm_X4_takeLeast) (hMR : MR_ h) (hF : Fi_ v g rm_X4_takeLeast (none) h M') (rec_4 : Msx → Int32 → Int32 → Int32 → Option (Msx)) (hr_4 : ∀ (M : Msx) (x1 : Int32) (x2 : Int32) (x3 : Int32), rec_4 M x1 x2 x3 = some M' → At_ v g 10 h M 0 0 4 [(0, v_R (some 5)), (1, v_I x1), (2, v_I x2), (3, v_I x3)] []) (M : Msx) (x1 : Int32) (x2 : Int32) (x3 : Int32) (x4 : Int32) (x5 : Int64) (x7 : Int32) (y0 : Int64) (hm : j_X4_takeLeast_107 rec_4 M x1 x2 x3 x4 x5 x7 y0 = some M') : At_ v g 10 h M 0 0 107 [(0, v_R (some 5)), (1, v_I x1), (2, v_I x2), (3, v_I x3), (4, v_I x4), (5, v_J x5), (7, v_I x7)] [v_J y0] := by
  unfold j_X4_takeLeast_107 at hm
  refine a_lstore (lv' := [(0, v_R (some 5)), (1, v_I x1), (2, v_I x2), (3, v_I x3), (4, v_I x4), (5, v_J x5), (7, v_I x7), (8, v_J y0)]) X dX4_takeLeast_107 (by decide) rfl ?_
  refine a_iload_n X dX4_takeLeast_109 rfl ?_
  refine a_if_lt (tgt := 136) X dX4_takeLeast_110 (by decide) hm (fun c43 hm => ?_) (fun c43 hm => ?_)
  · refine a_pick (lv' := [(0, v_R (some 5)), (1, v_I x1), (3, v_I x3)]) [0, 1, 3] rfl ?_
    exact q_X4_takeLeast_136 X hMR hF rec_4 hr_4 M x1 x3 hm
  · refine a_lload X dX4_takeLeast_113 rfl ?_
    refine a_lload X dX4_takeLeast_115 rfl ?_
    refine a_lcmp X dX4_takeLeast_117 ?_
    refine a_if_lt (tgt := 136) X dX4_takeLeast_118 (by decide) hm (fun c44 hm => ?_) (fun c44 hm => ?_)
    · refine a_pick (lv' := [(0, v_R (some 5)), (1, v_I x1), (3, v_I x3)]) [0, 1, 3] rfl ?_
      exact q_X4_takeLeast_136 X hMR hF rec_4 hr_4 M x1 x3 hm
    · refine a_lload X dX4_takeLeast_121 rfl ?_
      refine a_lload X dX4_takeLeast_123 rfl ?_
      refine a_lcmp X dX4_takeLeast_125 ?_
      refine a_if_ne (tgt := 140) X dX4_takeLeast_126 (by decide) hm (fun c45 hm => ?_) (fun c45 hm => ?_)
      · refine a_iload_n X dX4_takeLeast_140 rfl ?_
        refine a_istore_n (lv' := [(0, v_R (some 5)), (1, v_I x1), (2, v_I x2), (3, v_I x3), (4, v_I x4), (5, v_J x5), (7, v_I x7), (8, v_J y0)]) X dX4_takeLeast_141 (by decide) rfl ?_
        refine a_iinc (y := x3 + (1 : Int32)) (lv' := [(0, v_R (some 5)), (1, v_I x1), (2, v_I x2), (3, v_I (x3 + (1 : Int32))), (4, v_I x4), (5, v_J x5), (7, v_I x7), (8, v_J y0)]) X dX4_takeLeast_142 rfl rfl (by decide) rfl ?_
        refine a_goto (tgt := 4) X dX4_takeLeast_145 (by decide) ?_
        refine a_pick (lv' := [(0, v_R (some 5)), (1, v_I x1), (2, v_I x2), (3, v_I (x3 + (1 : Int32)))]) [0, 1, 2, 3] rfl ?_
        exact hr_4 M x1 x2 (x3 + (1 : Int32)) hm
      · refine a_iload X dX4_takeLeast_129 rfl ?_
        refine a_iload X dX4_takeLeast_131 rfl ?_
        refine a_icmp_ge (tgt := 140) X dX4_takeLeast_133 (by decide) hm (fun c46 hm => ?_) (fun c46 hm => ?_)
        · refine a_iload_n X dX4_takeLeast_140 rfl ?_
          refine a_istore_n (lv' := [(0, v_R (some 5)), (1, v_I x1), (2, v_I x2), (3, v_I x3), (4, v_I x4), (5, v_J x5), (7, v_I x7), (8, v_J y0)]) X dX4_takeLeast_141 (by decide) rfl ?_
          refine a_iinc (y := x3 + (1 : Int32)) (lv' := [(0, v_R (some 5)), (1, v_I x1), (2, v_I x2), (3, v_I (x3 + (1 : Int32))), (4, v_I x4), (5, v_J x5), (7, v_I x7), (8, v_J y0)]) X dX4_takeLeast_142 rfl rfl (by decide) rfl ?_
          refine a_goto (tgt := 4) X dX4_takeLeast_145 (by decide) ?_
          refine a_pick (lv' := [(0, v_R (some 5)), (1, v_I x1), (2, v_I x2), (3, v_I (x3 + (1 : Int32)))]) [0, 1, 2, 3] rfl ?_
          exact hr_4 M x1 x2 (x3 + (1 : Int32)) hm
        · refine a_pick (lv' := [(0, v_R (some 5)), (1, v_I x1), (3, v_I x3)]) [0, 1, 3] rfl ?_
          exact q_X4_takeLeast_136 X hMR hF rec_4 hr_4 M x1 x3 hm
def j_X4_takeLeast_76 (rec_4 : Msx → Int32 → Int32 → Int32 → Option (Msx)) (M : Msx) (x1 : Int32) (x2 : Int32) (x3 : Int32) (x4 : Int32) (x5 : Int64) (y0 : Int32) : Option (Msx) :=
  (if 0 ≤ x2 then
  (if in_b (((4 : Int32) * x1) + x2) 64 = true then
  (f_X4_slot M y0 (m_I M 13 (((4 : Int32) * x1) + x2).toNatClampNeg)).bind fun r41 =>
  (if in_b r41 512 = true then
  j_X4_takeLeast_107 rec_4 M x1 x2 x3 x4 x5 y0 (m_J M 6 r41.toNatClampNeg) else none) else none)
  else j_X4_takeLeast_107 rec_4 M x1 x2 x3 x4 x5 y0 (0 : Int64))
set_option maxHeartbeats 4000000 in
theorem q_X4_takeLeast_76 {v : Evx} {g : Gvx} {h : Hpx} {M' : Msx} (X : Cx_ v g cX4_takeLeast 10 RX4 "takeLeast" (none) rm_X4_takeLeast) (hMR : MR_ h) (hF : Fi_ v g rm_X4_takeLeast (none) h M') (rec_4 : Msx → Int32 → Int32 → Int32 → Option (Msx)) (hr_4 : ∀ (M : Msx) (x1 : Int32) (x2 : Int32) (x3 : Int32), rec_4 M x1 x2 x3 = some M' → At_ v g 10 h M 0 0 4 [(0, v_R (some 5)), (1, v_I x1), (2, v_I x2), (3, v_I x3)] []) (M : Msx) (x1 : Int32) (x2 : Int32) (x3 : Int32) (x4 : Int32) (x5 : Int64) (y0 : Int32) (hm : j_X4_takeLeast_76 rec_4 M x1 x2 x3 x4 x5 y0 = some M') : At_ v g 10 h M 0 0 76 [(0, v_R (some 5)), (1, v_I x1), (2, v_I x2), (3, v_I x3), (4, v_I x4), (5, v_J x5)] [v_I y0] := by
  unfold j_X4_takeLeast_76 at hm
  refine a_istore (lv' := [(0, v_R (some 5)), (1, v_I x1), (2, v_I x2), (3, v_I x3), (4, v_I x4), (5, v_J x5), (7, v_I y0)]) X dX4_takeLeast_76 (by decide) rfl ?_
  refine a_iload_n X dX4_takeLeast_78 rfl ?_
  refine a_if_ge (tgt := 86) X dX4_takeLeast_79 (by decide) hm (fun c38 hm => ?_) (fun c38 hm => ?_)
  · refine a_aload_n X dX4_takeLeast_86 rfl ?_
    refine a_mgetA X hMR 6 (by decide) rfl rfl fl_X4_27 dX4_takeLeast_87 ?_
    refine a_aload_n X dX4_takeLeast_90 rfl ?_
    refine a_iload X dX4_takeLeast_91 rfl ?_
    refine a_aload_n X dX4_takeLeast_93 rfl ?_
    refine a_mgetA X hMR 13 (by decide) rfl rfl fl_X4_45 dX4_takeLeast_94 ?_
    refine a_iconst (x := 4) X dX4_takeLeast_97 (by decide) ?_
    refine a_iload_n X dX4_takeLeast_98 rfl ?_
    refine a_imul X dX4_takeLeast_99 ?_
    refine a_iload_n X dX4_takeLeast_100 rfl ?_
    refine a_iadd X dX4_takeLeast_101 ?_
    obtain ⟨b39, hm⟩ := i_c hm
    refine a_maldI X hMR 13 (by decide) rfl rfl rfl b39 dX4_takeLeast_102 ?_
    obtain ⟨r41, q40, hm⟩ := i_b hm
    refine a_callV (k' := 0) (n' := 0) (st := [v_R (some 11)]) X (c_X4_slot hMR q40) yv_X4_slot ml_X4_171 rfl (Or.inr (mr5_ hMR)) ⟨by decide, by decide, by decide, by decide, Nat.le_of_ble_eq_true rfl⟩ rfl rfl dX4_takeLeast_103 rfl rfl ?_
    show At_ v g 10 h M 0 0 106 [(0, v_R (some 5)), (1, v_I x1), (2, v_I x2), (3, v_I x3), (4, v_I x4), (5, v_J x5), (7, v_I y0)] [v_I r41, v_R (some 11)]
    obtain ⟨b42, hm⟩ := i_c hm
    refine a_maldJ X hMR 6 (by decide) rfl rfl rfl b42 dX4_takeLeast_106 ?_
    exact q_X4_takeLeast_107 X hMR hF rec_4 hr_4 M x1 x2 x3 x4 x5 y0 (m_J M 6 r41.toNatClampNeg) hm
  · refine a_lconst (x := 0) X dX4_takeLeast_82 (by decide) ?_
    refine a_goto (tgt := 107) X dX4_takeLeast_83 (by decide) ?_
    exact q_X4_takeLeast_107 X hMR hF rec_4 hr_4 M x1 x2 x3 x4 x5 y0 (0 : Int64) hm
def j_X4_takeLeast_4 (rec_4 : Msx → Int32 → Int32 → Int32 → Option (Msx)) (M : Msx) (x1 : Int32) (x2 : Int32) (x3 : Int32) : Option (Msx) :=
  (if in_b x1 16 = true then
  (if (m_I M 14 x1.toNatClampNeg) ≤ x3 then
  (if in_b (((4 : Int32) * x1) + x2) 64 = true then
  (if in_b (((4 : Int32) * x1) + x2) 64 = true then
  (f_X4_take M x1 (m_I M 12 (((4 : Int32) * x1) + x2).toNatClampNeg) (m_I M 13 (((4 : Int32) * x1) + x2).toNatClampNeg)).bind fun M26 =>
  b_d (n_I M26 13 (((4 : Int32) * x1) + x2).toNatClampNeg ((m_I M26 13 (((4 : Int32) * x1) + x2).toNatClampNeg) + (1 : Int32))) fun M27 =>
  some M27 else none) else none)
  else (f_X4_isPassed M x1 x3).bind fun r29 =>
  (if r29 = 0 then
  (if in_b (((4 : Int32) * x1) + x3) 64 = true then
  (if in_b (((4 : Int32) * x1) + x3) 64 = true then
  (f_X4_slot M (m_I M 12 (((4 : Int32) * x1) + x3).toNatClampNeg) (m_I M 13 (((4 : Int32) * x1) + x3).toNatClampNeg)).bind fun r34 =>
  (if in_b r34 512 = true then
  (if 0 ≤ x2 then
  (if in_b (((4 : Int32) * x1) + x2) 64 = true then
  j_X4_takeLeast_76 rec_4 M x1 x2 x3 (m_I M 12 (((4 : Int32) * x1) + x3).toNatClampNeg) (m_J M 6 r34.toNatClampNeg) (m_I M 12 (((4 : Int32) * x1) + x2).toNatClampNeg) else none)
  else j_X4_takeLeast_76 rec_4 M x1 x2 x3 (m_I M 12 (((4 : Int32) * x1) + x3).toNatClampNeg) (m_J M 6 r34.toNatClampNeg) (0 : Int32)) else none) else none) else none)
  else rec_4 M x1 x2 (x3 + (1 : Int32)))) else none)
set_option maxHeartbeats 4000000 in
theorem q_X4_takeLeast_4 {v : Evx} {g : Gvx} {h : Hpx} {M' : Msx} (X : Cx_ v g cX4_takeLeast 10 RX4 "takeLeast" (none) rm_X4_takeLeast) (hMR : MR_ h) (hF : Fi_ v g rm_X4_takeLeast (none) h M') (rec_4 : Msx → Int32 → Int32 → Int32 → Option (Msx)) (hr_4 : ∀ (M : Msx) (x1 : Int32) (x2 : Int32) (x3 : Int32), rec_4 M x1 x2 x3 = some M' → At_ v g 10 h M 0 0 4 [(0, v_R (some 5)), (1, v_I x1), (2, v_I x2), (3, v_I x3)] []) (M : Msx) (x1 : Int32) (x2 : Int32) (x3 : Int32) (hm : j_X4_takeLeast_4 rec_4 M x1 x2 x3 = some M') : At_ v g 10 h M 0 0 4 [(0, v_R (some 5)), (1, v_I x1), (2, v_I x2), (3, v_I x3)] [] := by
  unfold j_X4_takeLeast_4 at hm
  refine a_iload_n X dX4_takeLeast_4 rfl ?_
  refine a_aload_n X dX4_takeLeast_5 rfl ?_
  refine a_mgetA X hMR 14 (by decide) rfl rfl fl_X4_48 dX4_takeLeast_6 ?_
  refine a_iload_n X dX4_takeLeast_9 rfl ?_
  obtain ⟨b21, hm⟩ := i_c hm
  refine a_maldI X hMR 14 (by decide) rfl rfl rfl b21 dX4_takeLeast_10 ?_
  refine a_icmp_ge (tgt := 148) X dX4_takeLeast_11 (by decide) hm (fun c22 hm => ?_) (fun c22 hm => ?_)
  · refine a_aload_n X dX4_takeLeast_148 rfl ?_
    refine a_iload_n X dX4_takeLeast_149 rfl ?_
    refine a_aload_n X dX4_takeLeast_150 rfl ?_
    refine a_mgetA X hMR 12 (by decide) rfl rfl fl_X4_42 dX4_takeLeast_151 ?_
    refine a_iconst (x := 4) X dX4_takeLeast_154 (by decide) ?_
    refine a_iload_n X dX4_takeLeast_155 rfl ?_
    refine a_imul X dX4_takeLeast_156 ?_
    refine a_iload_n X dX4_takeLeast_157 rfl ?_
    refine a_iadd X dX4_takeLeast_158 ?_
    obtain ⟨b23, hm⟩ := i_c hm
    refine a_maldI X hMR 12 (by decide) rfl rfl rfl b23 dX4_takeLeast_159 ?_
    refine a_aload_n X dX4_takeLeast_160 rfl ?_
    refine a_mgetA X hMR 13 (by decide) rfl rfl fl_X4_45 dX4_takeLeast_161 ?_
    refine a_iconst (x := 4) X dX4_takeLeast_164 (by decide) ?_
    refine a_iload_n X dX4_takeLeast_165 rfl ?_
    refine a_imul X dX4_takeLeast_166 ?_
    refine a_iload_n X dX4_takeLeast_167 rfl ?_
    refine a_iadd X dX4_takeLeast_168 ?_
    obtain ⟨b24, hm⟩ := i_c hm
    refine a_maldI X hMR 13 (by decide) rfl rfl rfl b24 dX4_takeLeast_169 ?_
    obtain ⟨M26, q25, hm⟩ := i_b hm
    refine a_callV (k' := 0) (n' := 0) (st := []) X (c_X4_take hMR q25) yv_X4_take ml_X4_246 rfl (Or.inr (mr5_ hMR)) ⟨by decide, by decide, by decide, by decide, Nat.le_of_ble_eq_true rfl⟩ rfl rfl dX4_takeLeast_170 rfl rfl ?_
    show At_ v g 10 h M26 0 0 173 [(0, v_R (some 5)), (1, v_I x1), (2, v_I x2), (3, v_I x3)] []
    refine a_aload_n X dX4_takeLeast_173 rfl ?_
    refine a_mgetA X hMR 13 (by decide) rfl rfl fl_X4_45 dX4_takeLeast_174 ?_
    refine a_iconst (x := 4) X dX4_takeLeast_177 (by decide) ?_
    refine a_iload_n X dX4_takeLeast_178 rfl ?_
    refine a_imul X dX4_takeLeast_179 ?_
    refine a_iload_n X dX4_takeLeast_180 rfl ?_
    refine a_iadd X dX4_takeLeast_181 ?_
    refine a_dup2 X dX4_takeLeast_182 rfl rfl ?_
    refine a_maldI X hMR 13 (by decide) rfl rfl rfl b24 dX4_takeLeast_183 ?_
    refine a_iconst (x := 1) X dX4_takeLeast_184 (by decide) ?_
    refine a_iadd X dX4_takeLeast_185 ?_
    obtain ⟨M27, eM27, hm⟩ := i_d hm
    refine a_mastI X hMR 13 (by decide) rfl rfl rfl b24 dX4_takeLeast_186 ?_
    rw [← eM27]
    exact a_vret X hF ⟨rfl, Option.some.inj hm⟩ (by decide) dX4_takeLeast_187
  · refine a_aload_n X dX4_takeLeast_14 rfl ?_
    refine a_iload_n X dX4_takeLeast_15 rfl ?_
    refine a_iload_n X dX4_takeLeast_16 rfl ?_
    obtain ⟨r29, q28, hm⟩ := i_b hm
    refine a_callV (k' := 0) (n' := 0) (st := []) X (c_X4_isPassed hMR q28) yv_X4_isPassed ml_X4_225 rfl (Or.inr (mr5_ hMR)) ⟨by decide, by decide, by decide, by decide, Nat.le_of_ble_eq_true rfl⟩ rfl rfl dX4_takeLeast_17 rfl rfl ?_
    show At_ v g 10 h M 0 0 20 [(0, v_R (some 5)), (1, v_I x1), (2, v_I x2), (3, v_I x3)] [v_I r29]
    refine a_if_ne (tgt := 142) X dX4_takeLeast_20 (by decide) hm (fun c30 hm => ?_) (fun c30 hm => ?_)
    · refine a_iinc (y := x3 + (1 : Int32)) (lv' := [(0, v_R (some 5)), (1, v_I x1), (2, v_I x2), (3, v_I (x3 + (1 : Int32)))]) X dX4_takeLeast_142 rfl rfl (by decide) rfl ?_
      refine a_goto (tgt := 4) X dX4_takeLeast_145 (by decide) ?_
      exact hr_4 M x1 x2 (x3 + (1 : Int32)) hm
    · refine a_aload_n X dX4_takeLeast_23 rfl ?_
      refine a_mgetA X hMR 12 (by decide) rfl rfl fl_X4_42 dX4_takeLeast_24 ?_
      refine a_iconst (x := 4) X dX4_takeLeast_27 (by decide) ?_
      refine a_iload_n X dX4_takeLeast_28 rfl ?_
      refine a_imul X dX4_takeLeast_29 ?_
      refine a_iload_n X dX4_takeLeast_30 rfl ?_
      refine a_iadd X dX4_takeLeast_31 ?_
      obtain ⟨b31, hm⟩ := i_c hm
      refine a_maldI X hMR 12 (by decide) rfl rfl rfl b31 dX4_takeLeast_32 ?_
      refine a_istore (lv' := [(0, v_R (some 5)), (1, v_I x1), (2, v_I x2), (3, v_I x3), (4, v_I (m_I M 12 (((4 : Int32) * x1) + x3).toNatClampNeg))]) X dX4_takeLeast_33 (by decide) rfl ?_
      refine a_aload_n X dX4_takeLeast_35 rfl ?_
      refine a_mgetA X hMR 6 (by decide) rfl rfl fl_X4_27 dX4_takeLeast_36 ?_
      refine a_aload_n X dX4_takeLeast_39 rfl ?_
      refine a_iload X dX4_takeLeast_40 rfl ?_
      refine a_aload_n X dX4_takeLeast_42 rfl ?_
      refine a_mgetA X hMR 13 (by decide) rfl rfl fl_X4_45 dX4_takeLeast_43 ?_
      refine a_iconst (x := 4) X dX4_takeLeast_46 (by decide) ?_
      refine a_iload_n X dX4_takeLeast_47 rfl ?_
      refine a_imul X dX4_takeLeast_48 ?_
      refine a_iload_n X dX4_takeLeast_49 rfl ?_
      refine a_iadd X dX4_takeLeast_50 ?_
      obtain ⟨b32, hm⟩ := i_c hm
      refine a_maldI X hMR 13 (by decide) rfl rfl rfl b32 dX4_takeLeast_51 ?_
      obtain ⟨r34, q33, hm⟩ := i_b hm
      refine a_callV (k' := 0) (n' := 0) (st := [v_R (some 11)]) X (c_X4_slot hMR q33) yv_X4_slot ml_X4_171 rfl (Or.inr (mr5_ hMR)) ⟨by decide, by decide, by decide, by decide, Nat.le_of_ble_eq_true rfl⟩ rfl rfl dX4_takeLeast_52 rfl rfl ?_
      show At_ v g 10 h M 0 0 55 [(0, v_R (some 5)), (1, v_I x1), (2, v_I x2), (3, v_I x3), (4, v_I (m_I M 12 (((4 : Int32) * x1) + x3).toNatClampNeg))] [v_I r34, v_R (some 11)]
      obtain ⟨b35, hm⟩ := i_c hm
      refine a_maldJ X hMR 6 (by decide) rfl rfl rfl b35 dX4_takeLeast_55 ?_
      refine a_lstore (lv' := [(0, v_R (some 5)), (1, v_I x1), (2, v_I x2), (3, v_I x3), (4, v_I (m_I M 12 (((4 : Int32) * x1) + x3).toNatClampNeg)), (5, v_J (m_J M 6 r34.toNatClampNeg))]) X dX4_takeLeast_56 (by decide) rfl ?_
      refine a_iload_n X dX4_takeLeast_58 rfl ?_
      refine a_if_ge (tgt := 66) X dX4_takeLeast_59 (by decide) hm (fun c36 hm => ?_) (fun c36 hm => ?_)
      · refine a_aload_n X dX4_takeLeast_66 rfl ?_
        refine a_mgetA X hMR 12 (by decide) rfl rfl fl_X4_42 dX4_takeLeast_67 ?_
        refine a_iconst (x := 4) X dX4_takeLeast_70 (by decide) ?_
        refine a_iload_n X dX4_takeLeast_71 rfl ?_
        refine a_imul X dX4_takeLeast_72 ?_
        refine a_iload_n X dX4_takeLeast_73 rfl ?_
        refine a_iadd X dX4_takeLeast_74 ?_
        obtain ⟨b37, hm⟩ := i_c hm
        refine a_maldI X hMR 12 (by decide) rfl rfl rfl b37 dX4_takeLeast_75 ?_
        exact q_X4_takeLeast_76 X hMR hF rec_4 hr_4 M x1 x2 x3 (m_I M 12 (((4 : Int32) * x1) + x3).toNatClampNeg) (m_J M 6 r34.toNatClampNeg) (m_I M 12 (((4 : Int32) * x1) + x2).toNatClampNeg) hm
      · refine a_iconst (x := 0) X dX4_takeLeast_62 (by decide) ?_
        refine a_goto (tgt := 76) X dX4_takeLeast_63 (by decide) ?_
        exact q_X4_takeLeast_76 X hMR hF rec_4 hr_4 M x1 x2 x3 (m_I M 12 (((4 : Int32) * x1) + x3).toNatClampNeg) (m_J M 6 r34.toNatClampNeg) (0 : Int32) hm
def l_X4_takeLeast_4 (n : Nat) : Msx → Int32 → Int32 → Int32 → Option (Msx) := lp_ (fun rec_4 => j_X4_takeLeast_4 rec_4) (fun _ _ _ _ => none) n
theorem ql_X4_takeLeast_4 {v : Evx} {g : Gvx} {h : Hpx} {M' : Msx} (X : Cx_ v g cX4_takeLeast 10 RX4 "takeLeast" (none) rm_X4_takeLeast) (hMR : MR_ h) (hF : Fi_ v g rm_X4_takeLeast (none) h M') : ∀ (n : Nat) (M : Msx) (x1 : Int32) (x2 : Int32) (x3 : Int32), l_X4_takeLeast_4 n M x1 x2 x3 = some M' → At_ v g 10 h M 0 0 4 [(0, v_R (some 5)), (1, v_I x1), (2, v_I x2), (3, v_I x3)] [] := by
  intro n
  induction n with
  | zero => intro M x1 x2 x3 hm; cases hm
  | succ n ih =>
    intro M x1 x2 x3 hm
    exact q_X4_takeLeast_4 X hMR hF (l_X4_takeLeast_4 n) ih M x1 x2 x3 hm
def f_X4_takeLeast (M : Msx) (x1 : Int32) : Option (Msx) :=
  l_X4_takeLeast_4 70 M x1 (-1 : Int32) (0 : Int32)
set_option maxHeartbeats 4000000 in
theorem q_X4_takeLeast_0 {v : Evx} {g : Gvx} {h : Hpx} {M' : Msx} (X : Cx_ v g cX4_takeLeast 10 RX4 "takeLeast" (none) rm_X4_takeLeast) (hMR : MR_ h) (hF : Fi_ v g rm_X4_takeLeast (none) h M') (M : Msx) (x1 : Int32) (hm : f_X4_takeLeast M x1 = some M') : At_ v g 10 h M 0 0 0 [(0, v_R (some 5)), (1, v_I x1)] [] := by
  unfold f_X4_takeLeast at hm
  refine a_iconst (x := -1) X dX4_takeLeast_0 (by decide) ?_
  refine a_istore_n (lv' := [(0, v_R (some 5)), (1, v_I x1), (2, v_I (-1 : Int32))]) X dX4_takeLeast_1 (by decide) rfl ?_
  refine a_iconst (x := 0) X dX4_takeLeast_2 (by decide) ?_
  refine a_istore_n (lv' := [(0, v_R (some 5)), (1, v_I x1), (2, v_I (-1 : Int32)), (3, v_I (0 : Int32))]) X dX4_takeLeast_3 (by decide) rfl ?_
  exact ql_X4_takeLeast_4 X hMR hF 70 M x1 (-1 : Int32) (0 : Int32) hm
theorem c_X4_takeLeast {l : Launch} {g : Gvx} {h : Hpx} {M : Msx} {M' : Msx} {x1 : Int32} (hMR : MR_ h) (hm : f_X4_takeLeast M x1 = some M') : Mt_ l g yX4_takeLeast cX4_takeLeast 10 (none) rm_X4_takeLeast [v_R (some 5), v_I x1] h M (none) h M' := mt_of (by decide) (Nat.le_of_ble_eq_true rfl) (fun v _ X hF => q_X4_takeLeast_0 X hMR hF M x1 hm)
theorem yv_X4_takeLeast : Yv_ yX4_takeLeast cX4_takeLeast 10 (none) 1 4 := ⟨rfl, by decide, ⟨by decide, by decide, by decide +kernel⟩, co_X4_takeLeast, im_X4_takeLeast, se_X4_takeLeast, ini_X4⟩

abbrev rm_X4_read : Room := { frames := 6, cells := 0, slots := 0, locals := 139 }
def j_X4_read_181 (M : Msx) (x1 : Int32) (x2 : Int32) : Option (Msx × Int32) :=
  (if x2 = (7 : Int32) then
  (f_X4_echo M x1).bind fun M62 =>
  some (M62, (1 : Int32))
  else some (M, (1 : Int32)))
set_option maxHeartbeats 4000000 in
theorem q_X4_read_181 {v : Evx} {g : Gvx} {h : Hpx} {M' : Msx} {r : Int32} (X : Cx_ v g cX4_read 5 RX4 "read" ((some .int)) rm_X4_read) (hMR : MR_ h) (hF : Fi_ v g rm_X4_read (some (v_I r)) h M') (M : Msx) (x1 : Int32) (x2 : Int32) (hm : j_X4_read_181 M x1 x2 = some (M', r)) : At_ v g 5 h M 0 0 181 [(0, v_R (some 5)), (1, v_I x1), (2, v_I x2)] [] := by
  unfold j_X4_read_181 at hm
  refine a_iload_n X dX4_read_181 rfl ?_
  refine a_bipush (x := 7) X dX4_read_182 (by decide) ?_
  refine a_icmp_ne (tgt := 192) X dX4_read_184 (by decide) hm (fun c60 hm => ?_) (fun c60 hm => ?_)
  · refine a_iconst (x := 1) X dX4_read_192 (by decide) ?_
    exact a_iret X hF ⟨rfl, (Prod.mk.inj (Option.some.inj hm)).1, (Prod.mk.inj (Option.some.inj hm)).2⟩ (by decide) dX4_read_193
  · refine a_aload_n X dX4_read_187 rfl ?_
    refine a_iload_n X dX4_read_188 rfl ?_
    obtain ⟨M62, q61, hm⟩ := i_b hm
    refine a_callV (k' := 0) (n' := 0) (st := []) X (c_X4_echo hMR q61) yv_X4_echo ml_X4_259 rfl (Or.inr (mr5_ hMR)) ⟨by decide, by decide, by decide, by decide, Nat.le_of_ble_eq_true rfl⟩ rfl rfl dX4_read_189 rfl rfl ?_
    show At_ v g 5 h M62 0 0 192 [(0, v_R (some 5)), (1, v_I x1), (2, v_I x2)] []
    refine a_iconst (x := 1) X dX4_read_192 (by decide) ?_
    exact a_iret X hF ⟨rfl, (Prod.mk.inj (Option.some.inj hm)).1, (Prod.mk.inj (Option.some.inj hm)).2⟩ (by decide) dX4_read_193
def j_X4_read_89 (M : Msx) (x1 : Int32) (x2 : Int32) (x3 : Int32) (x4 : Int32) : Option (Msx × Int32) :=
  (if x4 ≤ 0 then
  (if x2 = (4 : Int32) then
  (f_X4_takeEntry M x1).bind fun M55 =>
  j_X4_read_181 M55 x1 x2
  else (if x2 = (5 : Int32) then
  (f_X4_takeLeast M x1).bind fun M53 =>
  j_X4_read_181 M53 x1 x2
  else (if x2 = (1 : Int32) then
  (f_X4_seen M x3).bind fun r49 =>
  (f_X4_take M x1 x3 r49).bind fun M51 =>
  j_X4_read_181 M51 x1 x2
  else (if in_b ((4 : Int32) * x1) 64 = true then
  (f_X4_take M x1 x3 (m_I M 13 ((4 : Int32) * x1).toNatClampNeg)).bind fun M46 =>
  b_d (n_I M46 13 ((4 : Int32) * x1).toNatClampNeg ((m_I M46 13 ((4 : Int32) * x1).toNatClampNeg) + (1 : Int32))) fun M47 =>
  j_X4_read_181 M47 x1 x2 else none))))
  else (if x4 = (1 : Int32) then
  c_l (f_X4_find M (1 : Int32)) fun M58 r59 =>
  some (M58, r59)
  else some (M, (0 : Int32))))
set_option maxHeartbeats 4000000 in
theorem q_X4_read_89 {v : Evx} {g : Gvx} {h : Hpx} {M' : Msx} {r : Int32} (X : Cx_ v g cX4_read 5 RX4 "read" ((some .int)) rm_X4_read) (hMR : MR_ h) (hF : Fi_ v g rm_X4_read (some (v_I r)) h M') (M : Msx) (x1 : Int32) (x2 : Int32) (x3 : Int32) (x4 : Int32) (hm : j_X4_read_89 M x1 x2 x3 x4 = some (M', r)) : At_ v g 5 h M 0 0 89 [(0, v_R (some 5)), (1, v_I x1), (2, v_I x2), (3, v_I x3), (4, v_I x4)] [] := by
  unfold j_X4_read_89 at hm
  refine a_iload X dX4_read_89 rfl ?_
  refine a_if_le (tgt := 110) X dX4_read_91 (by decide) hm (fun c40 hm => ?_) (fun c40 hm => ?_)
  · refine a_iload_n X dX4_read_110 rfl ?_
    refine a_iconst (x := 4) X dX4_read_111 (by decide) ?_
    refine a_icmp_ne (tgt := 123) X dX4_read_112 (by decide) hm (fun c41 hm => ?_) (fun c41 hm => ?_)
    · refine a_iload_n X dX4_read_123 rfl ?_
      refine a_iconst (x := 5) X dX4_read_124 (by decide) ?_
      refine a_icmp_ne (tgt := 136) X dX4_read_125 (by decide) hm (fun c42 hm => ?_) (fun c42 hm => ?_)
      · refine a_iload_n X dX4_read_136 rfl ?_
        refine a_iconst (x := 1) X dX4_read_137 (by decide) ?_
        refine a_icmp_ne (tgt := 155) X dX4_read_138 (by decide) hm (fun c43 hm => ?_) (fun c43 hm => ?_)
        · refine a_aload_n X dX4_read_155 rfl ?_
          refine a_iload_n X dX4_read_156 rfl ?_
          refine a_iload_n X dX4_read_157 rfl ?_
          refine a_aload_n X dX4_read_158 rfl ?_
          refine a_mgetA X hMR 13 (by decide) rfl rfl fl_X4_45 dX4_read_159 ?_
          refine a_iconst (x := 4) X dX4_read_162 (by decide) ?_
          refine a_iload_n X dX4_read_163 rfl ?_
          refine a_imul X dX4_read_164 ?_
          obtain ⟨b44, hm⟩ := i_c hm
          refine a_maldI X hMR 13 (by decide) rfl rfl rfl b44 dX4_read_165 ?_
          obtain ⟨M46, q45, hm⟩ := i_b hm
          refine a_callV (k' := 0) (n' := 0) (st := []) X (c_X4_take hMR q45) yv_X4_take ml_X4_246 rfl (Or.inr (mr5_ hMR)) ⟨by decide, by decide, by decide, by decide, Nat.le_of_ble_eq_true rfl⟩ rfl rfl dX4_read_166 rfl rfl ?_
          show At_ v g 5 h M46 0 0 169 [(0, v_R (some 5)), (1, v_I x1), (2, v_I x2), (3, v_I x3), (4, v_I x4)] []
          refine a_aload_n X dX4_read_169 rfl ?_
          refine a_mgetA X hMR 13 (by decide) rfl rfl fl_X4_45 dX4_read_170 ?_
          refine a_iconst (x := 4) X dX4_read_173 (by decide) ?_
          refine a_iload_n X dX4_read_174 rfl ?_
          refine a_imul X dX4_read_175 ?_
          refine a_dup2 X dX4_read_176 rfl rfl ?_
          refine a_maldI X hMR 13 (by decide) rfl rfl rfl b44 dX4_read_177 ?_
          refine a_iconst (x := 1) X dX4_read_178 (by decide) ?_
          refine a_iadd X dX4_read_179 ?_
          obtain ⟨M47, eM47, hm⟩ := i_d hm
          refine a_mastI X hMR 13 (by decide) rfl rfl rfl b44 dX4_read_180 ?_
          rw [← eM47]
          refine a_pick (lv' := [(0, v_R (some 5)), (1, v_I x1), (2, v_I x2)]) [0, 1, 2] rfl ?_
          exact q_X4_read_181 X hMR hF M47 x1 x2 hm
        · refine a_aload_n X dX4_read_141 rfl ?_
          refine a_iload_n X dX4_read_142 rfl ?_
          refine a_iload_n X dX4_read_143 rfl ?_
          refine a_aload_n X dX4_read_144 rfl ?_
          refine a_iload_n X dX4_read_145 rfl ?_
          obtain ⟨r49, q48, hm⟩ := i_b hm
          refine a_callV (k' := 0) (n' := 0) (st := [v_I x3, v_I x1, v_R (some 5)]) X (c_X4_seen hMR q48) yv_X4_seen ml_X4_231 rfl (Or.inr (mr5_ hMR)) ⟨by decide, by decide, by decide, by decide, Nat.le_of_ble_eq_true rfl⟩ rfl rfl dX4_read_146 rfl rfl ?_
          show At_ v g 5 h M 0 0 149 [(0, v_R (some 5)), (1, v_I x1), (2, v_I x2), (3, v_I x3), (4, v_I x4)] [v_I r49, v_I x3, v_I x1, v_R (some 5)]
          obtain ⟨M51, q50, hm⟩ := i_b hm
          refine a_callV (k' := 0) (n' := 0) (st := []) X (c_X4_take hMR q50) yv_X4_take ml_X4_246 rfl (Or.inr (mr5_ hMR)) ⟨by decide, by decide, by decide, by decide, Nat.le_of_ble_eq_true rfl⟩ rfl rfl dX4_read_149 rfl rfl ?_
          show At_ v g 5 h M51 0 0 152 [(0, v_R (some 5)), (1, v_I x1), (2, v_I x2), (3, v_I x3), (4, v_I x4)] []
          refine a_goto (tgt := 181) X dX4_read_152 (by decide) ?_
          refine a_pick (lv' := [(0, v_R (some 5)), (1, v_I x1), (2, v_I x2)]) [0, 1, 2] rfl ?_
          exact q_X4_read_181 X hMR hF M51 x1 x2 hm
      · refine a_aload_n X dX4_read_128 rfl ?_
        refine a_iload_n X dX4_read_129 rfl ?_
        obtain ⟨M53, q52, hm⟩ := i_b hm
        refine a_callV (k' := 0) (n' := 0) (st := []) X (c_X4_takeLeast hMR q52) yv_X4_takeLeast ml_X4_256 rfl (Or.inr (mr5_ hMR)) ⟨by decide, by decide, by decide, by decide, Nat.le_of_ble_eq_true rfl⟩ rfl rfl dX4_read_130 rfl rfl ?_
        show At_ v g 5 h M53 0 0 133 [(0, v_R (some 5)), (1, v_I x1), (2, v_I x2), (3, v_I x3), (4, v_I x4)] []
        refine a_goto (tgt := 181) X dX4_read_133 (by decide) ?_
        refine a_pick (lv' := [(0, v_R (some 5)), (1, v_I x1), (2, v_I x2)]) [0, 1, 2] rfl ?_
        exact q_X4_read_181 X hMR hF M53 x1 x2 hm
    · refine a_aload_n X dX4_read_115 rfl ?_
      refine a_iload_n X dX4_read_116 rfl ?_
      obtain ⟨M55, q54, hm⟩ := i_b hm
      refine a_callV (k' := 0) (n' := 0) (st := []) X (c_X4_takeEntry hMR q54) yv_X4_takeEntry ml_X4_253 rfl (Or.inr (mr5_ hMR)) ⟨by decide, by decide, by decide, by decide, Nat.le_of_ble_eq_true rfl⟩ rfl rfl dX4_read_117 rfl rfl ?_
      show At_ v g 5 h M55 0 0 120 [(0, v_R (some 5)), (1, v_I x1), (2, v_I x2), (3, v_I x3), (4, v_I x4)] []
      refine a_goto (tgt := 181) X dX4_read_120 (by decide) ?_
      refine a_pick (lv' := [(0, v_R (some 5)), (1, v_I x1), (2, v_I x2)]) [0, 1, 2] rfl ?_
      exact q_X4_read_181 X hMR hF M55 x1 x2 hm
  · refine a_iload X dX4_read_94 rfl ?_
    refine a_iconst (x := 1) X dX4_read_96 (by decide) ?_
    refine a_icmp_ne (tgt := 108) X dX4_read_97 (by decide) hm (fun c56 hm => ?_) (fun c56 hm => ?_)
    · refine a_iconst (x := 0) X dX4_read_108 (by decide) ?_
      exact a_iret X hF ⟨rfl, (Prod.mk.inj (Option.some.inj hm)).1, (Prod.mk.inj (Option.some.inj hm)).2⟩ (by decide) dX4_read_109
    · refine a_aload_n X dX4_read_100 rfl ?_
      refine a_iconst (x := 1) X dX4_read_101 (by decide) ?_
      obtain ⟨M58, r59, q57, hm⟩ := i_l hm
      refine a_callV (k' := 0) (n' := 0) (st := []) X (c_X4_find hMR q57) yv_X4_find ml_X4_131 rfl (Or.inr (mr5_ hMR)) ⟨by decide, by decide, by decide, by decide, Nat.le_of_ble_eq_true rfl⟩ rfl rfl dX4_read_102 rfl rfl ?_
      show At_ v g 5 h M58 0 0 105 [(0, v_R (some 5)), (1, v_I x1), (2, v_I x2), (3, v_I x3), (4, v_I x4)] [v_I r59]
      refine a_goto (tgt := 109) X dX4_read_105 (by decide) ?_
      exact a_iret X hF ⟨rfl, (Prod.mk.inj (Option.some.inj hm)).1, (Prod.mk.inj (Option.some.inj hm)).2⟩ (by decide) dX4_read_109
def j_X4_read_86 (M : Msx) (x1 : Int32) (x2 : Int32) (x3 : Int32) (x4 : Int32) (y1 : Int32) (y2 : Int32) : Option (Msx × Int32) :=
  (f_X4_miss M y1 y2).bind fun M39 =>
  j_X4_read_89 M39 x1 x2 x3 x4
set_option maxHeartbeats 4000000 in
theorem q_X4_read_86 {v : Evx} {g : Gvx} {h : Hpx} {M' : Msx} {r : Int32} (X : Cx_ v g cX4_read 5 RX4 "read" ((some .int)) rm_X4_read) (hMR : MR_ h) (hF : Fi_ v g rm_X4_read (some (v_I r)) h M') (M : Msx) (x1 : Int32) (x2 : Int32) (x3 : Int32) (x4 : Int32) (y1 : Int32) (y2 : Int32) (hm : j_X4_read_86 M x1 x2 x3 x4 y1 y2 = some (M', r)) : At_ v g 5 h M 0 0 86 [(0, v_R (some 5)), (1, v_I x1), (2, v_I x2), (3, v_I x3), (4, v_I x4)] [v_I y2, v_I y1, v_R (some 5)] := by
  unfold j_X4_read_86 at hm
  obtain ⟨M39, q38, hm⟩ := i_b hm
  refine a_callV (k' := 0) (n' := 0) (st := []) X (c_X4_miss hMR q38) yv_X4_miss ml_X4_250 rfl (Or.inr (mr5_ hMR)) ⟨by decide, by decide, by decide, by decide, Nat.le_of_ble_eq_true rfl⟩ rfl rfl dX4_read_86 rfl rfl ?_
  show At_ v g 5 h M39 0 0 89 [(0, v_R (some 5)), (1, v_I x1), (2, v_I x2), (3, v_I x3), (4, v_I x4)] []
  exact q_X4_read_89 X hMR hF M39 x1 x2 x3 x4 hm
def f_X4_read (M : Msx) (x1 : Int32) : Option (Msx × Int32) :=
  (if (m_I M 34 0) = 0 then
  some (M, (-2 : Int32))
  else (f_X4_isReader M x1).bind fun r23 =>
  (if r23 = 0 then
  c_l (f_X4_find M (2 : Int32)) fun M36 r37 =>
  some (M36, r37)
  else (if in_b x1 16 = true then
  (if in_b ((4 : Int32) * x1) 64 = true then
  (f_X4_whyOne M x1).bind fun r28 =>
  (if (m_I M 11 x1.toNatClampNeg) = (3 : Int32) then
  (if in_b (m_I M 12 ((4 : Int32) * x1).toNatClampNeg) 8 = true then
  (if (m_I M 3 (m_I M 12 ((4 : Int32) * x1).toNatClampNeg).toNatClampNeg) = (2 : Int32) then
  (if in_b (m_I M 12 ((4 : Int32) * x1).toNatClampNeg) 8 = true then
  j_X4_read_86 M x1 (m_I M 11 x1.toNatClampNeg) (m_I M 12 ((4 : Int32) * x1).toNatClampNeg) r28 x1 (m_I M 2 (m_I M 12 ((4 : Int32) * x1).toNatClampNeg).toNatClampNeg) else none)
  else (if in_b (m_I M 12 ((4 : Int32) * x1).toNatClampNeg) 8 = true then
  (if in_b (m_I M 12 ((4 : Int32) * x1).toNatClampNeg) 8 = true then
  j_X4_read_86 M x1 (m_I M 11 x1.toNatClampNeg) (m_I M 12 ((4 : Int32) * x1).toNatClampNeg) r28 x1 ((m_I M 2 (m_I M 12 ((4 : Int32) * x1).toNatClampNeg).toNatClampNeg) - (m_I M 1 (m_I M 12 ((4 : Int32) * x1).toNatClampNeg).toNatClampNeg)) else none) else none)) else none)
  else j_X4_read_89 M x1 (m_I M 11 x1.toNatClampNeg) (m_I M 12 ((4 : Int32) * x1).toNatClampNeg) r28) else none) else none)))
set_option maxHeartbeats 4000000 in
theorem q_X4_read_0 {v : Evx} {g : Gvx} {h : Hpx} {M' : Msx} {r : Int32} (X : Cx_ v g cX4_read 5 RX4 "read" ((some .int)) rm_X4_read) (hMR : MR_ h) (hF : Fi_ v g rm_X4_read (some (v_I r)) h M') (M : Msx) (x1 : Int32) (hm : f_X4_read M x1 = some (M', r)) : At_ v g 5 h M 0 0 0 [(0, v_R (some 5)), (1, v_I x1)] [] := by
  unfold f_X4_read at hm
  refine a_aload_n X dX4_read_0 rfl ?_
  refine a_mgetI X hMR 34 (by decide) rfl fl_X4_135 dX4_read_1 ?_
  refine a_if_ne (tgt := 10) X dX4_read_4 (by decide) hm (fun c21 hm => ?_) (fun c21 hm => ?_)
  · refine a_aload_n X dX4_read_10 rfl ?_
    refine a_iload_n X dX4_read_11 rfl ?_
    obtain ⟨r23, q22, hm⟩ := i_b hm
    refine a_callV (k' := 0) (n' := 0) (st := []) X (c_X4_isReader hMR q22) yv_X4_isReader ml_X4_146 rfl (Or.inr (mr5_ hMR)) ⟨by decide, by decide, by decide, by decide, Nat.le_of_ble_eq_true rfl⟩ rfl rfl dX4_read_12 rfl rfl ?_
    show At_ v g 5 h M 0 0 15 [(0, v_R (some 5)), (1, v_I x1)] [v_I r23]
    refine a_if_ne (tgt := 24) X dX4_read_15 (by decide) hm (fun c24 hm => ?_) (fun c24 hm => ?_)
    · refine a_aload_n X dX4_read_24 rfl ?_
      refine a_mgetA X hMR 11 (by decide) rfl rfl fl_X4_39 dX4_read_25 ?_
      refine a_iload_n X dX4_read_28 rfl ?_
      obtain ⟨b25, hm⟩ := i_c hm
      refine a_maldI X hMR 11 (by decide) rfl rfl rfl b25 dX4_read_29 ?_
      refine a_istore_n (lv' := [(0, v_R (some 5)), (1, v_I x1), (2, v_I (m_I M 11 x1.toNatClampNeg))]) X dX4_read_30 (by decide) rfl ?_
      refine a_aload_n X dX4_read_31 rfl ?_
      refine a_mgetA X hMR 12 (by decide) rfl rfl fl_X4_42 dX4_read_32 ?_
      refine a_iconst (x := 4) X dX4_read_35 (by decide) ?_
      refine a_iload_n X dX4_read_36 rfl ?_
      refine a_imul X dX4_read_37 ?_
      obtain ⟨b26, hm⟩ := i_c hm
      refine a_maldI X hMR 12 (by decide) rfl rfl rfl b26 dX4_read_38 ?_
      refine a_istore_n (lv' := [(0, v_R (some 5)), (1, v_I x1), (2, v_I (m_I M 11 x1.toNatClampNeg)), (3, v_I (m_I M 12 ((4 : Int32) * x1).toNatClampNeg))]) X dX4_read_39 (by decide) rfl ?_
      refine a_aload_n X dX4_read_40 rfl ?_
      refine a_iload_n X dX4_read_41 rfl ?_
      obtain ⟨r28, q27, hm⟩ := i_b hm
      refine a_callV (k' := 0) (n' := 0) (st := []) X (c_X4_whyOne hMR q27) yv_X4_whyOne ml_X4_240 rfl (Or.inr (mr5_ hMR)) ⟨by decide, by decide, by decide, by decide, Nat.le_of_ble_eq_true rfl⟩ rfl rfl dX4_read_42 rfl rfl ?_
      show At_ v g 5 h M 0 0 45 [(0, v_R (some 5)), (1, v_I x1), (2, v_I (m_I M 11 x1.toNatClampNeg)), (3, v_I (m_I M 12 ((4 : Int32) * x1).toNatClampNeg))] [v_I r28]
      refine a_istore (lv' := [(0, v_R (some 5)), (1, v_I x1), (2, v_I (m_I M 11 x1.toNatClampNeg)), (3, v_I (m_I M 12 ((4 : Int32) * x1).toNatClampNeg)), (4, v_I r28)]) X dX4_read_45 (by decide) rfl ?_
      refine a_iload_n X dX4_read_47 rfl ?_
      refine a_iconst (x := 3) X dX4_read_48 (by decide) ?_
      refine a_icmp_ne (tgt := 89) X dX4_read_49 (by decide) hm (fun c29 hm => ?_) (fun c29 hm => ?_)
      · exact q_X4_read_89 X hMR hF M x1 (m_I M 11 x1.toNatClampNeg) (m_I M 12 ((4 : Int32) * x1).toNatClampNeg) r28 hm
      · refine a_aload_n X dX4_read_52 rfl ?_
        refine a_iload_n X dX4_read_53 rfl ?_
        refine a_aload_n X dX4_read_54 rfl ?_
        refine a_mgetA X hMR 3 (by decide) rfl rfl fl_X4_16 dX4_read_55 ?_
        refine a_iload_n X dX4_read_58 rfl ?_
        obtain ⟨b30, hm⟩ := i_c hm
        refine a_maldI X hMR 3 (by decide) rfl rfl rfl b30 dX4_read_59 ?_
        refine a_iconst (x := 2) X dX4_read_60 (by decide) ?_
        refine a_icmp_ne (tgt := 73) X dX4_read_61 (by decide) hm (fun c31 hm => ?_) (fun c31 hm => ?_)
        · refine a_aload_n X dX4_read_73 rfl ?_
          refine a_mgetA X hMR 2 (by decide) rfl rfl fl_X4_13 dX4_read_74 ?_
          refine a_iload_n X dX4_read_77 rfl ?_
          obtain ⟨b32, hm⟩ := i_c hm
          refine a_maldI X hMR 2 (by decide) rfl rfl rfl b32 dX4_read_78 ?_
          refine a_aload_n X dX4_read_79 rfl ?_
          refine a_mgetA X hMR 1 (by decide) rfl rfl fl_X4_7 dX4_read_80 ?_
          refine a_iload_n X dX4_read_83 rfl ?_
          obtain ⟨b33, hm⟩ := i_c hm
          refine a_maldI X hMR 1 (by decide) rfl rfl rfl b33 dX4_read_84 ?_
          refine a_isub X dX4_read_85 ?_
          exact q_X4_read_86 X hMR hF M x1 (m_I M 11 x1.toNatClampNeg) (m_I M 12 ((4 : Int32) * x1).toNatClampNeg) r28 x1 ((m_I M 2 (m_I M 12 ((4 : Int32) * x1).toNatClampNeg).toNatClampNeg) - (m_I M 1 (m_I M 12 ((4 : Int32) * x1).toNatClampNeg).toNatClampNeg)) hm
        · refine a_aload_n X dX4_read_64 rfl ?_
          refine a_mgetA X hMR 2 (by decide) rfl rfl fl_X4_13 dX4_read_65 ?_
          refine a_iload_n X dX4_read_68 rfl ?_
          obtain ⟨b34, hm⟩ := i_c hm
          refine a_maldI X hMR 2 (by decide) rfl rfl rfl b34 dX4_read_69 ?_
          refine a_goto (tgt := 86) X dX4_read_70 (by decide) ?_
          exact q_X4_read_86 X hMR hF M x1 (m_I M 11 x1.toNatClampNeg) (m_I M 12 ((4 : Int32) * x1).toNatClampNeg) r28 x1 (m_I M 2 (m_I M 12 ((4 : Int32) * x1).toNatClampNeg).toNatClampNeg) hm
    · refine a_aload_n X dX4_read_18 rfl ?_
      refine a_iconst (x := 2) X dX4_read_19 (by decide) ?_
      obtain ⟨M36, r37, q35, hm⟩ := i_l hm
      refine a_callV (k' := 0) (n' := 0) (st := []) X (c_X4_find hMR q35) yv_X4_find ml_X4_131 rfl (Or.inr (mr5_ hMR)) ⟨by decide, by decide, by decide, by decide, Nat.le_of_ble_eq_true rfl⟩ rfl rfl dX4_read_20 rfl rfl ?_
      show At_ v g 5 h M36 0 0 23 [(0, v_R (some 5)), (1, v_I x1)] [v_I r37]
      exact a_iret X hF ⟨rfl, (Prod.mk.inj (Option.some.inj hm)).1, (Prod.mk.inj (Option.some.inj hm)).2⟩ (by decide) dX4_read_23
  · refine a_bipush (x := -2) X dX4_read_7 (by decide) ?_
    exact a_iret X hF ⟨rfl, (Prod.mk.inj (Option.some.inj hm)).1, (Prod.mk.inj (Option.some.inj hm)).2⟩ (by decide) dX4_read_9
theorem c_X4_read {l : Launch} {g : Gvx} {h : Hpx} {M : Msx} {M' : Msx} {r : Int32} {x1 : Int32} (hMR : MR_ h) (hm : f_X4_read M x1 = some (M', r)) : Mt_ l g yX4_read cX4_read 5 ((some .int)) rm_X4_read [v_R (some 5), v_I x1] h M (some (v_I r)) h M' := mt_of (by decide) (Nat.le_of_ble_eq_true rfl) (fun v _ X hF => q_X4_read_0 X hMR hF M x1 hm)
theorem yv_X4_read : Yv_ yX4_read cX4_read 5 ((some .int)) 1 4 := ⟨rfl, by decide, ⟨by decide, by decide, by decide +kernel⟩, co_X4_read, im_X4_read, se_X4_read, ini_X4⟩

abbrev rm_X4_round : Room := { frames := 7, cells := 0, slots := 0, locals := 163 }
def j_X4_round_14 (rec_14 : Msx → Int32 → Int32 → Option (Msx × Int32)) (M : Msx) (x1 : Int32) (x2 : Int32) : Option (Msx × Int32) :=
  (if (m_I M 10 0) ≤ x2 then
  some (M, x1)
  else c_l (f_X4_read M x2) fun M24 r25 =>
  (if r25 = (1 : Int32) then
  rec_14 M24 (x1 + (1 : Int32)) (x2 + (1 : Int32))
  else rec_14 M24 (x1 + (0 : Int32)) (x2 + (1 : Int32))))
set_option maxHeartbeats 4000000 in
theorem q_X4_round_14 {v : Evx} {g : Gvx} {h : Hpx} {M' : Msx} {r : Int32} (X : Cx_ v g cX4_round 3 RX4 "round" ((some .int)) rm_X4_round) (hMR : MR_ h) (hF : Fi_ v g rm_X4_round (some (v_I r)) h M') (rec_14 : Msx → Int32 → Int32 → Option (Msx × Int32)) (hr_14 : ∀ (M : Msx) (x1 : Int32) (x2 : Int32), rec_14 M x1 x2 = some (M', r) → At_ v g 3 h M 0 0 14 [(0, v_R (some 5)), (1, v_I x1), (2, v_I x2)] []) (M : Msx) (x1 : Int32) (x2 : Int32) (hm : j_X4_round_14 rec_14 M x1 x2 = some (M', r)) : At_ v g 3 h M 0 0 14 [(0, v_R (some 5)), (1, v_I x1), (2, v_I x2)] [] := by
  unfold j_X4_round_14 at hm
  refine a_iload_n X dX4_round_14 rfl ?_
  refine a_aload_n X dX4_round_15 rfl ?_
  refine a_mgetI X hMR 10 (by decide) rfl fl_X4_124 dX4_round_16 ?_
  refine a_icmp_ge (tgt := 45) X dX4_round_19 (by decide) hm (fun c22 hm => ?_) (fun c22 hm => ?_)
  · refine a_iload_n X dX4_round_45 rfl ?_
    exact a_iret X hF ⟨rfl, (Prod.mk.inj (Option.some.inj hm)).1, (Prod.mk.inj (Option.some.inj hm)).2⟩ (by decide) dX4_round_46
  · refine a_iload_n X dX4_round_22 rfl ?_
    refine a_aload_n X dX4_round_23 rfl ?_
    refine a_iload_n X dX4_round_24 rfl ?_
    obtain ⟨M24, r25, q23, hm⟩ := i_l hm
    refine a_callV (k' := 0) (n' := 0) (st := [v_I x1]) X (c_X4_read hMR q23) yv_X4_read ml_X4_262 rfl (Or.inr (mr5_ hMR)) ⟨by decide, by decide, by decide, by decide, Nat.le_of_ble_eq_true rfl⟩ rfl rfl dX4_round_25 rfl rfl ?_
    show At_ v g 3 h M24 0 0 28 [(0, v_R (some 5)), (1, v_I x1), (2, v_I x2)] [v_I r25, v_I x1]
    refine a_iconst (x := 1) X dX4_round_28 (by decide) ?_
    refine a_icmp_ne (tgt := 36) X dX4_round_29 (by decide) hm (fun c26 hm => ?_) (fun c26 hm => ?_)
    · refine a_iconst (x := 0) X dX4_round_36 (by decide) ?_
      refine a_iadd X dX4_round_37 ?_
      refine a_istore_n (lv' := [(0, v_R (some 5)), (1, v_I (x1 + (0 : Int32))), (2, v_I x2)]) X dX4_round_38 (by decide) rfl ?_
      refine a_iinc (y := x2 + (1 : Int32)) (lv' := [(0, v_R (some 5)), (1, v_I (x1 + (0 : Int32))), (2, v_I (x2 + (1 : Int32)))]) X dX4_round_39 rfl rfl (by decide) rfl ?_
      refine a_goto (tgt := 14) X dX4_round_42 (by decide) ?_
      exact hr_14 M24 (x1 + (0 : Int32)) (x2 + (1 : Int32)) hm
    · refine a_iconst (x := 1) X dX4_round_32 (by decide) ?_
      refine a_goto (tgt := 37) X dX4_round_33 (by decide) ?_
      refine a_iadd X dX4_round_37 ?_
      refine a_istore_n (lv' := [(0, v_R (some 5)), (1, v_I (x1 + (1 : Int32))), (2, v_I x2)]) X dX4_round_38 (by decide) rfl ?_
      refine a_iinc (y := x2 + (1 : Int32)) (lv' := [(0, v_R (some 5)), (1, v_I (x1 + (1 : Int32))), (2, v_I (x2 + (1 : Int32)))]) X dX4_round_39 rfl rfl (by decide) rfl ?_
      refine a_goto (tgt := 14) X dX4_round_42 (by decide) ?_
      exact hr_14 M24 (x1 + (1 : Int32)) (x2 + (1 : Int32)) hm
def l_X4_round_14 (n : Nat) : Msx → Int32 → Int32 → Option (Msx × Int32) := lp_ (fun rec_14 => j_X4_round_14 rec_14) (fun _ _ _ => none) n
theorem ql_X4_round_14 {v : Evx} {g : Gvx} {h : Hpx} {M' : Msx} {r : Int32} (X : Cx_ v g cX4_round 3 RX4 "round" ((some .int)) rm_X4_round) (hMR : MR_ h) (hF : Fi_ v g rm_X4_round (some (v_I r)) h M') : ∀ (n : Nat) (M : Msx) (x1 : Int32) (x2 : Int32), l_X4_round_14 n M x1 x2 = some (M', r) → At_ v g 3 h M 0 0 14 [(0, v_R (some 5)), (1, v_I x1), (2, v_I x2)] [] := by
  intro n
  induction n with
  | zero => intro M x1 x2 hm; cases hm
  | succ n ih =>
    intro M x1 x2 hm
    exact q_X4_round_14 X hMR hF (l_X4_round_14 n) ih M x1 x2 hm
def f_X4_round (M : Msx) : Option (Msx × Int32) :=
  (if (m_I M 34 0) = 0 then
  some (M, (-2 : Int32))
  else l_X4_round_14 70 M (0 : Int32) (0 : Int32))
set_option maxHeartbeats 4000000 in
theorem q_X4_round_0 {v : Evx} {g : Gvx} {h : Hpx} {M' : Msx} {r : Int32} (X : Cx_ v g cX4_round 3 RX4 "round" ((some .int)) rm_X4_round) (hMR : MR_ h) (hF : Fi_ v g rm_X4_round (some (v_I r)) h M') (M : Msx) (hm : f_X4_round M = some (M', r)) : At_ v g 3 h M 0 0 0 [(0, v_R (some 5))] [] := by
  unfold f_X4_round at hm
  refine a_aload_n X dX4_round_0 rfl ?_
  refine a_mgetI X hMR 34 (by decide) rfl fl_X4_135 dX4_round_1 ?_
  refine a_if_ne (tgt := 10) X dX4_round_4 (by decide) hm (fun c21 hm => ?_) (fun c21 hm => ?_)
  · refine a_iconst (x := 0) X dX4_round_10 (by decide) ?_
    refine a_istore_n (lv' := [(0, v_R (some 5)), (1, v_I (0 : Int32))]) X dX4_round_11 (by decide) rfl ?_
    refine a_iconst (x := 0) X dX4_round_12 (by decide) ?_
    refine a_istore_n (lv' := [(0, v_R (some 5)), (1, v_I (0 : Int32)), (2, v_I (0 : Int32))]) X dX4_round_13 (by decide) rfl ?_
    exact ql_X4_round_14 X hMR hF 70 M (0 : Int32) (0 : Int32) hm
  · refine a_bipush (x := -2) X dX4_round_7 (by decide) ?_
    exact a_iret X hF ⟨rfl, (Prod.mk.inj (Option.some.inj hm)).1, (Prod.mk.inj (Option.some.inj hm)).2⟩ (by decide) dX4_round_9
theorem c_X4_round {l : Launch} {g : Gvx} {h : Hpx} {M : Msx} {M' : Msx} {r : Int32} (hMR : MR_ h) (hm : f_X4_round M = some (M', r)) : Mt_ l g yX4_round cX4_round 3 ((some .int)) rm_X4_round [v_R (some 5)] h M (some (v_I r)) h M' := mt_of (by decide) (Nat.le_of_ble_eq_true rfl) (fun v _ X hF => q_X4_round_0 X hMR hF M hm)
theorem yv_X4_round : Yv_ yX4_round cX4_round 3 ((some .int)) 0 4 := ⟨rfl, by decide, ⟨by decide, by decide, by decide +kernel⟩, co_X4_round, im_X4_round, se_X4_round, ini_X4⟩

abbrev rm_X4_got : Room := { frames := 1, cells := 0, slots := 0, locals := 21 }
def f_X4_got (M : Msx) (x1 : Int32) (x2 : Int32) : Option (Int64) :=
  (f_X4_isReader M x1).bind fun r22 =>
  (if r22 = 0 then
  some (-1 : Int64)
  else (if in_b x1 16 = true then
  (if (m_I M 21 x1.toNatClampNeg) = 0 then
  some (-1 : Int64)
  else (if x2 = 0 then
  (if in_b x1 16 = true then
  some ((m_I M 22 x1.toNatClampNeg).toInt64) else none)
  else (if x2 = 1 then
  (if in_b x1 16 = true then
  some ((m_I M 23 x1.toNatClampNeg).toInt64) else none)
  else (if x2 = 2 then
  (if in_b x1 16 = true then
  some (m_J M 24 x1.toNatClampNeg) else none)
  else (if x2 = 3 then
  (if in_b x1 16 = true then
  some ((m_I M 25 x1.toNatClampNeg).toInt64) else none)
  else (if x2 = 4 then
  (if in_b x1 16 = true then
  some ((m_I M 26 x1.toNatClampNeg).toInt64) else none)
  else some (-1 : Int64))))))) else none))
set_option maxHeartbeats 4000000 in
theorem q_X4_got_0 {v : Evx} {g : Gvx} {h : Hpx} {r : Int64} (X : Cx_ v g cX4_got 3 RX4 "got" ((some .long)) rm_X4_got) (hMR : MR_ h) (M : Msx) (hF : Fi_ v g rm_X4_got (some (v_J r)) h M) (x1 : Int32) (x2 : Int32) (hm : f_X4_got M x1 x2 = some r) : At_ v g 3 h M 0 0 0 [(0, v_R (some 5)), (1, v_I x1), (2, v_I x2)] [] := by
  unfold f_X4_got at hm
  refine a_aload_n X dX4_got_0 rfl ?_
  refine a_iload_n X dX4_got_1 rfl ?_
  obtain ⟨r22, q21, hm⟩ := i_b hm
  refine a_callV (k' := 0) (n' := 0) (st := []) X (c_X4_isReader hMR q21) yv_X4_isReader ml_X4_146 rfl (Or.inr (mr5_ hMR)) ⟨by decide, by decide, by decide, by decide, Nat.le_of_ble_eq_true rfl⟩ rfl rfl dX4_got_2 rfl rfl ?_
  show At_ v g 3 h M 0 0 5 [(0, v_R (some 5)), (1, v_I x1), (2, v_I x2)] [v_I r22]
  refine a_if_eq (tgt := 17) X dX4_got_5 (by decide) hm (fun c23 hm => ?_) (fun c23 hm => ?_)
  · refine a_ldc2 X cn_X4_265 dX4_got_17 ?_
    exact a_lret X hF ⟨rfl, rfl, Option.some.inj hm⟩ (by decide) dX4_got_20
  · refine a_aload_n X dX4_got_8 rfl ?_
    refine a_mgetA X hMR 21 (by decide) rfl rfl fl_X4_69 dX4_got_9 ?_
    refine a_iload_n X dX4_got_12 rfl ?_
    obtain ⟨b24, hm⟩ := i_c hm
    refine a_maldI X hMR 21 (by decide) rfl rfl rfl b24 dX4_got_13 ?_
    refine a_if_ne (tgt := 21) X dX4_got_14 (by decide) hm (fun c25 hm => ?_) (fun c25 hm => ?_)
    · refine a_iload_n X dX4_got_21 rfl ?_
      by_cases c26 : x2 = 0
      · have hm := i_p hm c26
        refine a_tsIn (c := 0) (off := 34) (tgt := 56) X dX4_got_22 c26 (by decide) (by decide) rfl (by decide) ?_
        refine a_aload_n X dX4_got_56 rfl ?_
        refine a_mgetA X hMR 22 (by decide) rfl rfl fl_X4_72 dX4_got_57 ?_
        refine a_iload_n X dX4_got_60 rfl ?_
        obtain ⟨b35, hm⟩ := i_c hm
        refine a_maldI X hMR 22 (by decide) rfl rfl rfl b35 dX4_got_61 ?_
        refine a_i2l X dX4_got_62 ?_
        exact a_lret X hF ⟨rfl, rfl, Option.some.inj hm⟩ (by decide) dX4_got_63
      · have hm := i_n hm c26
        by_cases c27 : x2 = 1
        · have hm := i_p hm c27
          refine a_tsIn (c := 1) (off := 42) (tgt := 64) X dX4_got_22 c27 (by decide) (by decide) rfl (by decide) ?_
          refine a_aload_n X dX4_got_64 rfl ?_
          refine a_mgetA X hMR 23 (by decide) rfl rfl fl_X4_75 dX4_got_65 ?_
          refine a_iload_n X dX4_got_68 rfl ?_
          obtain ⟨b34, hm⟩ := i_c hm
          refine a_maldI X hMR 23 (by decide) rfl rfl rfl b34 dX4_got_69 ?_
          refine a_i2l X dX4_got_70 ?_
          exact a_lret X hF ⟨rfl, rfl, Option.some.inj hm⟩ (by decide) dX4_got_71
        · have hm := i_n hm c27
          by_cases c28 : x2 = 2
          · have hm := i_p hm c28
            refine a_tsIn (c := 2) (off := 50) (tgt := 72) X dX4_got_22 c28 (by decide) (by decide) rfl (by decide) ?_
            refine a_aload_n X dX4_got_72 rfl ?_
            refine a_mgetA X hMR 24 (by decide) rfl rfl fl_X4_78 dX4_got_73 ?_
            refine a_iload_n X dX4_got_76 rfl ?_
            obtain ⟨b33, hm⟩ := i_c hm
            refine a_maldJ X hMR 24 (by decide) rfl rfl rfl b33 dX4_got_77 ?_
            exact a_lret X hF ⟨rfl, rfl, Option.some.inj hm⟩ (by decide) dX4_got_78
          · have hm := i_n hm c28
            by_cases c29 : x2 = 3
            · have hm := i_p hm c29
              refine a_tsIn (c := 3) (off := 57) (tgt := 79) X dX4_got_22 c29 (by decide) (by decide) rfl (by decide) ?_
              refine a_aload_n X dX4_got_79 rfl ?_
              refine a_mgetA X hMR 25 (by decide) rfl rfl fl_X4_81 dX4_got_80 ?_
              refine a_iload_n X dX4_got_83 rfl ?_
              obtain ⟨b32, hm⟩ := i_c hm
              refine a_maldI X hMR 25 (by decide) rfl rfl rfl b32 dX4_got_84 ?_
              refine a_i2l X dX4_got_85 ?_
              exact a_lret X hF ⟨rfl, rfl, Option.some.inj hm⟩ (by decide) dX4_got_86
            · have hm := i_n hm c29
              by_cases c30 : x2 = 4
              · have hm := i_p hm c30
                refine a_tsIn (c := 4) (off := 65) (tgt := 87) X dX4_got_22 c30 (by decide) (by decide) rfl (by decide) ?_
                refine a_aload_n X dX4_got_87 rfl ?_
                refine a_mgetA X hMR 26 (by decide) rfl rfl fl_X4_84 dX4_got_88 ?_
                refine a_iload_n X dX4_got_91 rfl ?_
                obtain ⟨b31, hm⟩ := i_c hm
                refine a_maldI X hMR 26 (by decide) rfl rfl rfl b31 dX4_got_92 ?_
                refine a_i2l X dX4_got_93 ?_
                exact a_lret X hF ⟨rfl, rfl, Option.some.inj hm⟩ (by decide) dX4_got_94
              · have hm := i_n hm c30
                have wc26 : ¬ (x2).toInt = 0 := lv_neT c26 rfl
                have wc27 : ¬ (x2).toInt = 1 := lv_neT c27 rfl
                have wc28 : ¬ (x2).toInt = 2 := lv_neT c28 rfl
                have wc29 : ¬ (x2).toInt = 3 := lv_neT c29 rfl
                have wc30 : ¬ (x2).toInt = 4 := lv_neT c30 rfl
                refine a_tsOut (tgt := 95) X dX4_got_22 (by omega) (by decide) ?_
                refine a_ldc2 X cn_X4_265 dX4_got_95 ?_
                exact a_lret X hF ⟨rfl, rfl, Option.some.inj hm⟩ (by decide) dX4_got_98
    · refine a_ldc2 X cn_X4_265 dX4_got_17 ?_
      exact a_lret X hF ⟨rfl, rfl, Option.some.inj hm⟩ (by decide) dX4_got_20
theorem c_X4_got {l : Launch} {g : Gvx} {h : Hpx} {M : Msx} {r : Int64} {x1 : Int32} {x2 : Int32} (hMR : MR_ h) (hm : f_X4_got M x1 x2 = some r) : Mt_ l g yX4_got cX4_got 3 ((some .long)) rm_X4_got [v_R (some 5), v_I x1, v_I x2] h M (some (v_J r)) h M := mt_of (by decide) (Nat.le_of_ble_eq_true rfl) (fun v _ X hF => q_X4_got_0 X hMR M hF x1 x2 hm)
theorem yv_X4_got : Yv_ yX4_got cX4_got 3 ((some .long)) 2 4 := ⟨rfl, by decide, ⟨by decide, by decide, by decide +kernel⟩, co_X4_got, im_X4_got, se_X4_got, ini_X4⟩

abbrev rm_X4_word : Room := { frames := 1, cells := 0, slots := 0, locals := 21 }
def f_X4_word (M : Msx) (x1 : Int32) (x2 : Int32) : Option (Int64) :=
  (f_X4_isReader M x1).bind fun r22 =>
  (if r22 = 0 then
  some (0 : Int64)
  else (if x2 < 0 then
  some (0 : Int64)
  else (if (8 : Int32) ≤ x2 then
  some (0 : Int64)
  else (if in_b (((8 : Int32) * x1) + x2) 128 = true then
  some (m_J M 27 (((8 : Int32) * x1) + x2).toNatClampNeg) else none))))
set_option maxHeartbeats 4000000 in
theorem q_X4_word_0 {v : Evx} {g : Gvx} {h : Hpx} {r : Int64} (X : Cx_ v g cX4_word 3 RX4 "word" ((some .long)) rm_X4_word) (hMR : MR_ h) (M : Msx) (hF : Fi_ v g rm_X4_word (some (v_J r)) h M) (x1 : Int32) (x2 : Int32) (hm : f_X4_word M x1 x2 = some r) : At_ v g 3 h M 0 0 0 [(0, v_R (some 5)), (1, v_I x1), (2, v_I x2)] [] := by
  unfold f_X4_word at hm
  refine a_aload_n X dX4_word_0 rfl ?_
  refine a_iload_n X dX4_word_1 rfl ?_
  obtain ⟨r22, q21, hm⟩ := i_b hm
  refine a_callV (k' := 0) (n' := 0) (st := []) X (c_X4_isReader hMR q21) yv_X4_isReader ml_X4_146 rfl (Or.inr (mr5_ hMR)) ⟨by decide, by decide, by decide, by decide, Nat.le_of_ble_eq_true rfl⟩ rfl rfl dX4_word_2 rfl rfl ?_
  show At_ v g 3 h M 0 0 5 [(0, v_R (some 5)), (1, v_I x1), (2, v_I x2)] [v_I r22]
  refine a_if_eq (tgt := 32) X dX4_word_5 (by decide) hm (fun c23 hm => ?_) (fun c23 hm => ?_)
  · refine a_lconst (x := 0) X dX4_word_32 (by decide) ?_
    exact a_lret X hF ⟨rfl, rfl, Option.some.inj hm⟩ (by decide) dX4_word_33
  · refine a_iload_n X dX4_word_8 rfl ?_
    refine a_if_lt (tgt := 32) X dX4_word_9 (by decide) hm (fun c24 hm => ?_) (fun c24 hm => ?_)
    · refine a_lconst (x := 0) X dX4_word_32 (by decide) ?_
      exact a_lret X hF ⟨rfl, rfl, Option.some.inj hm⟩ (by decide) dX4_word_33
    · refine a_iload_n X dX4_word_12 rfl ?_
      refine a_bipush (x := 8) X dX4_word_13 (by decide) ?_
      refine a_icmp_ge (tgt := 32) X dX4_word_15 (by decide) hm (fun c25 hm => ?_) (fun c25 hm => ?_)
      · refine a_lconst (x := 0) X dX4_word_32 (by decide) ?_
        exact a_lret X hF ⟨rfl, rfl, Option.some.inj hm⟩ (by decide) dX4_word_33
      · refine a_aload_n X dX4_word_18 rfl ?_
        refine a_mgetA X hMR 27 (by decide) rfl rfl fl_X4_87 dX4_word_19 ?_
        refine a_bipush (x := 8) X dX4_word_22 (by decide) ?_
        refine a_iload_n X dX4_word_24 rfl ?_
        refine a_imul X dX4_word_25 ?_
        refine a_iload_n X dX4_word_26 rfl ?_
        refine a_iadd X dX4_word_27 ?_
        obtain ⟨b26, hm⟩ := i_c hm
        refine a_maldJ X hMR 27 (by decide) rfl rfl rfl b26 dX4_word_28 ?_
        refine a_goto (tgt := 33) X dX4_word_29 (by decide) ?_
        exact a_lret X hF ⟨rfl, rfl, Option.some.inj hm⟩ (by decide) dX4_word_33
theorem c_X4_word {l : Launch} {g : Gvx} {h : Hpx} {M : Msx} {r : Int64} {x1 : Int32} {x2 : Int32} (hMR : MR_ h) (hm : f_X4_word M x1 x2 = some r) : Mt_ l g yX4_word cX4_word 3 ((some .long)) rm_X4_word [v_R (some 5), v_I x1, v_I x2] h M (some (v_J r)) h M := mt_of (by decide) (Nat.le_of_ble_eq_true rfl) (fun v _ X hF => q_X4_word_0 X hMR M hF x1 x2 hm)
theorem yv_X4_word : Yv_ yX4_word cX4_word 3 ((some .long)) 2 4 := ⟨rfl, by decide, ⟨by decide, by decide, by decide +kernel⟩, co_X4_word, im_X4_word, se_X4_word, ini_X4⟩

abbrev rm_X4_of : Room := { frames := 2, cells := 0, slots := 0, locals := 47 }
def f_X4_of (M : Msx) (x1 : Int32) (x2 : Int32) : Option (Msx × Int32) :=
  (if x2 < 0 then
  some (M, (-1 : Int32))
  else (if x2 ≤ (8 : Int32) then
  (f_X4_isReader M x1).bind fun r24 =>
  (if r24 = 0 then
  c_l (f_X4_find M (2 : Int32)) fun M46 r47 =>
  some (M46, r47)
  else (if x2 = 0 then
  (if in_b x1 16 = true then
  some (M, (m_I M 11 x1.toNatClampNeg)) else none)
  else (if x2 = 1 then
  (if in_b ((4 : Int32) * x1) 64 = true then
  some (M, (m_I M 12 ((4 : Int32) * x1).toNatClampNeg)) else none)
  else (if x2 = 2 then
  (if in_b ((4 : Int32) * x1) 64 = true then
  (f_X4_placeIn M x1 (m_I M 12 ((4 : Int32) * x1).toNatClampNeg)).bind fun r42 =>
  some (M, r42) else none)
  else (if x2 = 3 then
  (if in_b x1 16 = true then
  some (M, (m_I M 18 x1.toNatClampNeg)) else none)
  else (if x2 = 4 then
  (if in_b x1 16 = true then
  some (M, (m_I M 19 x1.toNatClampNeg)) else none)
  else (if x2 = 5 then
  (if in_b x1 16 = true then
  some (M, (m_I M 20 x1.toNatClampNeg)) else none)
  else (if x2 = 6 then
  (if in_b x1 16 = true then
  some (M, (m_I M 28 x1.toNatClampNeg)) else none)
  else (if x2 = 7 then
  (if in_b x1 16 = true then
  some (M, (m_I M 16 x1.toNatClampNeg)) else none)
  else (if in_b x1 16 = true then
  some (M, (m_I M 21 x1.toNatClampNeg)) else none))))))))))
  else some (M, (-1 : Int32))))
set_option maxHeartbeats 4000000 in
theorem q_X4_of_0 {v : Evx} {g : Gvx} {h : Hpx} {M' : Msx} {r : Int32} (X : Cx_ v g cX4_of 3 RX4 "of" ((some .int)) rm_X4_of) (hMR : MR_ h) (hF : Fi_ v g rm_X4_of (some (v_I r)) h M') (M : Msx) (x1 : Int32) (x2 : Int32) (hm : f_X4_of M x1 x2 = some (M', r)) : At_ v g 3 h M 0 0 0 [(0, v_R (some 5)), (1, v_I x1), (2, v_I x2)] [] := by
  unfold f_X4_of at hm
  refine a_iload_n X dX4_of_0 rfl ?_
  refine a_if_lt (tgt := 10) X dX4_of_1 (by decide) hm (fun c21 hm => ?_) (fun c21 hm => ?_)
  · refine a_iconst (x := -1) X dX4_of_10 (by decide) ?_
    exact a_iret X hF ⟨rfl, (Prod.mk.inj (Option.some.inj hm)).1, (Prod.mk.inj (Option.some.inj hm)).2⟩ (by decide) dX4_of_11
  · refine a_iload_n X dX4_of_4 rfl ?_
    refine a_bipush (x := 8) X dX4_of_5 (by decide) ?_
    refine a_icmp_le (tgt := 12) X dX4_of_7 (by decide) hm (fun c22 hm => ?_) (fun c22 hm => ?_)
    · refine a_aload_n X dX4_of_12 rfl ?_
      refine a_iload_n X dX4_of_13 rfl ?_
      obtain ⟨r24, q23, hm⟩ := i_b hm
      refine a_callV (k' := 0) (n' := 0) (st := []) X (c_X4_isReader hMR q23) yv_X4_isReader ml_X4_146 rfl (Or.inr (mr5_ hMR)) ⟨by decide, by decide, by decide, by decide, Nat.le_of_ble_eq_true rfl⟩ rfl rfl dX4_of_14 rfl rfl ?_
      show At_ v g 3 h M 0 0 17 [(0, v_R (some 5)), (1, v_I x1), (2, v_I x2)] [v_I r24]
      refine a_if_ne (tgt := 26) X dX4_of_17 (by decide) hm (fun c25 hm => ?_) (fun c25 hm => ?_)
      · refine a_iload_n X dX4_of_26 rfl ?_
        by_cases c26 : x2 = 0
        · have hm := i_p hm c26
          refine a_tsIn (c := 0) (off := 45) (tgt := 72) X dX4_of_27 c26 (by decide) (by decide) rfl (by decide) ?_
          refine a_aload_n X dX4_of_72 rfl ?_
          refine a_mgetA X hMR 11 (by decide) rfl rfl fl_X4_39 dX4_of_73 ?_
          refine a_iload_n X dX4_of_76 rfl ?_
          obtain ⟨b44, hm⟩ := i_c hm
          refine a_maldI X hMR 11 (by decide) rfl rfl rfl b44 dX4_of_77 ?_
          exact a_iret X hF ⟨rfl, (Prod.mk.inj (Option.some.inj hm)).1, (Prod.mk.inj (Option.some.inj hm)).2⟩ (by decide) dX4_of_78
        · have hm := i_n hm c26
          by_cases c27 : x2 = 1
          · have hm := i_p hm c27
            refine a_tsIn (c := 1) (off := 52) (tgt := 79) X dX4_of_27 c27 (by decide) (by decide) rfl (by decide) ?_
            refine a_aload_n X dX4_of_79 rfl ?_
            refine a_mgetA X hMR 12 (by decide) rfl rfl fl_X4_42 dX4_of_80 ?_
            refine a_iconst (x := 4) X dX4_of_83 (by decide) ?_
            refine a_iload_n X dX4_of_84 rfl ?_
            refine a_imul X dX4_of_85 ?_
            obtain ⟨b43, hm⟩ := i_c hm
            refine a_maldI X hMR 12 (by decide) rfl rfl rfl b43 dX4_of_86 ?_
            exact a_iret X hF ⟨rfl, (Prod.mk.inj (Option.some.inj hm)).1, (Prod.mk.inj (Option.some.inj hm)).2⟩ (by decide) dX4_of_87
          · have hm := i_n hm c27
            by_cases c28 : x2 = 2
            · have hm := i_p hm c28
              refine a_tsIn (c := 2) (off := 61) (tgt := 88) X dX4_of_27 c28 (by decide) (by decide) rfl (by decide) ?_
              refine a_aload_n X dX4_of_88 rfl ?_
              refine a_iload_n X dX4_of_89 rfl ?_
              refine a_aload_n X dX4_of_90 rfl ?_
              refine a_mgetA X hMR 12 (by decide) rfl rfl fl_X4_42 dX4_of_91 ?_
              refine a_iconst (x := 4) X dX4_of_94 (by decide) ?_
              refine a_iload_n X dX4_of_95 rfl ?_
              refine a_imul X dX4_of_96 ?_
              obtain ⟨b40, hm⟩ := i_c hm
              refine a_maldI X hMR 12 (by decide) rfl rfl rfl b40 dX4_of_97 ?_
              obtain ⟨r42, q41, hm⟩ := i_b hm
              refine a_callV (k' := 0) (n' := 0) (st := []) X (c_X4_placeIn hMR q41) yv_X4_placeIn ml_X4_177 rfl (Or.inr (mr5_ hMR)) ⟨by decide, by decide, by decide, by decide, Nat.le_of_ble_eq_true rfl⟩ rfl rfl dX4_of_98 rfl rfl ?_
              show At_ v g 3 h M 0 0 101 [(0, v_R (some 5)), (1, v_I x1), (2, v_I x2)] [v_I r42]
              exact a_iret X hF ⟨rfl, (Prod.mk.inj (Option.some.inj hm)).1, (Prod.mk.inj (Option.some.inj hm)).2⟩ (by decide) dX4_of_101
            · have hm := i_n hm c28
              by_cases c29 : x2 = 3
              · have hm := i_p hm c29
                refine a_tsIn (c := 3) (off := 75) (tgt := 102) X dX4_of_27 c29 (by decide) (by decide) rfl (by decide) ?_
                refine a_aload_n X dX4_of_102 rfl ?_
                refine a_mgetA X hMR 18 (by decide) rfl rfl fl_X4_60 dX4_of_103 ?_
                refine a_iload_n X dX4_of_106 rfl ?_
                obtain ⟨b39, hm⟩ := i_c hm
                refine a_maldI X hMR 18 (by decide) rfl rfl rfl b39 dX4_of_107 ?_
                exact a_iret X hF ⟨rfl, (Prod.mk.inj (Option.some.inj hm)).1, (Prod.mk.inj (Option.some.inj hm)).2⟩ (by decide) dX4_of_108
              · have hm := i_n hm c29
                by_cases c30 : x2 = 4
                · have hm := i_p hm c30
                  refine a_tsIn (c := 4) (off := 82) (tgt := 109) X dX4_of_27 c30 (by decide) (by decide) rfl (by decide) ?_
                  refine a_aload_n X dX4_of_109 rfl ?_
                  refine a_mgetA X hMR 19 (by decide) rfl rfl fl_X4_63 dX4_of_110 ?_
                  refine a_iload_n X dX4_of_113 rfl ?_
                  obtain ⟨b38, hm⟩ := i_c hm
                  refine a_maldI X hMR 19 (by decide) rfl rfl rfl b38 dX4_of_114 ?_
                  exact a_iret X hF ⟨rfl, (Prod.mk.inj (Option.some.inj hm)).1, (Prod.mk.inj (Option.some.inj hm)).2⟩ (by decide) dX4_of_115
                · have hm := i_n hm c30
                  by_cases c31 : x2 = 5
                  · have hm := i_p hm c31
                    refine a_tsIn (c := 5) (off := 89) (tgt := 116) X dX4_of_27 c31 (by decide) (by decide) rfl (by decide) ?_
                    refine a_aload_n X dX4_of_116 rfl ?_
                    refine a_mgetA X hMR 20 (by decide) rfl rfl fl_X4_66 dX4_of_117 ?_
                    refine a_iload_n X dX4_of_120 rfl ?_
                    obtain ⟨b37, hm⟩ := i_c hm
                    refine a_maldI X hMR 20 (by decide) rfl rfl rfl b37 dX4_of_121 ?_
                    exact a_iret X hF ⟨rfl, (Prod.mk.inj (Option.some.inj hm)).1, (Prod.mk.inj (Option.some.inj hm)).2⟩ (by decide) dX4_of_122
                  · have hm := i_n hm c31
                    by_cases c32 : x2 = 6
                    · have hm := i_p hm c32
                      refine a_tsIn (c := 6) (off := 96) (tgt := 123) X dX4_of_27 c32 (by decide) (by decide) rfl (by decide) ?_
                      refine a_aload_n X dX4_of_123 rfl ?_
                      refine a_mgetA X hMR 28 (by decide) rfl rfl fl_X4_90 dX4_of_124 ?_
                      refine a_iload_n X dX4_of_127 rfl ?_
                      obtain ⟨b36, hm⟩ := i_c hm
                      refine a_maldI X hMR 28 (by decide) rfl rfl rfl b36 dX4_of_128 ?_
                      exact a_iret X hF ⟨rfl, (Prod.mk.inj (Option.some.inj hm)).1, (Prod.mk.inj (Option.some.inj hm)).2⟩ (by decide) dX4_of_129
                    · have hm := i_n hm c32
                      by_cases c33 : x2 = 7
                      · have hm := i_p hm c33
                        refine a_tsIn (c := 7) (off := 103) (tgt := 130) X dX4_of_27 c33 (by decide) (by decide) rfl (by decide) ?_
                        refine a_aload_n X dX4_of_130 rfl ?_
                        refine a_mgetA X hMR 16 (by decide) rfl rfl fl_X4_54 dX4_of_131 ?_
                        refine a_iload_n X dX4_of_134 rfl ?_
                        obtain ⟨b35, hm⟩ := i_c hm
                        refine a_maldI X hMR 16 (by decide) rfl rfl rfl b35 dX4_of_135 ?_
                        exact a_iret X hF ⟨rfl, (Prod.mk.inj (Option.some.inj hm)).1, (Prod.mk.inj (Option.some.inj hm)).2⟩ (by decide) dX4_of_136
                      · have hm := i_n hm c33
                        have wc26 : ¬ (x2).toInt = 0 := lv_neT c26 rfl
                        have wc27 : ¬ (x2).toInt = 1 := lv_neT c27 rfl
                        have wc28 : ¬ (x2).toInt = 2 := lv_neT c28 rfl
                        have wc29 : ¬ (x2).toInt = 3 := lv_neT c29 rfl
                        have wc30 : ¬ (x2).toInt = 4 := lv_neT c30 rfl
                        have wc31 : ¬ (x2).toInt = 5 := lv_neT c31 rfl
                        have wc32 : ¬ (x2).toInt = 6 := lv_neT c32 rfl
                        have wc33 : ¬ (x2).toInt = 7 := lv_neT c33 rfl
                        refine a_tsOut (tgt := 137) X dX4_of_27 (by omega) (by decide) ?_
                        refine a_aload_n X dX4_of_137 rfl ?_
                        refine a_mgetA X hMR 21 (by decide) rfl rfl fl_X4_69 dX4_of_138 ?_
                        refine a_iload_n X dX4_of_141 rfl ?_
                        obtain ⟨b34, hm⟩ := i_c hm
                        refine a_maldI X hMR 21 (by decide) rfl rfl rfl b34 dX4_of_142 ?_
                        exact a_iret X hF ⟨rfl, (Prod.mk.inj (Option.some.inj hm)).1, (Prod.mk.inj (Option.some.inj hm)).2⟩ (by decide) dX4_of_143
      · refine a_aload_n X dX4_of_20 rfl ?_
        refine a_iconst (x := 2) X dX4_of_21 (by decide) ?_
        obtain ⟨M46, r47, q45, hm⟩ := i_l hm
        refine a_callV (k' := 0) (n' := 0) (st := []) X (c_X4_find hMR q45) yv_X4_find ml_X4_131 rfl (Or.inr (mr5_ hMR)) ⟨by decide, by decide, by decide, by decide, Nat.le_of_ble_eq_true rfl⟩ rfl rfl dX4_of_22 rfl rfl ?_
        show At_ v g 3 h M46 0 0 25 [(0, v_R (some 5)), (1, v_I x1), (2, v_I x2)] [v_I r47]
        exact a_iret X hF ⟨rfl, (Prod.mk.inj (Option.some.inj hm)).1, (Prod.mk.inj (Option.some.inj hm)).2⟩ (by decide) dX4_of_25
    · refine a_iconst (x := -1) X dX4_of_10 (by decide) ?_
      exact a_iret X hF ⟨rfl, (Prod.mk.inj (Option.some.inj hm)).1, (Prod.mk.inj (Option.some.inj hm)).2⟩ (by decide) dX4_of_11
theorem c_X4_of {l : Launch} {g : Gvx} {h : Hpx} {M : Msx} {M' : Msx} {r : Int32} {x1 : Int32} {x2 : Int32} (hMR : MR_ h) (hm : f_X4_of M x1 x2 = some (M', r)) : Mt_ l g yX4_of cX4_of 3 ((some .int)) rm_X4_of [v_R (some 5), v_I x1, v_I x2] h M (some (v_I r)) h M' := mt_of (by decide) (Nat.le_of_ble_eq_true rfl) (fun v _ X hF => q_X4_of_0 X hMR hF M x1 x2 hm)
theorem yv_X4_of : Yv_ yX4_of cX4_of 3 ((some .int)) 2 4 := ⟨rfl, by decide, ⟨by decide, by decide, by decide +kernel⟩, co_X4_of, im_X4_of, se_X4_of, ini_X4⟩

abbrev rm_X4_place : Room := { frames := 2, cells := 0, slots := 0, locals := 47 }
def f_X4_place (M : Msx) (x1 : Int32) (x2 : Int32) : Option (Int32) :=
  (f_X4_isReader M x1).bind fun r22 =>
  (if r22 = 0 then
  some (-1 : Int32)
  else (f_X4_isRing M x2).bind fun r25 =>
  (if r25 = 0 then
  some (-1 : Int32)
  else (f_X4_placeIn M x1 x2).bind fun r28 =>
  some r28))
set_option maxHeartbeats 4000000 in
theorem q_X4_place_0 {v : Evx} {g : Gvx} {h : Hpx} {r : Int32} (X : Cx_ v g cX4_place 3 RX4 "place" ((some .int)) rm_X4_place) (hMR : MR_ h) (M : Msx) (hF : Fi_ v g rm_X4_place (some (v_I r)) h M) (x1 : Int32) (x2 : Int32) (hm : f_X4_place M x1 x2 = some r) : At_ v g 3 h M 0 0 0 [(0, v_R (some 5)), (1, v_I x1), (2, v_I x2)] [] := by
  unfold f_X4_place at hm
  refine a_aload_n X dX4_place_0 rfl ?_
  refine a_iload_n X dX4_place_1 rfl ?_
  obtain ⟨r22, q21, hm⟩ := i_b hm
  refine a_callV (k' := 0) (n' := 0) (st := []) X (c_X4_isReader hMR q21) yv_X4_isReader ml_X4_146 rfl (Or.inr (mr5_ hMR)) ⟨by decide, by decide, by decide, by decide, Nat.le_of_ble_eq_true rfl⟩ rfl rfl dX4_place_2 rfl rfl ?_
  show At_ v g 3 h M 0 0 5 [(0, v_R (some 5)), (1, v_I x1), (2, v_I x2)] [v_I r22]
  refine a_if_eq (tgt := 25) X dX4_place_5 (by decide) hm (fun c23 hm => ?_) (fun c23 hm => ?_)
  · refine a_iconst (x := -1) X dX4_place_25 (by decide) ?_
    exact a_iret X hF ⟨rfl, rfl, Option.some.inj hm⟩ (by decide) dX4_place_26
  · refine a_aload_n X dX4_place_8 rfl ?_
    refine a_iload_n X dX4_place_9 rfl ?_
    obtain ⟨r25, q24, hm⟩ := i_b hm
    refine a_callV (k' := 0) (n' := 0) (st := []) X (c_X4_isRing hMR q24) yv_X4_isRing ml_X4_142 rfl (Or.inr (mr5_ hMR)) ⟨by decide, by decide, by decide, by decide, Nat.le_of_ble_eq_true rfl⟩ rfl rfl dX4_place_10 rfl rfl ?_
    show At_ v g 3 h M 0 0 13 [(0, v_R (some 5)), (1, v_I x1), (2, v_I x2)] [v_I r25]
    refine a_if_eq (tgt := 25) X dX4_place_13 (by decide) hm (fun c26 hm => ?_) (fun c26 hm => ?_)
    · refine a_iconst (x := -1) X dX4_place_25 (by decide) ?_
      exact a_iret X hF ⟨rfl, rfl, Option.some.inj hm⟩ (by decide) dX4_place_26
    · refine a_aload_n X dX4_place_16 rfl ?_
      refine a_iload_n X dX4_place_17 rfl ?_
      refine a_iload_n X dX4_place_18 rfl ?_
      obtain ⟨r28, q27, hm⟩ := i_b hm
      refine a_callV (k' := 0) (n' := 0) (st := []) X (c_X4_placeIn hMR q27) yv_X4_placeIn ml_X4_177 rfl (Or.inr (mr5_ hMR)) ⟨by decide, by decide, by decide, by decide, Nat.le_of_ble_eq_true rfl⟩ rfl rfl dX4_place_19 rfl rfl ?_
      show At_ v g 3 h M 0 0 22 [(0, v_R (some 5)), (1, v_I x1), (2, v_I x2)] [v_I r28]
      refine a_goto (tgt := 26) X dX4_place_22 (by decide) ?_
      exact a_iret X hF ⟨rfl, rfl, Option.some.inj hm⟩ (by decide) dX4_place_26
theorem c_X4_place {l : Launch} {g : Gvx} {h : Hpx} {M : Msx} {r : Int32} {x1 : Int32} {x2 : Int32} (hMR : MR_ h) (hm : f_X4_place M x1 x2 = some r) : Mt_ l g yX4_place cX4_place 3 ((some .int)) rm_X4_place [v_R (some 5), v_I x1, v_I x2] h M (some (v_I r)) h M := mt_of (by decide) (Nat.le_of_ble_eq_true rfl) (fun v _ X hF => q_X4_place_0 X hMR M hF x1 x2 hm)
theorem yv_X4_place : Yv_ yX4_place cX4_place 3 ((some .int)) 2 4 := ⟨rfl, by decide, ⟨by decide, by decide, by decide +kernel⟩, co_X4_place, im_X4_place, se_X4_place, ini_X4⟩

abbrev rm_X4_named : Room := { frames := 1, cells := 0, slots := 0, locals := 21 }
def j_X4_named_56 (M : Msx) : Option (Msx × Int32) :=
  some (M, (-1 : Int32))
set_option maxHeartbeats 4000000 in
theorem q_X4_named_56 {v : Evx} {g : Gvx} {h : Hpx} {M' : Msx} {r : Int32} (X : Cx_ v g cX4_named 3 RX4 "named" ((some .int)) rm_X4_named) (hMR : MR_ h) (hF : Fi_ v g rm_X4_named (some (v_I r)) h M') (M : Msx) (hm : j_X4_named_56 M = some (M', r)) : At_ v g 3 h M 0 0 56 [(0, v_R (some 5))] [] := by
  unfold j_X4_named_56 at hm
  refine a_iconst (x := -1) X dX4_named_56 (by decide) ?_
  refine a_goto (tgt := 70) X dX4_named_57 (by decide) ?_
  exact a_iret X hF ⟨rfl, (Prod.mk.inj (Option.some.inj hm)).1, (Prod.mk.inj (Option.some.inj hm)).2⟩ (by decide) dX4_named_70
def j_X4_named_42 (M : Msx) (x1 : Int32) (x2 : Int32) : Option (Msx × Int32) :=
  (if x2 < 0 then
  j_X4_named_56 M
  else (if in_b x1 16 = true then
  (if x2 < (m_I M 16 x1.toNatClampNeg) then
  (if in_b (((4 : Int32) * x1) + x2) 64 = true then
  some (M, (m_I M 15 (((4 : Int32) * x1) + x2).toNatClampNeg)) else none)
  else j_X4_named_56 M) else none))
set_option maxHeartbeats 4000000 in
theorem q_X4_named_42 {v : Evx} {g : Gvx} {h : Hpx} {M' : Msx} {r : Int32} (X : Cx_ v g cX4_named 3 RX4 "named" ((some .int)) rm_X4_named) (hMR : MR_ h) (hF : Fi_ v g rm_X4_named (some (v_I r)) h M') (M : Msx) (x1 : Int32) (x2 : Int32) (hm : j_X4_named_42 M x1 x2 = some (M', r)) : At_ v g 3 h M 0 0 42 [(0, v_R (some 5)), (1, v_I x1), (2, v_I x2)] [] := by
  unfold j_X4_named_42 at hm
  refine a_iload_n X dX4_named_42 rfl ?_
  refine a_if_lt (tgt := 56) X dX4_named_43 (by decide) hm (fun c33 hm => ?_) (fun c33 hm => ?_)
  · refine a_pick (lv' := [(0, v_R (some 5))]) [0] rfl ?_
    exact q_X4_named_56 X hMR hF M hm
  · refine a_iload_n X dX4_named_46 rfl ?_
    refine a_aload_n X dX4_named_47 rfl ?_
    refine a_mgetA X hMR 16 (by decide) rfl rfl fl_X4_54 dX4_named_48 ?_
    refine a_iload_n X dX4_named_51 rfl ?_
    obtain ⟨b34, hm⟩ := i_c hm
    refine a_maldI X hMR 16 (by decide) rfl rfl rfl b34 dX4_named_52 ?_
    refine a_icmp_lt (tgt := 60) X dX4_named_53 (by decide) hm (fun c35 hm => ?_) (fun c35 hm => ?_)
    · refine a_aload_n X dX4_named_60 rfl ?_
      refine a_mgetA X hMR 15 (by decide) rfl rfl fl_X4_51 dX4_named_61 ?_
      refine a_iconst (x := 4) X dX4_named_64 (by decide) ?_
      refine a_iload_n X dX4_named_65 rfl ?_
      refine a_imul X dX4_named_66 ?_
      refine a_iload_n X dX4_named_67 rfl ?_
      refine a_iadd X dX4_named_68 ?_
      obtain ⟨b36, hm⟩ := i_c hm
      refine a_maldI X hMR 15 (by decide) rfl rfl rfl b36 dX4_named_69 ?_
      exact a_iret X hF ⟨rfl, (Prod.mk.inj (Option.some.inj hm)).1, (Prod.mk.inj (Option.some.inj hm)).2⟩ (by decide) dX4_named_70
    · refine a_pick (lv' := [(0, v_R (some 5))]) [0] rfl ?_
      exact q_X4_named_56 X hMR hF M hm
def f_X4_named (M : Msx) (x1 : Int32) (x2 : Int32) : Option (Msx × Int32) :=
  (f_X4_isReader M x1).bind fun r22 =>
  (if r22 = 0 then
  c_l (f_X4_find M (2 : Int32)) fun M31 r32 =>
  some (M31, r32)
  else (if in_b x1 16 = true then
  (if (m_I M 11 x1.toNatClampNeg) = (6 : Int32) then
  j_X4_named_42 M x1 x2
  else (if (m_I M 11 x1.toNatClampNeg) = (7 : Int32) then
  j_X4_named_42 M x1 x2
  else c_l (f_X4_find M (4 : Int32)) fun M28 r29 =>
  some (M28, r29))) else none))
set_option maxHeartbeats 4000000 in
theorem q_X4_named_0 {v : Evx} {g : Gvx} {h : Hpx} {M' : Msx} {r : Int32} (X : Cx_ v g cX4_named 3 RX4 "named" ((some .int)) rm_X4_named) (hMR : MR_ h) (hF : Fi_ v g rm_X4_named (some (v_I r)) h M') (M : Msx) (x1 : Int32) (x2 : Int32) (hm : f_X4_named M x1 x2 = some (M', r)) : At_ v g 3 h M 0 0 0 [(0, v_R (some 5)), (1, v_I x1), (2, v_I x2)] [] := by
  unfold f_X4_named at hm
  refine a_aload_n X dX4_named_0 rfl ?_
  refine a_iload_n X dX4_named_1 rfl ?_
  obtain ⟨r22, q21, hm⟩ := i_b hm
  refine a_callV (k' := 0) (n' := 0) (st := []) X (c_X4_isReader hMR q21) yv_X4_isReader ml_X4_146 rfl (Or.inr (mr5_ hMR)) ⟨by decide, by decide, by decide, by decide, Nat.le_of_ble_eq_true rfl⟩ rfl rfl dX4_named_2 rfl rfl ?_
  show At_ v g 3 h M 0 0 5 [(0, v_R (some 5)), (1, v_I x1), (2, v_I x2)] [v_I r22]
  refine a_if_ne (tgt := 14) X dX4_named_5 (by decide) hm (fun c23 hm => ?_) (fun c23 hm => ?_)
  · refine a_aload_n X dX4_named_14 rfl ?_
    refine a_mgetA X hMR 11 (by decide) rfl rfl fl_X4_39 dX4_named_15 ?_
    refine a_iload_n X dX4_named_18 rfl ?_
    obtain ⟨b24, hm⟩ := i_c hm
    refine a_maldI X hMR 11 (by decide) rfl rfl rfl b24 dX4_named_19 ?_
    refine a_bipush (x := 6) X dX4_named_20 (by decide) ?_
    refine a_icmp_eq (tgt := 42) X dX4_named_22 (by decide) hm (fun c25 hm => ?_) (fun c25 hm => ?_)
    · exact q_X4_named_42 X hMR hF M x1 x2 hm
    · refine a_aload_n X dX4_named_25 rfl ?_
      refine a_mgetA X hMR 11 (by decide) rfl rfl fl_X4_39 dX4_named_26 ?_
      refine a_iload_n X dX4_named_29 rfl ?_
      refine a_maldI X hMR 11 (by decide) rfl rfl rfl b24 dX4_named_30 ?_
      refine a_bipush (x := 7) X dX4_named_31 (by decide) ?_
      refine a_icmp_eq (tgt := 42) X dX4_named_33 (by decide) hm (fun c26 hm => ?_) (fun c26 hm => ?_)
      · exact q_X4_named_42 X hMR hF M x1 x2 hm
      · refine a_aload_n X dX4_named_36 rfl ?_
        refine a_iconst (x := 4) X dX4_named_37 (by decide) ?_
        obtain ⟨M28, r29, q27, hm⟩ := i_l hm
        refine a_callV (k' := 0) (n' := 0) (st := []) X (c_X4_find hMR q27) yv_X4_find ml_X4_131 rfl (Or.inr (mr5_ hMR)) ⟨by decide, by decide, by decide, by decide, Nat.le_of_ble_eq_true rfl⟩ rfl rfl dX4_named_38 rfl rfl ?_
        show At_ v g 3 h M28 0 0 41 [(0, v_R (some 5)), (1, v_I x1), (2, v_I x2)] [v_I r29]
        exact a_iret X hF ⟨rfl, (Prod.mk.inj (Option.some.inj hm)).1, (Prod.mk.inj (Option.some.inj hm)).2⟩ (by decide) dX4_named_41
  · refine a_aload_n X dX4_named_8 rfl ?_
    refine a_iconst (x := 2) X dX4_named_9 (by decide) ?_
    obtain ⟨M31, r32, q30, hm⟩ := i_l hm
    refine a_callV (k' := 0) (n' := 0) (st := []) X (c_X4_find hMR q30) yv_X4_find ml_X4_131 rfl (Or.inr (mr5_ hMR)) ⟨by decide, by decide, by decide, by decide, Nat.le_of_ble_eq_true rfl⟩ rfl rfl dX4_named_10 rfl rfl ?_
    show At_ v g 3 h M31 0 0 13 [(0, v_R (some 5)), (1, v_I x1), (2, v_I x2)] [v_I r32]
    exact a_iret X hF ⟨rfl, (Prod.mk.inj (Option.some.inj hm)).1, (Prod.mk.inj (Option.some.inj hm)).2⟩ (by decide) dX4_named_13
theorem c_X4_named {l : Launch} {g : Gvx} {h : Hpx} {M : Msx} {M' : Msx} {r : Int32} {x1 : Int32} {x2 : Int32} (hMR : MR_ h) (hm : f_X4_named M x1 x2 = some (M', r)) : Mt_ l g yX4_named cX4_named 3 ((some .int)) rm_X4_named [v_R (some 5), v_I x1, v_I x2] h M (some (v_I r)) h M' := mt_of (by decide) (Nat.le_of_ble_eq_true rfl) (fun v _ X hF => q_X4_named_0 X hMR hF M x1 x2 hm)
theorem yv_X4_named : Yv_ yX4_named cX4_named 3 ((some .int)) 2 4 := ⟨rfl, by decide, ⟨by decide, by decide, by decide +kernel⟩, co_X4_named, im_X4_named, se_X4_named, ini_X4⟩

abbrev rm_X4_entry : Room := { frames := 1, cells := 0, slots := 0, locals := 21 }
def j_X4_entry_44 (M : Msx) : Option (Msx × Int32) :=
  some (M, (-1 : Int32))
set_option maxHeartbeats 4000000 in
theorem q_X4_entry_44 {v : Evx} {g : Gvx} {h : Hpx} {M' : Msx} {r : Int32} (X : Cx_ v g cX4_entry 3 RX4 "entry" ((some .int)) rm_X4_entry) (hMR : MR_ h) (hF : Fi_ v g rm_X4_entry (some (v_I r)) h M') (M : Msx) (hm : j_X4_entry_44 M = some (M', r)) : At_ v g 3 h M 0 0 44 [(0, v_R (some 5))] [] := by
  unfold j_X4_entry_44 at hm
  refine a_iconst (x := -1) X dX4_entry_44 (by decide) ?_
  refine a_goto (tgt := 59) X dX4_entry_45 (by decide) ?_
  exact a_iret X hF ⟨rfl, (Prod.mk.inj (Option.some.inj hm)).1, (Prod.mk.inj (Option.some.inj hm)).2⟩ (by decide) dX4_entry_59
def f_X4_entry (M : Msx) (x1 : Int32) (x2 : Int32) : Option (Msx × Int32) :=
  (f_X4_isReader M x1).bind fun r22 =>
  (if r22 = 0 then
  c_l (f_X4_find M (2 : Int32)) fun M34 r35 =>
  some (M34, r35)
  else (if in_b x1 16 = true then
  (if (m_I M 11 x1.toNatClampNeg) = (4 : Int32) then
  (if x2 < 0 then
  j_X4_entry_44 M
  else (if in_b x1 16 = true then
  (if x2 < (m_I M 28 x1.toNatClampNeg) then
  (if in_b (((32 : Int32) * x1) + x2) 512 = true then
  some (M, (m_I M 31 (((32 : Int32) * x1) + x2).toNatClampNeg)) else none)
  else j_X4_entry_44 M) else none))
  else c_l (f_X4_find M (4 : Int32)) fun M31 r32 =>
  some (M31, r32)) else none))
set_option maxHeartbeats 4000000 in
theorem q_X4_entry_0 {v : Evx} {g : Gvx} {h : Hpx} {M' : Msx} {r : Int32} (X : Cx_ v g cX4_entry 3 RX4 "entry" ((some .int)) rm_X4_entry) (hMR : MR_ h) (hF : Fi_ v g rm_X4_entry (some (v_I r)) h M') (M : Msx) (x1 : Int32) (x2 : Int32) (hm : f_X4_entry M x1 x2 = some (M', r)) : At_ v g 3 h M 0 0 0 [(0, v_R (some 5)), (1, v_I x1), (2, v_I x2)] [] := by
  unfold f_X4_entry at hm
  refine a_aload_n X dX4_entry_0 rfl ?_
  refine a_iload_n X dX4_entry_1 rfl ?_
  obtain ⟨r22, q21, hm⟩ := i_b hm
  refine a_callV (k' := 0) (n' := 0) (st := []) X (c_X4_isReader hMR q21) yv_X4_isReader ml_X4_146 rfl (Or.inr (mr5_ hMR)) ⟨by decide, by decide, by decide, by decide, Nat.le_of_ble_eq_true rfl⟩ rfl rfl dX4_entry_2 rfl rfl ?_
  show At_ v g 3 h M 0 0 5 [(0, v_R (some 5)), (1, v_I x1), (2, v_I x2)] [v_I r22]
  refine a_if_ne (tgt := 14) X dX4_entry_5 (by decide) hm (fun c23 hm => ?_) (fun c23 hm => ?_)
  · refine a_aload_n X dX4_entry_14 rfl ?_
    refine a_mgetA X hMR 11 (by decide) rfl rfl fl_X4_39 dX4_entry_15 ?_
    refine a_iload_n X dX4_entry_18 rfl ?_
    obtain ⟨b24, hm⟩ := i_c hm
    refine a_maldI X hMR 11 (by decide) rfl rfl rfl b24 dX4_entry_19 ?_
    refine a_iconst (x := 4) X dX4_entry_20 (by decide) ?_
    refine a_icmp_eq (tgt := 30) X dX4_entry_21 (by decide) hm (fun c25 hm => ?_) (fun c25 hm => ?_)
    · refine a_iload_n X dX4_entry_30 rfl ?_
      refine a_if_lt (tgt := 44) X dX4_entry_31 (by decide) hm (fun c26 hm => ?_) (fun c26 hm => ?_)
      · refine a_pick (lv' := [(0, v_R (some 5))]) [0] rfl ?_
        exact q_X4_entry_44 X hMR hF M hm
      · refine a_iload_n X dX4_entry_34 rfl ?_
        refine a_aload_n X dX4_entry_35 rfl ?_
        refine a_mgetA X hMR 28 (by decide) rfl rfl fl_X4_90 dX4_entry_36 ?_
        refine a_iload_n X dX4_entry_39 rfl ?_
        obtain ⟨b27, hm⟩ := i_c hm
        refine a_maldI X hMR 28 (by decide) rfl rfl rfl b27 dX4_entry_40 ?_
        refine a_icmp_lt (tgt := 48) X dX4_entry_41 (by decide) hm (fun c28 hm => ?_) (fun c28 hm => ?_)
        · refine a_aload_n X dX4_entry_48 rfl ?_
          refine a_mgetA X hMR 31 (by decide) rfl rfl fl_X4_99 dX4_entry_49 ?_
          refine a_bipush (x := 32) X dX4_entry_52 (by decide) ?_
          refine a_iload_n X dX4_entry_54 rfl ?_
          refine a_imul X dX4_entry_55 ?_
          refine a_iload_n X dX4_entry_56 rfl ?_
          refine a_iadd X dX4_entry_57 ?_
          obtain ⟨b29, hm⟩ := i_c hm
          refine a_maldI X hMR 31 (by decide) rfl rfl rfl b29 dX4_entry_58 ?_
          exact a_iret X hF ⟨rfl, (Prod.mk.inj (Option.some.inj hm)).1, (Prod.mk.inj (Option.some.inj hm)).2⟩ (by decide) dX4_entry_59
        · refine a_pick (lv' := [(0, v_R (some 5))]) [0] rfl ?_
          exact q_X4_entry_44 X hMR hF M hm
    · refine a_aload_n X dX4_entry_24 rfl ?_
      refine a_iconst (x := 4) X dX4_entry_25 (by decide) ?_
      obtain ⟨M31, r32, q30, hm⟩ := i_l hm
      refine a_callV (k' := 0) (n' := 0) (st := []) X (c_X4_find hMR q30) yv_X4_find ml_X4_131 rfl (Or.inr (mr5_ hMR)) ⟨by decide, by decide, by decide, by decide, Nat.le_of_ble_eq_true rfl⟩ rfl rfl dX4_entry_26 rfl rfl ?_
      show At_ v g 3 h M31 0 0 29 [(0, v_R (some 5)), (1, v_I x1), (2, v_I x2)] [v_I r32]
      exact a_iret X hF ⟨rfl, (Prod.mk.inj (Option.some.inj hm)).1, (Prod.mk.inj (Option.some.inj hm)).2⟩ (by decide) dX4_entry_29
  · refine a_aload_n X dX4_entry_8 rfl ?_
    refine a_iconst (x := 2) X dX4_entry_9 (by decide) ?_
    obtain ⟨M34, r35, q33, hm⟩ := i_l hm
    refine a_callV (k' := 0) (n' := 0) (st := []) X (c_X4_find hMR q33) yv_X4_find ml_X4_131 rfl (Or.inr (mr5_ hMR)) ⟨by decide, by decide, by decide, by decide, Nat.le_of_ble_eq_true rfl⟩ rfl rfl dX4_entry_10 rfl rfl ?_
    show At_ v g 3 h M34 0 0 13 [(0, v_R (some 5)), (1, v_I x1), (2, v_I x2)] [v_I r35]
    exact a_iret X hF ⟨rfl, (Prod.mk.inj (Option.some.inj hm)).1, (Prod.mk.inj (Option.some.inj hm)).2⟩ (by decide) dX4_entry_13
theorem c_X4_entry {l : Launch} {g : Gvx} {h : Hpx} {M : Msx} {M' : Msx} {r : Int32} {x1 : Int32} {x2 : Int32} (hMR : MR_ h) (hm : f_X4_entry M x1 x2 = some (M', r)) : Mt_ l g yX4_entry cX4_entry 3 ((some .int)) rm_X4_entry [v_R (some 5), v_I x1, v_I x2] h M (some (v_I r)) h M' := mt_of (by decide) (Nat.le_of_ble_eq_true rfl) (fun v _ X hF => q_X4_entry_0 X hMR hF M x1 x2 hm)
theorem yv_X4_entry : Yv_ yX4_entry cX4_entry 3 ((some .int)) 2 4 := ⟨rfl, by decide, ⟨by decide, by decide, by decide +kernel⟩, co_X4_entry, im_X4_entry, se_X4_entry, ini_X4⟩

abbrev rm_X4_target : Room := { frames := 1, cells := 0, slots := 0, locals := 21 }
def f_X4_target (M : Msx) (x1 : Int32) : Option (Msx × Int32) :=
  (f_X4_isReader M x1).bind fun r22 =>
  (if r22 = 0 then
  c_l (f_X4_find M (2 : Int32)) fun M31 r32 =>
  some (M31, r32)
  else (if in_b x1 16 = true then
  (if (m_I M 11 x1.toNatClampNeg) = (7 : Int32) then
  (if in_b x1 16 = true then
  some (M, (m_I M 17 x1.toNatClampNeg)) else none)
  else c_l (f_X4_find M (4 : Int32)) fun M27 r28 =>
  some (M27, r28)) else none))
set_option maxHeartbeats 4000000 in
theorem q_X4_target_0 {v : Evx} {g : Gvx} {h : Hpx} {M' : Msx} {r : Int32} (X : Cx_ v g cX4_target 2 RX4 "target" ((some .int)) rm_X4_target) (hMR : MR_ h) (hF : Fi_ v g rm_X4_target (some (v_I r)) h M') (M : Msx) (x1 : Int32) (hm : f_X4_target M x1 = some (M', r)) : At_ v g 2 h M 0 0 0 [(0, v_R (some 5)), (1, v_I x1)] [] := by
  unfold f_X4_target at hm
  refine a_aload_n X dX4_target_0 rfl ?_
  refine a_iload_n X dX4_target_1 rfl ?_
  obtain ⟨r22, q21, hm⟩ := i_b hm
  refine a_callV (k' := 0) (n' := 0) (st := []) X (c_X4_isReader hMR q21) yv_X4_isReader ml_X4_146 rfl (Or.inr (mr5_ hMR)) ⟨by decide, by decide, by decide, by decide, Nat.le_of_ble_eq_true rfl⟩ rfl rfl dX4_target_2 rfl rfl ?_
  show At_ v g 2 h M 0 0 5 [(0, v_R (some 5)), (1, v_I x1)] [v_I r22]
  refine a_if_ne (tgt := 14) X dX4_target_5 (by decide) hm (fun c23 hm => ?_) (fun c23 hm => ?_)
  · refine a_aload_n X dX4_target_14 rfl ?_
    refine a_mgetA X hMR 11 (by decide) rfl rfl fl_X4_39 dX4_target_15 ?_
    refine a_iload_n X dX4_target_18 rfl ?_
    obtain ⟨b24, hm⟩ := i_c hm
    refine a_maldI X hMR 11 (by decide) rfl rfl rfl b24 dX4_target_19 ?_
    refine a_bipush (x := 7) X dX4_target_20 (by decide) ?_
    refine a_icmp_ne (tgt := 34) X dX4_target_22 (by decide) hm (fun c25 hm => ?_) (fun c25 hm => ?_)
    · refine a_aload_n X dX4_target_34 rfl ?_
      refine a_iconst (x := 4) X dX4_target_35 (by decide) ?_
      obtain ⟨M27, r28, q26, hm⟩ := i_l hm
      refine a_callV (k' := 0) (n' := 0) (st := []) X (c_X4_find hMR q26) yv_X4_find ml_X4_131 rfl (Or.inr (mr5_ hMR)) ⟨by decide, by decide, by decide, by decide, Nat.le_of_ble_eq_true rfl⟩ rfl rfl dX4_target_36 rfl rfl ?_
      show At_ v g 2 h M27 0 0 39 [(0, v_R (some 5)), (1, v_I x1)] [v_I r28]
      exact a_iret X hF ⟨rfl, (Prod.mk.inj (Option.some.inj hm)).1, (Prod.mk.inj (Option.some.inj hm)).2⟩ (by decide) dX4_target_39
    · refine a_aload_n X dX4_target_25 rfl ?_
      refine a_mgetA X hMR 17 (by decide) rfl rfl fl_X4_57 dX4_target_26 ?_
      refine a_iload_n X dX4_target_29 rfl ?_
      obtain ⟨b29, hm⟩ := i_c hm
      refine a_maldI X hMR 17 (by decide) rfl rfl rfl b29 dX4_target_30 ?_
      refine a_goto (tgt := 39) X dX4_target_31 (by decide) ?_
      exact a_iret X hF ⟨rfl, (Prod.mk.inj (Option.some.inj hm)).1, (Prod.mk.inj (Option.some.inj hm)).2⟩ (by decide) dX4_target_39
  · refine a_aload_n X dX4_target_8 rfl ?_
    refine a_iconst (x := 2) X dX4_target_9 (by decide) ?_
    obtain ⟨M31, r32, q30, hm⟩ := i_l hm
    refine a_callV (k' := 0) (n' := 0) (st := []) X (c_X4_find hMR q30) yv_X4_find ml_X4_131 rfl (Or.inr (mr5_ hMR)) ⟨by decide, by decide, by decide, by decide, Nat.le_of_ble_eq_true rfl⟩ rfl rfl dX4_target_10 rfl rfl ?_
    show At_ v g 2 h M31 0 0 13 [(0, v_R (some 5)), (1, v_I x1)] [v_I r32]
    exact a_iret X hF ⟨rfl, (Prod.mk.inj (Option.some.inj hm)).1, (Prod.mk.inj (Option.some.inj hm)).2⟩ (by decide) dX4_target_13
theorem c_X4_target {l : Launch} {g : Gvx} {h : Hpx} {M : Msx} {M' : Msx} {r : Int32} {x1 : Int32} (hMR : MR_ h) (hm : f_X4_target M x1 = some (M', r)) : Mt_ l g yX4_target cX4_target 2 ((some .int)) rm_X4_target [v_R (some 5), v_I x1] h M (some (v_I r)) h M' := mt_of (by decide) (Nat.le_of_ble_eq_true rfl) (fun v _ X hF => q_X4_target_0 X hMR hF M x1 hm)
theorem yv_X4_target : Yv_ yX4_target cX4_target 2 ((some .int)) 1 4 := ⟨rfl, by decide, ⟨by decide, by decide, by decide +kernel⟩, co_X4_target, im_X4_target, se_X4_target, ini_X4⟩

abbrev rm_X4_found : Room := { frames := 0, cells := 0, slots := 0, locals := 0 }
def j_X4_found_10 (M : Msx) : Option (Int32) :=
  some (-1 : Int32)
set_option maxHeartbeats 4000000 in
theorem q_X4_found_10 {v : Evx} {g : Gvx} {h : Hpx} {r : Int32} (X : Cx_ v g cX4_found 2 RX4 "found" ((some .int)) rm_X4_found) (hMR : MR_ h) (M : Msx) (hF : Fi_ v g rm_X4_found (some (v_I r)) h M) (hm : j_X4_found_10 M  = some r) : At_ v g 2 h M 0 0 10 [(0, v_R (some 5))] [] := by
  unfold j_X4_found_10 at hm
  refine a_iconst (x := -1) X dX4_found_10 (by decide) ?_
  refine a_goto (tgt := 20) X dX4_found_11 (by decide) ?_
  exact a_iret X hF ⟨rfl, rfl, Option.some.inj hm⟩ (by decide) dX4_found_20
def f_X4_found (M : Msx) (x1 : Int32) : Option (Int32) :=
  (if x1 < 0 then
  j_X4_found_10 M 
  else (if x1 ≤ (6 : Int32) then
  (if in_b x1 7 = true then
  some (m_I M 38 x1.toNatClampNeg) else none)
  else j_X4_found_10 M ))
set_option maxHeartbeats 4000000 in
theorem q_X4_found_0 {v : Evx} {g : Gvx} {h : Hpx} {r : Int32} (X : Cx_ v g cX4_found 2 RX4 "found" ((some .int)) rm_X4_found) (hMR : MR_ h) (M : Msx) (hF : Fi_ v g rm_X4_found (some (v_I r)) h M) (x1 : Int32) (hm : f_X4_found M x1 = some r) : At_ v g 2 h M 0 0 0 [(0, v_R (some 5)), (1, v_I x1)] [] := by
  unfold f_X4_found at hm
  refine a_iload_n X dX4_found_0 rfl ?_
  refine a_if_lt (tgt := 10) X dX4_found_1 (by decide) hm (fun c21 hm => ?_) (fun c21 hm => ?_)
  · refine a_pick (lv' := [(0, v_R (some 5))]) [0] rfl ?_
    exact q_X4_found_10 X hMR M hF  hm
  · refine a_iload_n X dX4_found_4 rfl ?_
    refine a_bipush (x := 6) X dX4_found_5 (by decide) ?_
    refine a_icmp_le (tgt := 14) X dX4_found_7 (by decide) hm (fun c22 hm => ?_) (fun c22 hm => ?_)
    · refine a_aload_n X dX4_found_14 rfl ?_
      refine a_mgetA X hMR 38 (by decide) rfl rfl fl_X4_112 dX4_found_15 ?_
      refine a_iload_n X dX4_found_18 rfl ?_
      obtain ⟨b23, hm⟩ := i_c hm
      refine a_maldI X hMR 38 (by decide) rfl rfl rfl b23 dX4_found_19 ?_
      exact a_iret X hF ⟨rfl, rfl, Option.some.inj hm⟩ (by decide) dX4_found_20
    · refine a_pick (lv' := [(0, v_R (some 5))]) [0] rfl ?_
      exact q_X4_found_10 X hMR M hF  hm
theorem c_X4_found {l : Launch} {g : Gvx} {h : Hpx} {M : Msx} {r : Int32} {x1 : Int32} (hMR : MR_ h) (hm : f_X4_found M x1 = some r) : Mt_ l g yX4_found cX4_found 2 ((some .int)) rm_X4_found [v_R (some 5), v_I x1] h M (some (v_I r)) h M := mt_of (by decide) (Nat.le_of_ble_eq_true rfl) (fun v _ X hF => q_X4_found_0 X hMR M hF x1 hm)
theorem yv_X4_found : Yv_ yX4_found cX4_found 2 ((some .int)) 1 4 := ⟨rfl, by decide, ⟨by decide, by decide, by decide +kernel⟩, co_X4_found, im_X4_found, se_X4_found, ini_X4⟩
