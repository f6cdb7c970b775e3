abbrev rm_X0_init : Room := { frames := 1, cells := 1, slots := 8, locals := 12 }
def f_X0_init (h : Hpx) (a0 : Nat) : Option (Hpx) :=
  b_d (h_z h) fun z21 =>
  b_d (h_new h 7 8) fun h22 =>
  (if h_k h22 a0 = 1 then
  b_d (s_R h22 a0 0 (some z21)) fun h24 =>
  b_d (s_I h24 a0 2 (-1 : Int32)) fun h25 =>
  some h25 else none)
set_option maxHeartbeats 4000000 in
theorem q_X0_init_0 {v : Evx} {g : Gvx} {M : Msx} {h' : Hpx} (X : Cx_ v g cX0_init 1 RX0 "<init>" (none) rm_X0_init) (a0 : Nat) (hF : Fi_ v g rm_X0_init (none) h' M) (h : Hpx) (hm : f_X0_init h a0 = some h') : At_ v g 1 h M 0 0 0 [(0, v_R (some a0))] [] := by
  unfold f_X0_init at hm
  refine a_aload_n X dX0_init_0 rfl ?_
  refine a_objInit X ml_X0_3 ⟨by decide, Nat.le_of_ble_eq_true rfl⟩ dX0_init_1 ?_
  refine a_aload_n X dX0_init_4 rfl ?_
  refine a_bipush (x := 8) X dX0_init_5 (by decide) ?_
  obtain ⟨z21, ez21, hm⟩ := i_d hm
  obtain ⟨h22, eh22, hm⟩ := i_d hm
  refine a_newJ (N := 8) (k' := 1) (n' := 8) X (by decide) (by decide) (by decide) (by decide) rfl rfl dX0_init_7 ?_
  rw [← eh22]
  rw [← ez21]
  obtain ⟨k23, hm⟩ := i_c hm
  obtain ⟨h24, eh24, hm⟩ := i_d hm
  refine a_putR X 0 0 true rfl k23 (by decide) rfl rfl (fun _ => ⟨rfl, rfl⟩) rfl fl_X0_9 dX0_init_9 ?_
  rw [← eh24]
  refine a_aload_n X dX0_init_12 rfl ?_
  refine a_iconst (x := -1) X dX0_init_13 (by decide) ?_
  obtain ⟨h25, eh25, hm⟩ := i_d hm
  refine a_putI X 0 2 false rfl (kk_R eh24 k23) (by decide) rfl rfl (fun q => by cases q) rfl rfl fl_X0_15 dX0_init_14 ?_
  rw [← eh25]
  exact a_vret X hF ⟨Option.some.inj hm, rfl⟩ (by decide) dX0_init_17
theorem c_X0_init {l : Launch} {g : Gvx} {h : Hpx} {M : Msx} {h' : Hpx} {a0 : Nat} (hm : f_X0_init h a0 = some h') : Mt_ l g yX0_init cX0_init 1 (none) rm_X0_init [v_R (some a0)] h M (none) h' M := mt_of (by decide) (Nat.le_of_ble_eq_true rfl) (fun v _ X hF => q_X0_init_0 X a0 hF h hm)
theorem yi_X0_init : Yi_ yX0_init cX0_init 1 0 := ⟨rfl, ⟨by decide, by decide, by decide +kernel⟩, co_X0_init, im_X0_init, ini_X0⟩

abbrev rm_J7_fill_d0a16 : Room := { frames := 0, cells := 0, slots := 0, locals := 0 }
def j_J7_fill_d0a16_6 (rec_6 : Hpx → Option Nat → Int64 → Int32 → Int32 → Option (Hpx)) (h : Hpx) (x0 : Option Nat) (x1 : Int64) (x3 : Int32) (x4 : Int32) : Option (Hpx) :=
  (if x4 ≤ x3 then
  some h
  else x0.bind fun a24 =>
  (if h_k h a24 = 7 then
  (if in_b x3 (h_n h a24) = true then
  b_d (s_J h a24 x3.toNatClampNeg x1) fun h27 =>
  rec_6 h27 x0 x1 (x3 + (1 : Int32)) x4 else none) else none))
set_option maxHeartbeats 4000000 in
theorem q_J7_fill_d0a16_6 {v : Evx} {g : Gvx} {M : Msx} {h' : Hpx} (X : Cx_ v g cJ7_fill_d0a16 5 RJ7 "fill" (none) rm_J7_fill_d0a16) (hF : Fi_ v g rm_J7_fill_d0a16 (none) h' M) (rec_6 : Hpx → Option Nat → Int64 → Int32 → Int32 → Option (Hpx)) (hr_6 : ∀ (h : Hpx) (x0 : Option Nat) (x1 : Int64) (x3 : Int32) (x4 : Int32), rec_6 h x0 x1 x3 x4 = some h' → At_ v g 5 h M 0 0 6 [(0, v_R x0), (1, v_J x1), (3, v_I x3), (4, v_I x4)] []) (h : Hpx) (x0 : Option Nat) (x1 : Int64) (x3 : Int32) (x4 : Int32) (hm : j_J7_fill_d0a16_6 rec_6 h x0 x1 x3 x4 = some h') : At_ v g 5 h M 0 0 6 [(0, v_R x0), (1, v_J x1), (3, v_I x3), (4, v_I x4)] [] := by
  unfold j_J7_fill_d0a16_6 at hm
  refine a_iload_n X dJ7_fill_d0a16_6 rfl ?_
  refine a_iload X dJ7_fill_d0a16_7 rfl ?_
  refine a_icmp_ge (tgt := 22) X dJ7_fill_d0a16_9 (by decide) hm (fun c23 hm => ?_) (fun c23 hm => ?_)
  · exact a_vret X hF ⟨Option.some.inj hm, rfl⟩ (by decide) dJ7_fill_d0a16_22
  · refine a_aload_n X dJ7_fill_d0a16_12 rfl ?_
    refine a_iload_n X dJ7_fill_d0a16_13 rfl ?_
    refine a_lload_n X dJ7_fill_d0a16_14 rfl ?_
    obtain ⟨a24, ea24, hm⟩ := i_b hm
    obtain ⟨k25, hm⟩ := i_c hm
    obtain ⟨b26, hm⟩ := i_c hm
    obtain ⟨h27, eh27, hm⟩ := i_d hm
    refine a_last X ea24 k25 b26 dJ7_fill_d0a16_15 ?_
    rw [← eh27]
    refine a_iinc (y := x3 + (1 : Int32)) (lv' := [(0, v_R x0), (1, v_J x1), (3, v_I (x3 + (1 : Int32))), (4, v_I x4)]) X dJ7_fill_d0a16_16 rfl rfl (by decide) rfl ?_
    refine a_goto (tgt := 6) X dJ7_fill_d0a16_19 (by decide) ?_
    exact hr_6 h27 x0 x1 (x3 + (1 : Int32)) x4 hm
def l_J7_fill_d0a16_6 (n : Nat) : Hpx → Option Nat → Int64 → Int32 → Int32 → Option (Hpx) := lp_ (fun rec_6 => j_J7_fill_d0a16_6 rec_6) (fun _ _ _ _ _ => none) n
theorem ql_J7_fill_d0a16_6 {v : Evx} {g : Gvx} {M : Msx} {h' : Hpx} (X : Cx_ v g cJ7_fill_d0a16 5 RJ7 "fill" (none) rm_J7_fill_d0a16) (hF : Fi_ v g rm_J7_fill_d0a16 (none) h' M) : ∀ (n : Nat) (h : Hpx) (x0 : Option Nat) (x1 : Int64) (x3 : Int32) (x4 : Int32), l_J7_fill_d0a16_6 n h x0 x1 x3 x4 = some h' → At_ v g 5 h M 0 0 6 [(0, v_R x0), (1, v_J x1), (3, v_I x3), (4, v_I x4)] [] := by
  intro n
  induction n with
  | zero => intro h x0 x1 x3 x4 hm; cases hm
  | succ n ih =>
    intro h x0 x1 x3 x4 hm
    exact q_J7_fill_d0a16_6 X hF (l_J7_fill_d0a16_6 n) ih h x0 x1 x3 x4 hm
def f_J7_fill_d0a16 (h : Hpx) (x0 : Option Nat) (x1 : Int64) : Option (Hpx) :=
  x0.bind fun a21 =>
  (if h_k h a21 = 7 then
  l_J7_fill_d0a16_6 70 h x0 x1 (0 : Int32) (nI (h_n h a21)) else none)
set_option maxHeartbeats 4000000 in
theorem q_J7_fill_d0a16_0 {v : Evx} {g : Gvx} {M : Msx} {h' : Hpx} (X : Cx_ v g cJ7_fill_d0a16 5 RJ7 "fill" (none) rm_J7_fill_d0a16) (hF : Fi_ v g rm_J7_fill_d0a16 (none) h' M) (h : Hpx) (x0 : Option Nat) (x1 : Int64) (hm : f_J7_fill_d0a16 h x0 x1 = some h') : At_ v g 5 h M 0 0 0 [(0, v_R x0), (1, v_J x1)] [] := by
  unfold f_J7_fill_d0a16 at hm
  refine a_iconst (x := 0) X dJ7_fill_d0a16_0 (by decide) ?_
  refine a_istore_n (lv' := [(0, v_R x0), (1, v_J x1), (3, v_I (0 : Int32))]) X dJ7_fill_d0a16_1 (by decide) rfl ?_
  refine a_aload_n X dJ7_fill_d0a16_2 rfl ?_
  obtain ⟨a21, ea21, hm⟩ := i_b hm
  obtain ⟨k22, hm⟩ := i_c hm
  refine a_alenJ X ea21 k22 dJ7_fill_d0a16_3 ?_
  refine a_istore (lv' := [(0, v_R x0), (1, v_J x1), (3, v_I (0 : Int32)), (4, v_I (nI (h_n h a21)))]) X dJ7_fill_d0a16_4 (by decide) rfl ?_
  exact ql_J7_fill_d0a16_6 X hF 70 h x0 x1 (0 : Int32) (nI (h_n h a21)) hm
theorem c_J7_fill_d0a16 {l : Launch} {g : Gvx} {h : Hpx} {M : Msx} {h' : Hpx} {x0 : Option Nat} {x1 : Int64} (hm : f_J7_fill_d0a16 h x0 x1 = some h') : Mt_ l g yJ7_fill_d0a16 cJ7_fill_d0a16 5 (none) rm_J7_fill_d0a16 [v_R x0, v_J x1] h M (none) h' M := mt_of (by decide) (Nat.le_of_ble_eq_true rfl) (fun v _ X hF => q_J7_fill_d0a16_0 X hF h x0 x1 hm)
theorem ys_J7_fill_d0a16 : Ys_ yJ7_fill_d0a16 cJ7_fill_d0a16 5 (none) 2 := ⟨⟨by decide, by decide, by decide +kernel⟩, co_J7_fill_d0a16, sta_J7_fill_d0a16, ini_J7⟩

abbrev rm_X0_startOver : Room := { frames := 1, cells := 0, slots := 0, locals := 24 }
def f_X0_startOver (h : Hpx) (a0 : Nat) (x1 : Int32) (x2 : Int32) (x3 : Int64) : Option (Hpx) :=
  (if h_k h a0 = 1 then
  b_d (s_I h a0 1 x1) fun h22 =>
  b_d (s_I h22 a0 2 x2) fun h23 =>
  b_d (s_J h23 a0 3 x3) fun h24 =>
  b_d (s_I h24 a0 4 (0 : Int32)) fun h25 =>
  b_d (s_I h25 a0 5 (0 : Int32)) fun h26 =>
  b_d (s_I h26 a0 6 (1 : Int32)) fun h27 =>
  (f_J7_fill_d0a16 h27 (h_R h27 a0 0) (0 : Int64)).bind fun h29 =>
  some h29 else none)
set_option maxHeartbeats 4000000 in
theorem q_X0_startOver_0 {v : Evx} {g : Gvx} {M : Msx} {h' : Hpx} (X : Cx_ v g cX0_startOver 5 RX0 "startOver" (none) rm_X0_startOver) (a0 : Nat) (hF : Fi_ v g rm_X0_startOver (none) h' M) (h : Hpx) (x1 : Int32) (x2 : Int32) (x3 : Int64) (hm : f_X0_startOver h a0 x1 x2 x3 = some h') : At_ v g 5 h M 0 0 0 [(0, v_R (some a0)), (1, v_I x1), (2, v_I x2), (3, v_J x3)] [] := by
  unfold f_X0_startOver at hm
  refine a_aload_n X dX0_startOver_0 rfl ?_
  refine a_iload_n X dX0_startOver_1 rfl ?_
  obtain ⟨k21, hm⟩ := i_c hm
  obtain ⟨h22, eh22, hm⟩ := i_d hm
  refine a_putI X 0 1 false rfl k21 (by decide) rfl rfl (fun q => by cases q) rfl rfl fl_X0_19 dX0_startOver_2 ?_
  rw [← eh22]
  refine a_aload_n X dX0_startOver_5 rfl ?_
  refine a_iload_n X dX0_startOver_6 rfl ?_
  obtain ⟨h23, eh23, hm⟩ := i_d hm
  refine a_putI X 0 2 false rfl (kk_I eh22 k21) (by decide) rfl rfl (fun q => by cases q) rfl rfl fl_X0_15 dX0_startOver_7 ?_
  rw [← eh23]
  refine a_aload_n X dX0_startOver_10 rfl ?_
  refine a_lload_n X dX0_startOver_11 rfl ?_
  obtain ⟨h24, eh24, hm⟩ := i_d hm
  refine a_putJ X 0 3 false rfl (kk_I eh23 (kk_I eh22 k21)) (by decide) rfl rfl (fun q => by cases q) rfl rfl fl_X0_22 dX0_startOver_12 ?_
  rw [← eh24]
  refine a_aload_n X dX0_startOver_15 rfl ?_
  refine a_iconst (x := 0) X dX0_startOver_16 (by decide) ?_
  obtain ⟨h25, eh25, hm⟩ := i_d hm
  refine a_putI X 0 4 false rfl (kk_J eh24 (kk_I eh23 (kk_I eh22 k21))) (by decide) rfl rfl (fun q => by cases q) rfl rfl fl_X0_26 dX0_startOver_17 ?_
  rw [← eh25]
  refine a_aload_n X dX0_startOver_20 rfl ?_
  refine a_iconst (x := 0) X dX0_startOver_21 (by decide) ?_
  obtain ⟨h26, eh26, hm⟩ := i_d hm
  refine a_putI X 0 5 false rfl (kk_I eh25 (kk_J eh24 (kk_I eh23 (kk_I eh22 k21)))) (by decide) rfl rfl (fun q => by cases q) rfl rfl fl_X0_29 dX0_startOver_22 ?_
  rw [← eh26]
  refine a_aload_n X dX0_startOver_25 rfl ?_
  refine a_iconst (x := 1) X dX0_startOver_26 (by decide) ?_
  obtain ⟨h27, eh27, hm⟩ := i_d hm
  refine a_putI X 0 6 false rfl (kk_I eh26 (kk_I eh25 (kk_J eh24 (kk_I eh23 (kk_I eh22 k21))))) (by decide) rfl rfl (fun q => by cases q) rfl rfl fl_X0_32 dX0_startOver_27 ?_
  rw [← eh27]
  refine a_aload_n X dX0_startOver_30 rfl ?_
  refine a_getR X 0 0 rfl (kk_I eh27 (kk_I eh26 (kk_I eh25 (kk_J eh24 (kk_I eh23 (kk_I eh22 k21)))))) (by decide) rfl fl_X0_9 dX0_startOver_31 ?_
  refine a_lconst (x := 0) X dX0_startOver_34 (by decide) ?_
  obtain ⟨h29, q28, hm⟩ := i_b hm
  refine a_callS (k' := 0) (n' := 0) (st := []) X (c_J7_fill_d0a16 q28) ys_J7_fill_d0a16 ml_X0_36 ⟨by decide, by decide, by decide, by decide, Nat.le_of_ble_eq_true rfl⟩ rfl rfl dX0_startOver_35 rfl rfl ?_
  show At_ v g 5 h29 M 0 0 38 [(0, v_R (some a0)), (1, v_I x1), (2, v_I x2), (3, v_J x3)] []
  exact a_vret X hF ⟨Option.some.inj hm, rfl⟩ (by decide) dX0_startOver_38
theorem c_X0_startOver {l : Launch} {g : Gvx} {h : Hpx} {M : Msx} {h' : Hpx} {a0 : Nat} {x1 : Int32} {x2 : Int32} {x3 : Int64} (hm : f_X0_startOver h a0 x1 x2 x3 = some h') : Mt_ l g yX0_startOver cX0_startOver 5 (none) rm_X0_startOver [v_R (some a0), v_I x1, v_I x2, v_J x3] h M (none) h' M := mt_of (by decide) (Nat.le_of_ble_eq_true rfl) (fun v _ X hF => q_X0_startOver_0 X a0 hF h x1 x2 x3 hm)
theorem yv_X0_startOver : Yv_ yX0_startOver cX0_startOver 5 (none) 3 0 := ⟨rfl, by decide, ⟨by decide, by decide, by decide +kernel⟩, co_X0_startOver, im_X0_startOver, se_X0_startOver, ini_X0⟩

abbrev rm_X0_become : Room := { frames := 1, cells := 0, slots := 0, locals := 40 }
def f_X0_become (h : Hpx) (a0 : Nat) (x1 : Option Nat) : Option (Hpx) :=
  x1.bind fun a21 =>
  (if h_k h a21 = 1 then
  (if h_k h a0 = 1 then
  b_d (s_I h a0 1 (h_I h a21 1)) fun h24 =>
  b_d (s_I h24 a0 2 (h_I h24 a21 2)) fun h25 =>
  b_d (s_J h25 a0 3 (h_J h25 a21 3)) fun h26 =>
  b_d (s_I h26 a0 4 (h_I h26 a21 4)) fun h27 =>
  b_d (s_I h27 a0 5 (h_I h27 a21 5)) fun h28 =>
  (h_R h28 a21 0).bind fun a29 =>
  (h_R h28 a0 0).bind fun a30 =>
  (if h_k h28 a29 = 7 then
  (if h_k h28 a30 = 7 then
  (if ¬ (0 : Int32) < 0 ∧ ¬ (0 : Int32) < 0 ∧ ¬ (8 : Int32) < 0 ∧ (0 : Int32).toNatClampNeg + (8 : Int32).toNatClampNeg ≤ h_n h28 a29 ∧ (0 : Int32).toNatClampNeg + (8 : Int32).toNatClampNeg ≤ h_n h28 a30 then
  b_d (c_J h28 a29 a30 (0 : Int32).toNatClampNeg (0 : Int32).toNatClampNeg (8 : Int32).toNatClampNeg) fun h34 =>
  some h34 else none) else none) else none) else none) else none)
set_option maxHeartbeats 4000000 in
theorem q_X0_become_0 {v : Evx} {g : Gvx} {M : Msx} {h' : Hpx} (X : Cx_ v g cX0_become 2 RX0 "become" (none) rm_X0_become) (a0 : Nat) (hF : Fi_ v g rm_X0_become (none) h' M) (h : Hpx) (x1 : Option Nat) (hm : f_X0_become h a0 x1 = some h') : At_ v g 2 h M 0 0 0 [(0, v_R (some a0)), (1, v_R x1)] [] := by
  unfold f_X0_become at hm
  refine a_aload_n X dX0_become_0 rfl ?_
  refine a_aload_n X dX0_become_1 rfl ?_
  obtain ⟨a21, ea21, hm⟩ := i_b hm
  obtain ⟨k22, hm⟩ := i_c hm
  refine a_getI X 0 1 ea21 k22 (by decide) rfl fl_X0_19 dX0_become_2 ?_
  obtain ⟨k23, hm⟩ := i_c hm
  obtain ⟨h24, eh24, hm⟩ := i_d hm
  refine a_putI X 0 1 false rfl k23 (by decide) rfl rfl (fun q => by cases q) rfl rfl fl_X0_19 dX0_become_5 ?_
  rw [← eh24]
  refine a_aload_n X dX0_become_8 rfl ?_
  refine a_aload_n X dX0_become_9 rfl ?_
  refine a_getI X 0 2 ea21 (kk_I eh24 k22) (by decide) rfl fl_X0_15 dX0_become_10 ?_
  obtain ⟨h25, eh25, hm⟩ := i_d hm
  refine a_putI X 0 2 false rfl (kk_I eh24 k23) (by decide) rfl rfl (fun q => by cases q) rfl rfl fl_X0_15 dX0_become_13 ?_
  rw [← eh25]
  refine a_aload_n X dX0_become_16 rfl ?_
  refine a_aload_n X dX0_become_17 rfl ?_
  refine a_getJ X 0 3 ea21 (kk_I eh25 (kk_I eh24 k22)) (by decide) rfl fl_X0_22 dX0_become_18 ?_
  obtain ⟨h26, eh26, hm⟩ := i_d hm
  refine a_putJ X 0 3 false rfl (kk_I eh25 (kk_I eh24 k23)) (by decide) rfl rfl (fun q => by cases q) rfl rfl fl_X0_22 dX0_become_21 ?_
  rw [← eh26]
  refine a_aload_n X dX0_become_24 rfl ?_
  refine a_aload_n X dX0_become_25 rfl ?_
  refine a_getI X 0 4 ea21 (kk_J eh26 (kk_I eh25 (kk_I eh24 k22))) (by decide) rfl fl_X0_26 dX0_become_26 ?_
  obtain ⟨h27, eh27, hm⟩ := i_d hm
  refine a_putI X 0 4 false rfl (kk_J eh26 (kk_I eh25 (kk_I eh24 k23))) (by decide) rfl rfl (fun q => by cases q) rfl rfl fl_X0_26 dX0_become_29 ?_
  rw [← eh27]
  refine a_aload_n X dX0_become_32 rfl ?_
  refine a_aload_n X dX0_become_33 rfl ?_
  refine a_getI X 0 5 ea21 (kk_I eh27 (kk_J eh26 (kk_I eh25 (kk_I eh24 k22)))) (by decide) rfl fl_X0_29 dX0_become_34 ?_
  obtain ⟨h28, eh28, hm⟩ := i_d hm
  refine a_putI X 0 5 false rfl (kk_I eh27 (kk_J eh26 (kk_I eh25 (kk_I eh24 k23)))) (by decide) rfl rfl (fun q => by cases q) rfl rfl fl_X0_29 dX0_become_37 ?_
  rw [← eh28]
  refine a_aload_n X dX0_become_40 rfl ?_
  refine a_getR X 0 0 ea21 (kk_I eh28 (kk_I eh27 (kk_J eh26 (kk_I eh25 (kk_I eh24 k22))))) (by decide) rfl fl_X0_9 dX0_become_41 ?_
  refine a_iconst (x := 0) X dX0_become_44 (by decide) ?_
  refine a_aload_n X dX0_become_45 rfl ?_
  refine a_getR X 0 0 rfl (kk_I eh28 (kk_I eh27 (kk_J eh26 (kk_I eh25 (kk_I eh24 k23))))) (by decide) rfl fl_X0_9 dX0_become_46 ?_
  refine a_iconst (x := 0) X dX0_become_49 (by decide) ?_
  refine a_bipush (x := 8) X dX0_become_50 (by decide) ?_
  obtain ⟨a29, ea29, hm⟩ := i_b hm
  obtain ⟨a30, ea30, hm⟩ := i_b hm
  obtain ⟨k31, hm⟩ := i_c hm
  obtain ⟨k32, hm⟩ := i_c hm
  obtain ⟨b33, hm⟩ := i_c hm
  obtain ⟨h34, eh34, hm⟩ := i_d hm
  refine a_copyJ X ea29 ea30 k31 k32 b33.1 b33.2.1 b33.2.2.1 b33.2.2.2.1 b33.2.2.2.2 ml_X0_42 ⟨by decide, Nat.le_of_ble_eq_true rfl⟩ dX0_become_52 ?_
  rw [← eh34]
  exact a_vret X hF ⟨Option.some.inj hm, rfl⟩ (by decide) dX0_become_55
theorem c_X0_become {l : Launch} {g : Gvx} {h : Hpx} {M : Msx} {h' : Hpx} {a0 : Nat} {x1 : Option Nat} (hm : f_X0_become h a0 x1 = some h') : Mt_ l g yX0_become cX0_become 2 (none) rm_X0_become [v_R (some a0), v_R x1] h M (none) h' M := mt_of (by decide) (Nat.le_of_ble_eq_true rfl) (fun v _ X hF => q_X0_become_0 X a0 hF h x1 hm)
theorem yv_X0_become : Yv_ yX0_become cX0_become 2 (none) 1 0 := ⟨rfl, by decide, ⟨by decide, by decide, by decide +kernel⟩, co_X0_become, im_X0_become, se_X0_become, ini_X0⟩

abbrev rm_J7_fill_53178 : Room := { frames := 0, cells := 0, slots := 0, locals := 0 }
def j_J7_fill_53178_5 (rec_5 : Hpx → Option Nat → Int32 → Int32 → Int32 → Option (Hpx)) (h : Hpx) (x0 : Option Nat) (x1 : Int32) (x2 : Int32) (x3 : Int32) : Option (Hpx) :=
  (if x3 ≤ x2 then
  some h
  else x0.bind fun a24 =>
  (if h_k h a24 = 6 then
  (if in_b x2 (h_n h a24) = true then
  b_d (s_I h a24 x2.toNatClampNeg x1) fun h27 =>
  rec_5 h27 x0 x1 (x2 + (1 : Int32)) x3 else none) else none))
set_option maxHeartbeats 4000000 in
theorem q_J7_fill_53178_5 {v : Evx} {g : Gvx} {M : Msx} {h' : Hpx} (X : Cx_ v g cJ7_fill_53178 4 RJ7 "fill" (none) rm_J7_fill_53178) (hF : Fi_ v g rm_J7_fill_53178 (none) h' M) (rec_5 : Hpx → Option Nat → Int32 → Int32 → Int32 → Option (Hpx)) (hr_5 : ∀ (h : Hpx) (x0 : Option Nat) (x1 : Int32) (x2 : Int32) (x3 : Int32), rec_5 h x0 x1 x2 x3 = some h' → At_ v g 4 h M 0 0 5 [(0, v_R x0), (1, v_I x1), (2, v_I x2), (3, v_I x3)] []) (h : Hpx) (x0 : Option Nat) (x1 : Int32) (x2 : Int32) (x3 : Int32) (hm : j_J7_fill_53178_5 rec_5 h x0 x1 x2 x3 = some h') : At_ v g 4 h M 0 0 5 [(0, v_R x0), (1, v_I x1), (2, v_I x2), (3, v_I x3)] [] := by
  unfold j_J7_fill_53178_5 at hm
  refine a_iload_n X dJ7_fill_53178_5 rfl ?_
  refine a_iload_n X dJ7_fill_53178_6 rfl ?_
  refine a_icmp_ge (tgt := 20) X dJ7_fill_53178_7 (by decide) hm (fun c23 hm => ?_) (fun c23 hm => ?_)
  · exact a_vret X hF ⟨Option.some.inj hm, rfl⟩ (by decide) dJ7_fill_53178_20
  · refine a_aload_n X dJ7_fill_53178_10 rfl ?_
    refine a_iload_n X dJ7_fill_53178_11 rfl ?_
    refine a_iload_n X dJ7_fill_53178_12 rfl ?_
    obtain ⟨a24, ea24, hm⟩ := i_b hm
    obtain ⟨k25, hm⟩ := i_c hm
    obtain ⟨b26, hm⟩ := i_c hm
    obtain ⟨h27, eh27, hm⟩ := i_d hm
    refine a_iast X ea24 k25 b26 dJ7_fill_53178_13 ?_
    rw [← eh27]
    refine a_iinc (y := x2 + (1 : Int32)) (lv' := [(0, v_R x0), (1, v_I x1), (2, v_I (x2 + (1 : Int32))), (3, v_I x3)]) X dJ7_fill_53178_14 rfl rfl (by decide) rfl ?_
    refine a_goto (tgt := 5) X dJ7_fill_53178_17 (by decide) ?_
    exact hr_5 h27 x0 x1 (x2 + (1 : Int32)) x3 hm
def l_J7_fill_53178_5 (n : Nat) : Hpx → Option Nat → Int32 → Int32 → Int32 → Option (Hpx) := lp_ (fun rec_5 => j_J7_fill_53178_5 rec_5) (fun _ _ _ _ _ => none) n
theorem ql_J7_fill_53178_5 {v : Evx} {g : Gvx} {M : Msx} {h' : Hpx} (X : Cx_ v g cJ7_fill_53178 4 RJ7 "fill" (none) rm_J7_fill_53178) (hF : Fi_ v g rm_J7_fill_53178 (none) h' M) : ∀ (n : Nat) (h : Hpx) (x0 : Option Nat) (x1 : Int32) (x2 : Int32) (x3 : Int32), l_J7_fill_53178_5 n h x0 x1 x2 x3 = some h' → At_ v g 4 h M 0 0 5 [(0, v_R x0), (1, v_I x1), (2, v_I x2), (3, v_I x3)] [] := by
  intro n
  induction n with
  | zero => intro h x0 x1 x2 x3 hm; cases hm
  | succ n ih =>
    intro h x0 x1 x2 x3 hm
    exact q_J7_fill_53178_5 X hF (l_J7_fill_53178_5 n) ih h x0 x1 x2 x3 hm
def f_J7_fill_53178 (h : Hpx) (x0 : Option Nat) (x1 : Int32) : Option (Hpx) :=
  x0.bind fun a21 =>
  (if h_k h a21 = 6 then
  l_J7_fill_53178_5 70 h x0 x1 (0 : Int32) (nI (h_n h a21)) else none)
set_option maxHeartbeats 4000000 in
theorem q_J7_fill_53178_0 {v : Evx} {g : Gvx} {M : Msx} {h' : Hpx} (X : Cx_ v g cJ7_fill_53178 4 RJ7 "fill" (none) rm_J7_fill_53178) (hF : Fi_ v g rm_J7_fill_53178 (none) h' M) (h : Hpx) (x0 : Option Nat) (x1 : Int32) (hm : f_J7_fill_53178 h x0 x1 = some h') : At_ v g 4 h M 0 0 0 [(0, v_R x0), (1, v_I x1)] [] := by
  unfold f_J7_fill_53178 at hm
  refine a_iconst (x := 0) X dJ7_fill_53178_0 (by decide) ?_
  refine a_istore_n (lv' := [(0, v_R x0), (1, v_I x1), (2, v_I (0 : Int32))]) X dJ7_fill_53178_1 (by decide) rfl ?_
  refine a_aload_n X dJ7_fill_53178_2 rfl ?_
  obtain ⟨a21, ea21, hm⟩ := i_b hm
  obtain ⟨k22, hm⟩ := i_c hm
  refine a_alenI X ea21 k22 dJ7_fill_53178_3 ?_
  refine a_istore_n (lv' := [(0, v_R x0), (1, v_I x1), (2, v_I (0 : Int32)), (3, v_I (nI (h_n h a21)))]) X dJ7_fill_53178_4 (by decide) rfl ?_
  exact ql_J7_fill_53178_5 X hF 70 h x0 x1 (0 : Int32) (nI (h_n h a21)) hm
theorem c_J7_fill_53178 {l : Launch} {g : Gvx} {h : Hpx} {M : Msx} {h' : Hpx} {x0 : Option Nat} {x1 : Int32} (hm : f_J7_fill_53178 h x0 x1 = some h') : Mt_ l g yJ7_fill_53178 cJ7_fill_53178 4 (none) rm_J7_fill_53178 [v_R x0, v_I x1] h M (none) h' M := mt_of (by decide) (Nat.le_of_ble_eq_true rfl) (fun v _ X hF => q_J7_fill_53178_0 X hF h x0 x1 hm)
theorem ys_J7_fill_53178 : Ys_ yJ7_fill_53178 cJ7_fill_53178 4 (none) 2 := ⟨⟨by decide, by decide, by decide +kernel⟩, co_J7_fill_53178, sta_J7_fill_53178, ini_J7⟩

abbrev rm_X1_init : Room := { frames := 2, cells := 145, slots := 1109, locals := 32 }
def j_X1_init_74 (a0 : Nat) (rec_74 : Hpx → Int32 → Option (Hpx)) (h : Hpx) (x4 : Int32) : Option (Hpx) :=
  (if h_k h a0 = 2 then
  (h_R h a0 6).bind fun a48 =>
  (if h_k h a48 = 9 then
  (if (nI (h_n h a48)) ≤ x4 then
  b_d (s_I h a0 13 (-1 : Int32)) fun h51 =>
  b_d (s_I h51 a0 14 (-1 : Int32)) fun h52 =>
  some h52
  else b_d (h_z h) fun z53 =>
  b_d (h_new h 1 0) fun h54 =>
  (f_X0_init h54 z53).bind fun h56 =>
  (if h_k h56 a48 = 9 then
  (if in_b x4 (h_n h56 a48) = true then
  (if h_k h56 z53 = 1 then
  b_d (s_R h56 a48 x4.toNatClampNeg (some z53)) fun h60 =>
  rec_74 h60 (x4 + (1 : Int32)) else none) else none) else none)) else none) else none)
set_option maxHeartbeats 4000000 in
theorem q_X1_init_74 {v : Evx} {g : Gvx} {M : Msx} {h' : Hpx} (X : Cx_ v g cX1_init 5 RX1 "<init>" (none) rm_X1_init) (a0 : Nat) (hF : Fi_ v g rm_X1_init (none) h' M) (kc_ nc_ : Nat) (hkn_ : kc_ + 2 ≤ rm_X1_init.cells ∧ nc_ + 15 ≤ rm_X1_init.slots) (rec_74 : Hpx → Int32 → Option (Hpx)) (hr_74 : ∀ (h : Hpx) (x4 : Int32), rec_74 h x4 = some h' → At_ v g 5 h M (kc_ + 2) (nc_ + 15) 74 [(0, v_R (some a0)), (4, v_I x4)] []) (h : Hpx) (x4 : Int32) (hm : j_X1_init_74 a0 rec_74 h x4 = some h') : At_ v g 5 h M kc_ nc_ 74 [(0, v_R (some a0)), (4, v_I x4)] [] := by
  unfold j_X1_init_74 at hm
  refine a_iload X dX1_init_74 rfl ?_
  refine a_aload_n X dX1_init_76 rfl ?_
  obtain ⟨k47, hm⟩ := i_c hm
  refine a_getR X 1 6 rfl k47 (by decide) rfl fl_X1_42 dX1_init_77 ?_
  obtain ⟨a48, ea48, hm⟩ := i_b hm
  obtain ⟨k49, hm⟩ := i_c hm
  refine a_alen X 3 ea48 k49 (by decide) rfl dX1_init_80 ?_
  refine a_icmp_ge (tgt := 104) X dX1_init_81 (by decide) hm (fun c50 hm => ?_) (fun c50 hm => ?_)
  · refine a_aload_n X dX1_init_104 rfl ?_
    refine a_iconst (x := -1) X dX1_init_105 (by decide) ?_
    obtain ⟨h51, eh51, hm⟩ := i_d hm
    refine a_putI X 1 13 false rfl k47 (by decide) rfl rfl (fun q => by cases q) rfl rfl fl_X1_46 dX1_init_106 ?_
    rw [← eh51]
    refine a_aload_n X dX1_init_109 rfl ?_
    refine a_iconst (x := -1) X dX1_init_110 (by decide) ?_
    obtain ⟨h52, eh52, hm⟩ := i_d hm
    refine a_putI X 1 14 false rfl (kk_I eh51 k47) (by decide) rfl rfl (fun q => by cases q) rfl rfl fl_X1_49 dX1_init_111 ?_
    rw [← eh52]
    exact a_vret X hF ⟨Option.some.inj hm, rfl⟩ (by have := hkn_; dsimp only [rm_X1_init] at this ⊢; omega) dX1_init_114
  · refine a_aload_n X dX1_init_84 rfl ?_
    refine a_getR X 1 6 rfl k47 (by decide) rfl fl_X1_42 dX1_init_85 ?_
    refine a_iload X dX1_init_88 rfl ?_
    obtain ⟨z53, ez53, hm⟩ := i_d hm
    obtain ⟨h54, eh54, hm⟩ := i_d hm
    refine a_new (k' := kc_ + 1) (n' := nc_ + 7) X 0 (by decide) cl_X1_22 ib_X0 ini_X0 (show kc_ + 1 ≤ rm_X1_init.cells ∧ nc_ + 7 ≤ rm_X1_init.slots by have := hkn_; dsimp only [rm_X1_init] at this ⊢; omega) rfl rfl dX1_init_90 ?_
    rw [← eh54]
    rw [← ez53]
    refine a_dup X dX1_init_93 rfl ?_
    obtain ⟨h56, q55, hm⟩ := i_b hm
    refine a_callI (k' := kc_ + 2) (n' := nc_ + 15) (st := [v_R (some z53), v_I x4, v_R (h_R h a0 6)]) X (c_X0_init q55) yi_X0_init ml_X1_24 rfl ⟨by decide, by decide, by have := hkn_; dsimp only [rm_X1_init, rm_X0_init] at this ⊢; omega, by have := hkn_; dsimp only [rm_X1_init, rm_X0_init] at this ⊢; omega, Nat.le_of_ble_eq_true rfl⟩ rfl rfl dX1_init_94 rfl ?_
    show At_ v g 5 h56 M (kc_ + 2) (nc_ + 15) 97 [(0, v_R (some a0)), (4, v_I x4)] [v_R (some z53), v_I x4, v_R (h_R h a0 6)]
    obtain ⟨k57, hm⟩ := i_c hm
    obtain ⟨b58, hm⟩ := i_c hm
    obtain ⟨k59, hm⟩ := i_c hm
    obtain ⟨h60, eh60, hm⟩ := i_d hm
    refine a_aast X 3 0 ea48 rfl k57 (by decide) k59 (by decide) rfl b58 dX1_init_97 ?_
    rw [← eh60]
    refine a_iinc (y := x4 + (1 : Int32)) (lv' := [(0, v_R (some a0)), (4, v_I (x4 + (1 : Int32)))]) X dX1_init_98 rfl rfl (by decide) rfl ?_
    refine a_goto (tgt := 74) X dX1_init_101 (by decide) ?_
    exact hr_74 h60 (x4 + (1 : Int32)) hm
def l_X1_init_74 (a0 : Nat) (n : Nat) : Hpx → Int32 → Option (Hpx) := lp_ (fun rec_74 => j_X1_init_74 a0 rec_74) (fun _ _ => none) n
theorem ql_X1_init_74 {v : Evx} {g : Gvx} {M : Msx} {h' : Hpx} (X : Cx_ v g cX1_init 5 RX1 "<init>" (none) rm_X1_init) (a0 : Nat) (hF : Fi_ v g rm_X1_init (none) h' M) : ∀ (n kc_ nc_ : Nat) (hkn_ : kc_ + 2 * n ≤ rm_X1_init.cells ∧ nc_ + 15 * n ≤ rm_X1_init.slots) (h : Hpx) (x4 : Int32), l_X1_init_74 a0 n h x4 = some h' → At_ v g 5 h M kc_ nc_ 74 [(0, v_R (some a0)), (4, v_I x4)] [] := by
  intro n
  induction n with
  | zero => intro kc_ nc_ hkn_ h x4 hm; cases hm
  | succ n ih =>
    intro kc_ nc_ hkn_ h x4 hm
    exact q_X1_init_74 X a0 hF kc_ nc_ (by dsimp only [rm_X1_init] at hkn_ ⊢; omega) (l_X1_init_74 a0 n) (ih (kc_ + 2) (nc_ + 15) (by dsimp only [rm_X1_init] at hkn_ ⊢; omega)) h x4 hm
def j_X1_init_65 (a0 : Nat) (h : Hpx) (y1 : Int32) : Option (Hpx) :=
  b_d (h_z h) fun z42 =>
  (if in_b y1 33 = true then
  b_d (h_new h 9 y1.toNatClampNeg) fun h44 =>
  (if h_k h44 a0 = 2 then
  b_d (s_R h44 a0 6 (some z42)) fun h46 =>
  l_X1_init_74 a0 70 h46 (0 : Int32) else none) else none)
set_option maxHeartbeats 4000000 in
theorem q_X1_init_65 {v : Evx} {g : Gvx} {M : Msx} {h' : Hpx} (X : Cx_ v g cX1_init 5 RX1 "<init>" (none) rm_X1_init) (a0 : Nat) (hF : Fi_ v g rm_X1_init (none) h' M) (h : Hpx) (y1 : Int32) (hm : j_X1_init_65 a0 h y1 = some h') : At_ v g 5 h M 4 27 65 [(0, v_R (some a0))] [v_I y1, v_R (some a0)] := by
  unfold j_X1_init_65 at hm
  obtain ⟨z42, ez42, hm⟩ := i_d hm
  obtain ⟨b43, hm⟩ := i_c hm
  obtain ⟨h44, eh44, hm⟩ := i_d hm
  refine a_newR (cap := 32) (k' := 5) (n' := 59) X 3 (by decide) rfl cl_X1_22 X.2.2.2.2.2.2.2.2.2.2.2.1 b43 (by decide) (by decide) rfl rfl dX1_init_65 ?_
  rw [← eh44]
  rw [← ez42]
  obtain ⟨k45, hm⟩ := i_c hm
  obtain ⟨h46, eh46, hm⟩ := i_d hm
  refine a_putR X 1 6 true rfl k45 (by decide) rfl rfl (fun _ => ⟨rfl, rfl⟩) rfl fl_X1_42 dX1_init_68 ?_
  rw [← eh46]
  refine a_iconst (x := 0) X dX1_init_71 (by decide) ?_
  refine a_istore (lv' := [(0, v_R (some a0)), (4, v_I (0 : Int32))]) X dX1_init_72 (by decide) rfl ?_
  exact ql_X1_init_74 X a0 hF 70 5 59 (by decide) h46 (0 : Int32) hm
def f_X1_init (h : Hpx) (a0 : Nat) (x1 : Int32) (x2 : Option Nat) (x3 : Option Nat) : Option (Hpx) :=
  (if h_k h a0 = 2 then
  b_d (s_I h a0 0 x1) fun h22 =>
  b_d (s_R h22 a0 1 x2) fun h23 =>
  b_d (s_R h23 a0 2 x3) fun h24 =>
  b_d (h_z h24) fun z25 =>
  b_d (h_new h24 1 0) fun h26 =>
  (f_X0_init h26 z25).bind fun h28 =>
  (if h_k h28 a0 = 2 then
  b_d (s_R h28 a0 3 (some z25)) fun h30 =>
  b_d (h_z h30) fun z31 =>
  b_d (h_new h30 6 8) fun h32 =>
  (if h_k h32 a0 = 2 then
  b_d (s_R h32 a0 4 (some z31)) fun h34 =>
  (f_J7_fill_53178 h34 (h_R h34 a0 4) (-1 : Int32)).bind fun h36 =>
  b_d (h_z h36) fun z37 =>
  b_d (h_new h36 6 4) fun h38 =>
  (if h_k h38 a0 = 2 then
  b_d (s_R h38 a0 5 (some z37)) fun h40 =>
  (if x1 = (4 : Int32) then
  j_X1_init_65 a0 h40 (32 : Int32)
  else j_X1_init_65 a0 h40 (0 : Int32)) else none) else none) else none) else none)
set_option maxHeartbeats 4000000 in
theorem q_X1_init_0 {v : Evx} {g : Gvx} {M : Msx} {h' : Hpx} (X : Cx_ v g cX1_init 5 RX1 "<init>" (none) rm_X1_init) (a0 : Nat) (hF : Fi_ v g rm_X1_init (none) h' M) (h : Hpx) (x1 : Int32) (x2 : Option Nat) (x3 : Option Nat) (hm : f_X1_init h a0 x1 x2 x3 = some h') : At_ v g 5 h M 0 0 0 [(0, v_R (some a0)), (1, v_I x1), (2, v_R x2), (3, v_R x3)] [] := by
  unfold f_X1_init at hm
  refine a_aload_n X dX1_init_0 rfl ?_
  refine a_objInit X ml_X1_3 ⟨by decide, Nat.le_of_ble_eq_true rfl⟩ dX1_init_1 ?_
  refine a_aload_n X dX1_init_4 rfl ?_
  refine a_iload_n X dX1_init_5 rfl ?_
  obtain ⟨k21, hm⟩ := i_c hm
  obtain ⟨h22, eh22, hm⟩ := i_d hm
  refine a_putI X 1 0 true rfl k21 (by decide) rfl rfl (fun _ => ⟨rfl, rfl⟩) rfl rfl fl_X1_9 dX1_init_6 ?_
  rw [← eh22]
  refine a_aload_n X dX1_init_9 rfl ?_
  refine a_aload_n X dX1_init_10 rfl ?_
  obtain ⟨h23, eh23, hm⟩ := i_d hm
  refine a_putR X 1 1 true rfl (kk_I eh22 k21) (by decide) rfl rfl (fun _ => ⟨rfl, rfl⟩) rfl fl_X1_15 dX1_init_11 ?_
  rw [← eh23]
  refine a_aload_n X dX1_init_14 rfl ?_
  refine a_aload_n X dX1_init_15 rfl ?_
  obtain ⟨h24, eh24, hm⟩ := i_d hm
  refine a_putR X 1 2 true rfl (kk_R eh23 (kk_I eh22 k21)) (by decide) rfl rfl (fun _ => ⟨rfl, rfl⟩) rfl fl_X1_19 dX1_init_16 ?_
  rw [← eh24]
  refine a_aload_n X dX1_init_19 rfl ?_
  obtain ⟨z25, ez25, hm⟩ := i_d hm
  obtain ⟨h26, eh26, hm⟩ := i_d hm
  refine a_new (k' := 1) (n' := 7) X 0 (by decide) cl_X1_22 ib_X0 ini_X0 (by decide) rfl rfl dX1_init_20 ?_
  rw [← eh26]
  rw [← ez25]
  refine a_dup X dX1_init_23 rfl ?_
  obtain ⟨h28, q27, hm⟩ := i_b hm
  refine a_callI (k' := 2) (n' := 15) (st := [v_R (some z25), v_R (some a0)]) X (c_X0_init q27) yi_X0_init ml_X1_24 rfl ⟨by decide, by decide, by decide, by decide, Nat.le_of_ble_eq_true rfl⟩ rfl rfl dX1_init_24 rfl ?_
  show At_ v g 5 h28 M 2 15 27 [(0, v_R (some a0)), (1, v_I x1), (2, v_R x2), (3, v_R x3)] [v_R (some z25), v_R (some a0)]
  obtain ⟨k29, hm⟩ := i_c hm
  obtain ⟨h30, eh30, hm⟩ := i_d hm
  refine a_putR X 1 3 true rfl k29 (by decide) rfl rfl (fun _ => ⟨rfl, rfl⟩) rfl fl_X1_25 dX1_init_27 ?_
  rw [← eh30]
  refine a_aload_n X dX1_init_30 rfl ?_
  refine a_bipush (x := 8) X dX1_init_31 (by decide) ?_
  obtain ⟨z31, ez31, hm⟩ := i_d hm
  obtain ⟨h32, eh32, hm⟩ := i_d hm
  refine a_newI (N := 8) (k' := 3) (n' := 23) X (by decide) (by decide) (by decide) (by decide) rfl rfl dX1_init_33 ?_
  rw [← eh32]
  rw [← ez31]
  obtain ⟨k33, hm⟩ := i_c hm
  obtain ⟨h34, eh34, hm⟩ := i_d hm
  refine a_putR X 1 4 true rfl k33 (by decide) rfl rfl (fun _ => ⟨rfl, rfl⟩) rfl fl_X1_29 dX1_init_35 ?_
  rw [← eh34]
  refine a_aload_n X dX1_init_38 rfl ?_
  refine a_getR X 1 4 rfl (kk_R eh34 k33) (by decide) rfl fl_X1_29 dX1_init_39 ?_
  refine a_iconst (x := -1) X dX1_init_42 (by decide) ?_
  obtain ⟨h36, q35, hm⟩ := i_b hm
  refine a_callS (k' := 3) (n' := 23) (st := []) X (c_J7_fill_53178 q35) ys_J7_fill_53178 ml_X1_33 ⟨by decide, by decide, by decide, by decide, Nat.le_of_ble_eq_true rfl⟩ rfl rfl dX1_init_43 rfl rfl ?_
  show At_ v g 5 h36 M 3 23 46 [(0, v_R (some a0)), (1, v_I x1), (2, v_R x2), (3, v_R x3)] []
  refine a_aload_n X dX1_init_46 rfl ?_
  refine a_iconst (x := 4) X dX1_init_47 (by decide) ?_
  obtain ⟨z37, ez37, hm⟩ := i_d hm
  obtain ⟨h38, eh38, hm⟩ := i_d hm
  refine a_newI (N := 4) (k' := 4) (n' := 27) X (by decide) (by decide) (by decide) (by decide) rfl rfl dX1_init_48 ?_
  rw [← eh38]
  rw [← ez37]
  obtain ⟨k39, hm⟩ := i_c hm
  obtain ⟨h40, eh40, hm⟩ := i_d hm
  refine a_putR X 1 5 true rfl k39 (by decide) rfl rfl (fun _ => ⟨rfl, rfl⟩) rfl fl_X1_39 dX1_init_50 ?_
  rw [← eh40]
  refine a_aload_n X dX1_init_53 rfl ?_
  refine a_iload_n X dX1_init_54 rfl ?_
  refine a_iconst (x := 4) X dX1_init_55 (by decide) ?_
  refine a_icmp_ne (tgt := 64) X dX1_init_56 (by decide) hm (fun c41 hm => ?_) (fun c41 hm => ?_)
  · refine a_iconst (x := 0) X dX1_init_64 (by decide) ?_
    refine a_pick (lv' := [(0, v_R (some a0))]) [0] rfl ?_
    exact q_X1_init_65 X a0 hF h40 (0 : Int32) hm
  · refine a_bipush (x := 32) X dX1_init_59 (by decide) ?_
    refine a_goto (tgt := 65) X dX1_init_61 (by decide) ?_
    refine a_pick (lv' := [(0, v_R (some a0))]) [0] rfl ?_
    exact q_X1_init_65 X a0 hF h40 (32 : Int32) hm
theorem c_X1_init {l : Launch} {g : Gvx} {h : Hpx} {M : Msx} {h' : Hpx} {a0 : Nat} {x1 : Int32} {x2 : Option Nat} {x3 : Option Nat} (hm : f_X1_init h a0 x1 x2 x3 = some h') : Mt_ l g yX1_init cX1_init 5 (none) rm_X1_init [v_R (some a0), v_I x1, v_R x2, v_R x3] h M (none) h' M := mt_of (by decide) (Nat.le_of_ble_eq_true rfl) (fun v _ X hF => q_X1_init_0 X a0 hF h x1 x2 x3 hm)
theorem yi_X1_init : Yi_ yX1_init cX1_init 5 3 := ⟨rfl, ⟨by decide, by decide, by decide +kernel⟩, co_X1_init, im_X1_init, ini_X1⟩

abbrev rm_X1_mayName : Room := { frames := 0, cells := 0, slots := 0, locals := 0 }
def j_X1_mayName_18 (h : Hpx) (a0 : Nat) : Option (Int32) :=
  some (1 : Int32)
set_option maxHeartbeats 4000000 in
theorem q_X1_mayName_18 {v : Evx} {g : Gvx} {M : Msx} {r : Int32} (X : Cx_ v g cX1_mayName 1 RX1 "mayName" ((some .boolean)) rm_X1_mayName) (h : Hpx) (a0 : Nat) (hF : Fi_ v g rm_X1_mayName (some (v_I r)) h M) (hm : j_X1_mayName_18 h a0  = some r) : At_ v g 1 h M 0 0 18 [(0, v_R (some a0))] [] := by
  unfold j_X1_mayName_18 at hm
  refine a_iconst (x := 1) X dX1_mayName_18 (by decide) ?_
  refine a_goto (tgt := 23) X dX1_mayName_19 (by decide) ?_
  exact a_zret X hF (Or.inr rfl) ⟨rfl, rfl, Option.some.inj hm⟩ (by decide) dX1_mayName_23
def f_X1_mayName (h : Hpx) (a0 : Nat) : Option (Int32) :=
  (if h_k h a0 = 2 then
  (if (h_I h a0 0) = (6 : Int32) then
  j_X1_mayName_18 h a0 
  else (if (h_I h a0 0) = (7 : Int32) then
  j_X1_mayName_18 h a0 
  else some (0 : Int32))) else none)
set_option maxHeartbeats 4000000 in
theorem q_X1_mayName_0 {v : Evx} {g : Gvx} {M : Msx} {r : Int32} (X : Cx_ v g cX1_mayName 1 RX1 "mayName" ((some .boolean)) rm_X1_mayName) (h : Hpx) (a0 : Nat) (hF : Fi_ v g rm_X1_mayName (some (v_I r)) h M) (hm : f_X1_mayName h a0 = some r) : At_ v g 1 h M 0 0 0 [(0, v_R (some a0))] [] := by
  unfold f_X1_mayName at hm
  refine a_aload_n X dX1_mayName_0 rfl ?_
  obtain ⟨k21, hm⟩ := i_c hm
  refine a_getI X 1 0 rfl k21 (by decide) rfl fl_X1_9 dX1_mayName_1 ?_
  refine a_bipush (x := 6) X dX1_mayName_4 (by decide) ?_
  refine a_icmp_eq (tgt := 18) X dX1_mayName_6 (by decide) hm (fun c22 hm => ?_) (fun c22 hm => ?_)
  · exact q_X1_mayName_18 X h a0 hF  hm
  · refine a_aload_n X dX1_mayName_9 rfl ?_
    refine a_getI X 1 0 rfl k21 (by decide) rfl fl_X1_9 dX1_mayName_10 ?_
    refine a_bipush (x := 7) X dX1_mayName_13 (by decide) ?_
    refine a_icmp_ne (tgt := 22) X dX1_mayName_15 (by decide) hm (fun c23 hm => ?_) (fun c23 hm => ?_)
    · refine a_iconst (x := 0) X dX1_mayName_22 (by decide) ?_
      exact a_zret X hF (Or.inl rfl) ⟨rfl, rfl, Option.some.inj hm⟩ (by decide) dX1_mayName_23
    · exact q_X1_mayName_18 X h a0 hF  hm
theorem c_X1_mayName {l : Launch} {g : Gvx} {h : Hpx} {M : Msx} {r : Int32} {a0 : Nat} (hm : f_X1_mayName h a0 = some r) : Mt_ l g yX1_mayName cX1_mayName 1 ((some .boolean)) rm_X1_mayName [v_R (some a0)] h M (some (v_I r)) h M := mt_of (by decide) (Nat.le_of_ble_eq_true rfl) (fun v _ X hF => q_X1_mayName_0 X h a0 hF hm)
theorem yv_X1_mayName : Yv_ yX1_mayName cX1_mayName 1 ((some .boolean)) 0 1 := ⟨rfl, by decide, ⟨by decide, by decide, by decide +kernel⟩, co_X1_mayName, im_X1_mayName, se_X1_mayName, ini_X1⟩

abbrev rm_X1_isNaming : Room := { frames := 0, cells := 0, slots := 0, locals := 0 }
def f_X1_isNaming (h : Hpx) (a0 : Nat) (x1 : Int32) : Option (Int32) :=
  (if x1 < 0 then
  some (0 : Int32)
  else (if (16 : Int32) ≤ x1 then
  some (0 : Int32)
  else (if h_k h a0 = 2 then
  (if (((h_I h a0 9) >>> (x1 &&& 31)) &&& (1 : Int32)) = 0 then
  some (0 : Int32)
  else some (1 : Int32)) else none)))
set_option maxHeartbeats 4000000 in
theorem q_X1_isNaming_0 {v : Evx} {g : Gvx} {M : Msx} {r : Int32} (X : Cx_ v g cX1_isNaming 2 RX1 "isNaming" ((some .boolean)) rm_X1_isNaming) (h : Hpx) (a0 : Nat) (hF : Fi_ v g rm_X1_isNaming (some (v_I r)) h M) (x1 : Int32) (hm : f_X1_isNaming h a0 x1 = some r) : At_ v g 2 h M 0 0 0 [(0, v_R (some a0)), (1, v_I x1)] [] := by
  unfold f_X1_isNaming at hm
  refine a_iload_n X dX1_isNaming_0 rfl ?_
  refine a_if_lt (tgt := 25) X dX1_isNaming_1 (by decide) hm (fun c21 hm => ?_) (fun c21 hm => ?_)
  · refine a_iconst (x := 0) X dX1_isNaming_25 (by decide) ?_
    exact a_zret X hF (Or.inl rfl) ⟨rfl, rfl, Option.some.inj hm⟩ (by decide) dX1_isNaming_26
  · refine a_iload_n X dX1_isNaming_4 rfl ?_
    refine a_bipush (x := 16) X dX1_isNaming_5 (by decide) ?_
    refine a_icmp_ge (tgt := 25) X dX1_isNaming_7 (by decide) hm (fun c22 hm => ?_) (fun c22 hm => ?_)
    · refine a_iconst (x := 0) X dX1_isNaming_25 (by decide) ?_
      exact a_zret X hF (Or.inl rfl) ⟨rfl, rfl, Option.some.inj hm⟩ (by decide) dX1_isNaming_26
    · refine a_aload_n X dX1_isNaming_10 rfl ?_
      obtain ⟨k23, hm⟩ := i_c hm
      refine a_getI X 1 9 rfl k23 (by decide) rfl fl_X1_52 dX1_isNaming_11 ?_
      refine a_iload_n X dX1_isNaming_14 rfl ?_
      refine a_ishr X dX1_isNaming_15 ?_
      refine a_iconst (x := 1) X dX1_isNaming_16 (by decide) ?_
      refine a_iand X dX1_isNaming_17 ?_
      refine a_if_eq (tgt := 25) X dX1_isNaming_18 (by decide) hm (fun c24 hm => ?_) (fun c24 hm => ?_)
      · refine a_iconst (x := 0) X dX1_isNaming_25 (by decide) ?_
        exact a_zret X hF (Or.inl rfl) ⟨rfl, rfl, Option.some.inj hm⟩ (by decide) dX1_isNaming_26
      · refine a_iconst (x := 1) X dX1_isNaming_21 (by decide) ?_
        refine a_goto (tgt := 26) X dX1_isNaming_22 (by decide) ?_
        exact a_zret X hF (Or.inr rfl) ⟨rfl, rfl, Option.some.inj hm⟩ (by decide) dX1_isNaming_26
theorem c_X1_isNaming {l : Launch} {g : Gvx} {h : Hpx} {M : Msx} {r : Int32} {a0 : Nat} {x1 : Int32} (hm : f_X1_isNaming h a0 x1 = some r) : Mt_ l g yX1_isNaming cX1_isNaming 2 ((some .boolean)) rm_X1_isNaming [v_R (some a0), v_I x1] h M (some (v_I r)) h M := mt_of (by decide) (Nat.le_of_ble_eq_true rfl) (fun v _ X hF => q_X1_isNaming_0 X h a0 hF x1 hm)
theorem yv_X1_isNaming : Yv_ yX1_isNaming cX1_isNaming 2 ((some .boolean)) 1 1 := ⟨rfl, by decide, ⟨by decide, by decide, by decide +kernel⟩, co_X1_isNaming, im_X1_isNaming, se_X1_isNaming, ini_X1⟩

abbrev rm_X1_addName : Room := { frames := 0, cells := 0, slots := 0, locals := 0 }
def f_X1_addName (h : Hpx) (a0 : Nat) (x1 : Int32) : Option (Hpx) :=
  (if h_k h a0 = 2 then
  (if (4 : Int32) ≤ (h_I h a0 8) then
  some h
  else (h_R h a0 5).bind fun a23 =>
  (if h_k h a23 = 6 then
  (if in_b (h_I h a0 8) (h_n h a23) = true then
  b_d (s_I h a23 (h_I h a0 8).toNatClampNeg x1) fun h26 =>
  b_d (s_I h26 a0 8 ((h_I h26 a0 8) + (1 : Int32))) fun h27 =>
  b_d (s_I h27 a0 9 ((h_I h27 a0 9) ||| ((1 : Int32) <<< (x1 &&& 31)))) fun h28 =>
  some h28 else none) else none)) else none)
set_option maxHeartbeats 4000000 in
theorem q_X1_addName_0 {v : Evx} {g : Gvx} {M : Msx} {h' : Hpx} (X : Cx_ v g cX1_addName 2 RX1 "addName" (none) rm_X1_addName) (a0 : Nat) (hF : Fi_ v g rm_X1_addName (none) h' M) (h : Hpx) (x1 : Int32) (hm : f_X1_addName h a0 x1 = some h') : At_ v g 2 h M 0 0 0 [(0, v_R (some a0)), (1, v_I x1)] [] := by
  unfold f_X1_addName at hm
  refine a_aload_n X dX1_addName_0 rfl ?_
  obtain ⟨k21, hm⟩ := i_c hm
  refine a_getI X 1 8 rfl k21 (by decide) rfl fl_X1_55 dX1_addName_1 ?_
  refine a_iconst (x := 4) X dX1_addName_4 (by decide) ?_
  refine a_icmp_ge (tgt := 40) X dX1_addName_5 (by decide) hm (fun c22 hm => ?_) (fun c22 hm => ?_)
  · exact a_vret X hF ⟨Option.some.inj hm, rfl⟩ (by decide) dX1_addName_40
  · refine a_aload_n X dX1_addName_8 rfl ?_
    refine a_getR X 1 5 rfl k21 (by decide) rfl fl_X1_39 dX1_addName_9 ?_
    refine a_aload_n X dX1_addName_12 rfl ?_
    refine a_getI X 1 8 rfl k21 (by decide) rfl fl_X1_55 dX1_addName_13 ?_
    refine a_iload_n X dX1_addName_16 rfl ?_
    obtain ⟨a23, ea23, hm⟩ := i_b hm
    obtain ⟨k24, hm⟩ := i_c hm
    obtain ⟨b25, hm⟩ := i_c hm
    obtain ⟨h26, eh26, hm⟩ := i_d hm
    refine a_iast X ea23 k24 b25 dX1_addName_17 ?_
    rw [← eh26]
    refine a_aload_n X dX1_addName_18 rfl ?_
    refine a_dup X dX1_addName_19 rfl ?_
    refine a_getI X 1 8 rfl (kk_I eh26 k21) (by decide) rfl fl_X1_55 dX1_addName_20 ?_
    refine a_iconst (x := 1) X dX1_addName_23 (by decide) ?_
    refine a_iadd X dX1_addName_24 ?_
    obtain ⟨h27, eh27, hm⟩ := i_d hm
    refine a_putI X 1 8 false rfl (kk_I eh26 k21) (by decide) rfl rfl (fun q => by cases q) rfl rfl fl_X1_55 dX1_addName_25 ?_
    rw [← eh27]
    refine a_aload_n X dX1_addName_28 rfl ?_
    refine a_dup X dX1_addName_29 rfl ?_
    refine a_getI X 1 9 rfl (kk_I eh27 (kk_I eh26 k21)) (by decide) rfl fl_X1_52 dX1_addName_30 ?_
    refine a_iconst (x := 1) X dX1_addName_33 (by decide) ?_
    refine a_iload_n X dX1_addName_34 rfl ?_
    refine a_ishl X dX1_addName_35 ?_
    refine a_ior X dX1_addName_36 ?_
    obtain ⟨h28, eh28, hm⟩ := i_d hm
    refine a_putI X 1 9 false rfl (kk_I eh27 (kk_I eh26 k21)) (by decide) rfl rfl (fun q => by cases q) rfl rfl fl_X1_52 dX1_addName_37 ?_
    rw [← eh28]
    exact a_vret X hF ⟨Option.some.inj hm, rfl⟩ (by decide) dX1_addName_40
theorem c_X1_addName {l : Launch} {g : Gvx} {h : Hpx} {M : Msx} {h' : Hpx} {a0 : Nat} {x1 : Int32} (hm : f_X1_addName h a0 x1 = some h') : Mt_ l g yX1_addName cX1_addName 2 (none) rm_X1_addName [v_R (some a0), v_I x1] h M (none) h' M := mt_of (by decide) (Nat.le_of_ble_eq_true rfl) (fun v _ X hF => q_X1_addName_0 X a0 hF h x1 hm)
theorem yv_X1_addName : Yv_ yX1_addName cX1_addName 2 (none) 1 1 := ⟨rfl, by decide, ⟨by decide, by decide, by decide +kernel⟩, co_X1_addName, im_X1_addName, se_X1_addName, ini_X1⟩

abbrev rm_X1_placeIn : Room := { frames := 0, cells := 0, slots := 0, locals := 0 }
def f_X1_placeIn (h : Hpx) (a0 : Nat) (x1 : Int32) : Option (Int32) :=
  (if x1 < 0 then
  some (-1 : Int32)
  else (if (8 : Int32) ≤ x1 then
  some (-1 : Int32)
  else (if h_k h a0 = 2 then
  (h_R h a0 4).bind fun a24 =>
  (if h_k h a24 = 6 then
  (if in_b x1 (h_n h a24) = true then
  some (h_I h a24 x1.toNatClampNeg) else none) else none) else none)))
set_option maxHeartbeats 4000000 in
theorem q_X1_placeIn_0 {v : Evx} {g : Gvx} {M : Msx} {r : Int32} (X : Cx_ v g cX1_placeIn 2 RX1 "placeIn" ((some .int)) rm_X1_placeIn) (h : Hpx) (a0 : Nat) (hF : Fi_ v g rm_X1_placeIn (some (v_I r)) h M) (x1 : Int32) (hm : f_X1_placeIn h a0 x1 = some r) : At_ v g 2 h M 0 0 0 [(0, v_R (some a0)), (1, v_I x1)] [] := by
  unfold f_X1_placeIn at hm
  refine a_iload_n X dX1_placeIn_0 rfl ?_
  refine a_if_lt (tgt := 19) X dX1_placeIn_1 (by decide) hm (fun c21 hm => ?_) (fun c21 hm => ?_)
  · refine a_iconst (x := -1) X dX1_placeIn_19 (by decide) ?_
    exact a_iret X hF ⟨rfl, rfl, Option.some.inj hm⟩ (by decide) dX1_placeIn_20
  · refine a_iload_n X dX1_placeIn_4 rfl ?_
    refine a_bipush (x := 8) X dX1_placeIn_5 (by decide) ?_
    refine a_icmp_ge (tgt := 19) X dX1_placeIn_7 (by decide) hm (fun c22 hm => ?_) (fun c22 hm => ?_)
    · refine a_iconst (x := -1) X dX1_placeIn_19 (by decide) ?_
      exact a_iret X hF ⟨rfl, rfl, Option.some.inj hm⟩ (by decide) dX1_placeIn_20
    · refine a_aload_n X dX1_placeIn_10 rfl ?_
      obtain ⟨k23, hm⟩ := i_c hm
      refine a_getR X 1 4 rfl k23 (by decide) rfl fl_X1_29 dX1_placeIn_11 ?_
      refine a_iload_n X dX1_placeIn_14 rfl ?_
      obtain ⟨a24, ea24, hm⟩ := i_b hm
      obtain ⟨k25, hm⟩ := i_c hm
      obtain ⟨b26, hm⟩ := i_c hm
      refine a_iald X ea24 k25 b26 dX1_placeIn_15 ?_
      refine a_goto (tgt := 20) X dX1_placeIn_16 (by decide) ?_
      exact a_iret X hF ⟨rfl, rfl, Option.some.inj hm⟩ (by decide) dX1_placeIn_20
theorem c_X1_placeIn {l : Launch} {g : Gvx} {h : Hpx} {M : Msx} {r : Int32} {a0 : Nat} {x1 : Int32} (hm : f_X1_placeIn h a0 x1 = some r) : Mt_ l g yX1_placeIn cX1_placeIn 2 ((some .int)) rm_X1_placeIn [v_R (some a0), v_I x1] h M (some (v_I r)) h M := mt_of (by decide) (Nat.le_of_ble_eq_true rfl) (fun v _ X hF => q_X1_placeIn_0 X h a0 hF x1 hm)
theorem yv_X1_placeIn : Yv_ yX1_placeIn cX1_placeIn 2 ((some .int)) 1 1 := ⟨rfl, by decide, ⟨by decide, by decide, by decide +kernel⟩, co_X1_placeIn, im_X1_placeIn, se_X1_placeIn, ini_X1⟩

abbrev rm_X1_standIn : Room := { frames := 0, cells := 0, slots := 0, locals := 0 }
def f_X1_standIn (h : Hpx) (a0 : Nat) (x1 : Int32) : Option (Hpx) :=
  (if x1 < 0 then
  some h
  else (if (8 : Int32) ≤ x1 then
  some h
  else (if h_k h a0 = 2 then
  (h_R h a0 4).bind fun a24 =>
  (if h_k h a24 = 6 then
  (if in_b x1 (h_n h a24) = true then
  b_d (s_I h a24 x1.toNatClampNeg (0 : Int32)) fun h27 =>
  b_d (s_I h27 a0 7 ((h_I h27 a0 7) + (1 : Int32))) fun h28 =>
  some h28 else none) else none) else none)))
set_option maxHeartbeats 4000000 in
theorem q_X1_standIn_0 {v : Evx} {g : Gvx} {M : Msx} {h' : Hpx} (X : Cx_ v g cX1_standIn 2 RX1 "standIn" (none) rm_X1_standIn) (a0 : Nat) (hF : Fi_ v g rm_X1_standIn (none) h' M) (h : Hpx) (x1 : Int32) (hm : f_X1_standIn h a0 x1 = some h') : At_ v g 2 h M 0 0 0 [(0, v_R (some a0)), (1, v_I x1)] [] := by
  unfold f_X1_standIn at hm
  refine a_iload_n X dX1_standIn_0 rfl ?_
  refine a_if_lt (tgt := 27) X dX1_standIn_1 (by decide) hm (fun c21 hm => ?_) (fun c21 hm => ?_)
  · exact a_vret X hF ⟨Option.some.inj hm, rfl⟩ (by decide) dX1_standIn_27
  · refine a_iload_n X dX1_standIn_4 rfl ?_
    refine a_bipush (x := 8) X dX1_standIn_5 (by decide) ?_
    refine a_icmp_ge (tgt := 27) X dX1_standIn_7 (by decide) hm (fun c22 hm => ?_) (fun c22 hm => ?_)
    · exact a_vret X hF ⟨Option.some.inj hm, rfl⟩ (by decide) dX1_standIn_27
    · refine a_aload_n X dX1_standIn_10 rfl ?_
      obtain ⟨k23, hm⟩ := i_c hm
      refine a_getR X 1 4 rfl k23 (by decide) rfl fl_X1_29 dX1_standIn_11 ?_
      refine a_iload_n X dX1_standIn_14 rfl ?_
      refine a_iconst (x := 0) X dX1_standIn_15 (by decide) ?_
      obtain ⟨a24, ea24, hm⟩ := i_b hm
      obtain ⟨k25, hm⟩ := i_c hm
      obtain ⟨b26, hm⟩ := i_c hm
      obtain ⟨h27, eh27, hm⟩ := i_d hm
      refine a_iast X ea24 k25 b26 dX1_standIn_16 ?_
      rw [← eh27]
      refine a_aload_n X dX1_standIn_17 rfl ?_
      refine a_dup X dX1_standIn_18 rfl ?_
      refine a_getI X 1 7 rfl (kk_I eh27 k23) (by decide) rfl fl_X1_58 dX1_standIn_19 ?_
      refine a_iconst (x := 1) X dX1_standIn_22 (by decide) ?_
      refine a_iadd X dX1_standIn_23 ?_
      obtain ⟨h28, eh28, hm⟩ := i_d hm
      refine a_putI X 1 7 false rfl (kk_I eh27 k23) (by decide) rfl rfl (fun q => by cases q) rfl rfl fl_X1_58 dX1_standIn_24 ?_
      rw [← eh28]
      exact a_vret X hF ⟨Option.some.inj hm, rfl⟩ (by decide) dX1_standIn_27
theorem c_X1_standIn {l : Launch} {g : Gvx} {h : Hpx} {M : Msx} {h' : Hpx} {a0 : Nat} {x1 : Int32} (hm : f_X1_standIn h a0 x1 = some h') : Mt_ l g yX1_standIn cX1_standIn 2 (none) rm_X1_standIn [v_R (some a0), v_I x1] h M (none) h' M := mt_of (by decide) (Nat.le_of_ble_eq_true rfl) (fun v _ X hF => q_X1_standIn_0 X a0 hF h x1 hm)
theorem yv_X1_standIn : Yv_ yX1_standIn cX1_standIn 2 (none) 1 1 := ⟨rfl, by decide, ⟨by decide, by decide, by decide +kernel⟩, co_X1_standIn, im_X1_standIn, se_X1_standIn, ini_X1⟩

abbrev rm_X1_stepOn : Room := { frames := 0, cells := 0, slots := 0, locals := 0 }
def f_X1_stepOn (h : Hpx) (a0 : Nat) (x1 : Int32) : Option (Hpx) :=
  (if x1 < 0 then
  some h
  else (if (8 : Int32) ≤ x1 then
  some h
  else (if h_k h a0 = 2 then
  (h_R h a0 4).bind fun a24 =>
  (if h_k h a24 = 6 then
  (if in_b x1 (h_n h a24) = true then
  b_d (s_I h a24 x1.toNatClampNeg ((h_I h a24 x1.toNatClampNeg) + (1 : Int32))) fun h27 =>
  some h27 else none) else none) else none)))
set_option maxHeartbeats 4000000 in
theorem q_X1_stepOn_0 {v : Evx} {g : Gvx} {M : Msx} {h' : Hpx} (X : Cx_ v g cX1_stepOn 2 RX1 "stepOn" (none) rm_X1_stepOn) (a0 : Nat) (hF : Fi_ v g rm_X1_stepOn (none) h' M) (h : Hpx) (x1 : Int32) (hm : f_X1_stepOn h a0 x1 = some h') : At_ v g 2 h M 0 0 0 [(0, v_R (some a0)), (1, v_I x1)] [] := by
  unfold f_X1_stepOn at hm
  refine a_iload_n X dX1_stepOn_0 rfl ?_
  refine a_if_lt (tgt := 20) X dX1_stepOn_1 (by decide) hm (fun c21 hm => ?_) (fun c21 hm => ?_)
  · exact a_vret X hF ⟨Option.some.inj hm, rfl⟩ (by decide) dX1_stepOn_20
  · refine a_iload_n X dX1_stepOn_4 rfl ?_
    refine a_bipush (x := 8) X dX1_stepOn_5 (by decide) ?_
    refine a_icmp_ge (tgt := 20) X dX1_stepOn_7 (by decide) hm (fun c22 hm => ?_) (fun c22 hm => ?_)
    · exact a_vret X hF ⟨Option.some.inj hm, rfl⟩ (by decide) dX1_stepOn_20
    · refine a_aload_n X dX1_stepOn_10 rfl ?_
      obtain ⟨k23, hm⟩ := i_c hm
      refine a_getR X 1 4 rfl k23 (by decide) rfl fl_X1_29 dX1_stepOn_11 ?_
      refine a_iload_n X dX1_stepOn_14 rfl ?_
      refine a_dup2 X dX1_stepOn_15 rfl rfl ?_
      obtain ⟨a24, ea24, hm⟩ := i_b hm
      obtain ⟨k25, hm⟩ := i_c hm
      obtain ⟨b26, hm⟩ := i_c hm
      refine a_iald X ea24 k25 b26 dX1_stepOn_16 ?_
      refine a_iconst (x := 1) X dX1_stepOn_17 (by decide) ?_
      refine a_iadd X dX1_stepOn_18 ?_
      obtain ⟨h27, eh27, hm⟩ := i_d hm
      refine a_iast X ea24 k25 b26 dX1_stepOn_19 ?_
      rw [← eh27]
      exact a_vret X hF ⟨Option.some.inj hm, rfl⟩ (by decide) dX1_stepOn_20
theorem c_X1_stepOn {l : Launch} {g : Gvx} {h : Hpx} {M : Msx} {h' : Hpx} {a0 : Nat} {x1 : Int32} (hm : f_X1_stepOn h a0 x1 = some h') : Mt_ l g yX1_stepOn cX1_stepOn 2 (none) rm_X1_stepOn [v_R (some a0), v_I x1] h M (none) h' M := mt_of (by decide) (Nat.le_of_ble_eq_true rfl) (fun v _ X hF => q_X1_stepOn_0 X a0 hF h x1 hm)
theorem yv_X1_stepOn : Yv_ yX1_stepOn cX1_stepOn 2 (none) 1 1 := ⟨rfl, by decide, ⟨by decide, by decide, by decide +kernel⟩, co_X1_stepOn, im_X1_stepOn, se_X1_stepOn, ini_X1⟩

abbrev rm_X1_heldPlace : Room := { frames := 0, cells := 0, slots := 0, locals := 0 }
def f_X1_heldPlace (h : Hpx) (a0 : Nat) (x1 : Int32) : Option (Int32) :=
  (if h_k h a0 = 2 then
  (if (h_I h a0 0) = (3 : Int32) then
  some (-1 : Int32)
  else (if x1 < 0 then
  some (-1 : Int32)
  else (if (8 : Int32) ≤ x1 then
  some (-1 : Int32)
  else (h_R h a0 4).bind fun a25 =>
  (if h_k h a25 = 6 then
  (if in_b x1 (h_n h a25) = true then
  some (h_I h a25 x1.toNatClampNeg) else none) else none)))) else none)
set_option maxHeartbeats 4000000 in
theorem q_X1_heldPlace_0 {v : Evx} {g : Gvx} {M : Msx} {r : Int32} (X : Cx_ v g cX1_heldPlace 2 RX1 "heldPlace" ((some .int)) rm_X1_heldPlace) (h : Hpx) (a0 : Nat) (hF : Fi_ v g rm_X1_heldPlace (some (v_I r)) h M) (x1 : Int32) (hm : f_X1_heldPlace h a0 x1 = some r) : At_ v g 2 h M 0 0 0 [(0, v_R (some a0)), (1, v_I x1)] [] := by
  unfold f_X1_heldPlace at hm
  refine a_aload_n X dX1_heldPlace_0 rfl ?_
  obtain ⟨k21, hm⟩ := i_c hm
  refine a_getI X 1 0 rfl k21 (by decide) rfl fl_X1_9 dX1_heldPlace_1 ?_
  refine a_iconst (x := 3) X dX1_heldPlace_4 (by decide) ?_
  refine a_icmp_eq (tgt := 27) X dX1_heldPlace_5 (by decide) hm (fun c22 hm => ?_) (fun c22 hm => ?_)
  · refine a_iconst (x := -1) X dX1_heldPlace_27 (by decide) ?_
    exact a_iret X hF ⟨rfl, rfl, Option.some.inj hm⟩ (by decide) dX1_heldPlace_28
  · refine a_iload_n X dX1_heldPlace_8 rfl ?_
    refine a_if_lt (tgt := 27) X dX1_heldPlace_9 (by decide) hm (fun c23 hm => ?_) (fun c23 hm => ?_)
    · refine a_iconst (x := -1) X dX1_heldPlace_27 (by decide) ?_
      exact a_iret X hF ⟨rfl, rfl, Option.some.inj hm⟩ (by decide) dX1_heldPlace_28
    · refine a_iload_n X dX1_heldPlace_12 rfl ?_
      refine a_bipush (x := 8) X dX1_heldPlace_13 (by decide) ?_
      refine a_icmp_ge (tgt := 27) X dX1_heldPlace_15 (by decide) hm (fun c24 hm => ?_) (fun c24 hm => ?_)
      · refine a_iconst (x := -1) X dX1_heldPlace_27 (by decide) ?_
        exact a_iret X hF ⟨rfl, rfl, Option.some.inj hm⟩ (by decide) dX1_heldPlace_28
      · refine a_aload_n X dX1_heldPlace_18 rfl ?_
        refine a_getR X 1 4 rfl k21 (by decide) rfl fl_X1_29 dX1_heldPlace_19 ?_
        refine a_iload_n X dX1_heldPlace_22 rfl ?_
        obtain ⟨a25, ea25, hm⟩ := i_b hm
        obtain ⟨k26, hm⟩ := i_c hm
        obtain ⟨b27, hm⟩ := i_c hm
        refine a_iald X ea25 k26 b27 dX1_heldPlace_23 ?_
        refine a_goto (tgt := 28) X dX1_heldPlace_24 (by decide) ?_
        exact a_iret X hF ⟨rfl, rfl, Option.some.inj hm⟩ (by decide) dX1_heldPlace_28
theorem c_X1_heldPlace {l : Launch} {g : Gvx} {h : Hpx} {M : Msx} {r : Int32} {a0 : Nat} {x1 : Int32} (hm : f_X1_heldPlace h a0 x1 = some r) : Mt_ l g yX1_heldPlace cX1_heldPlace 2 ((some .int)) rm_X1_heldPlace [v_R (some a0), v_I x1] h M (some (v_I r)) h M := mt_of (by decide) (Nat.le_of_ble_eq_true rfl) (fun v _ X hF => q_X1_heldPlace_0 X h a0 hF x1 hm)
theorem yv_X1_heldPlace : Yv_ yX1_heldPlace cX1_heldPlace 2 ((some .int)) 1 1 := ⟨rfl, by decide, ⟨by decide, by decide, by decide +kernel⟩, co_X1_heldPlace, im_X1_heldPlace, se_X1_heldPlace, ini_X1⟩

abbrev rm_X1_placeToRead : Room := { frames := 1, cells := 0, slots := 0, locals := 21 }
def j_X1_placeToRead_58 (h : Hpx) (a0 : Nat) (y0 : Int32) (y1 : Int32) : Option (Int32) :=
  some (if y0 < y1 then y1 else y0)
set_option maxHeartbeats 4000000 in
theorem q_X1_placeToRead_58 {v : Evx} {g : Gvx} {M : Msx} {r : Int32} (X : Cx_ v g cX1_placeToRead 2 RX1 "placeToRead" ((some .int)) rm_X1_placeToRead) (h : Hpx) (a0 : Nat) (hF : Fi_ v g rm_X1_placeToRead (some (v_I r)) h M) (y0 : Int32) (y1 : Int32) (hm : j_X1_placeToRead_58 h a0 y0 y1 = some r) : At_ v g 2 h M 0 0 58 [(0, v_R (some a0))] [v_I y1, v_I y0] := by
  unfold j_X1_placeToRead_58 at hm
  refine a_mmax X ml_X1_80 ⟨by decide, Nat.le_of_ble_eq_true rfl, by decide, by decide⟩ dX1_placeToRead_58 ?_
  exact a_iret X hF ⟨rfl, rfl, Option.some.inj hm⟩ (by decide) dX1_placeToRead_61
def f_X1_placeToRead (h : Hpx) (a0 : Nat) : Option (Int32) :=
  (if h_k h a0 = 2 then
  (h_R h a0 1).bind fun a22 =>
  (if h_k h a22 = 3 then
  (f_X1_placeIn h a0 (h_I h a22 0)).bind fun r25 =>
  (if (h_I h a0 0) = (3 : Int32) then
  (if (h_I h a22 6) = 0 then
  j_X1_placeToRead_58 h a0 r25 ((h_I h a22 3) - (h_I h a22 1))
  else j_X1_placeToRead_58 h a0 r25 (h_I h a22 3))
  else some r25) else none) else none)
set_option maxHeartbeats 4000000 in
theorem q_X1_placeToRead_0 {v : Evx} {g : Gvx} {M : Msx} {r : Int32} (X : Cx_ v g cX1_placeToRead 2 RX1 "placeToRead" ((some .int)) rm_X1_placeToRead) (h : Hpx) (a0 : Nat) (hF : Fi_ v g rm_X1_placeToRead (some (v_I r)) h M) (hm : f_X1_placeToRead h a0 = some r) : At_ v g 2 h M 0 0 0 [(0, v_R (some a0))] [] := by
  unfold f_X1_placeToRead at hm
  refine a_aload_n X dX1_placeToRead_0 rfl ?_
  refine a_aload_n X dX1_placeToRead_1 rfl ?_
  obtain ⟨k21, hm⟩ := i_c hm
  refine a_getR X 1 1 rfl k21 (by decide) rfl fl_X1_15 dX1_placeToRead_2 ?_
  obtain ⟨a22, ea22, hm⟩ := i_b hm
  obtain ⟨k23, hm⟩ := i_c hm
  refine a_getI X 2 0 ea22 k23 (by decide) rfl fl_X1_61 dX1_placeToRead_5 ?_
  obtain ⟨r25, q24, hm⟩ := i_b hm
  refine a_callV (k' := 0) (n' := 0) (st := []) X (c_X1_placeIn q24) yv_X1_placeIn ml_X1_66 rfl (Or.inl k21) ⟨by decide, by decide, by decide, by decide, Nat.le_of_ble_eq_true rfl⟩ rfl rfl dX1_placeToRead_8 rfl rfl ?_
  show At_ v g 2 h M 0 0 11 [(0, v_R (some a0))] [v_I r25]
  refine a_istore_n (lv' := [(0, v_R (some a0)), (1, v_I r25)]) X dX1_placeToRead_11 (by decide) rfl ?_
  refine a_aload_n X dX1_placeToRead_12 rfl ?_
  refine a_getI X 1 0 rfl k21 (by decide) rfl fl_X1_9 dX1_placeToRead_13 ?_
  refine a_iconst (x := 3) X dX1_placeToRead_16 (by decide) ?_
  refine a_icmp_eq (tgt := 22) X dX1_placeToRead_17 (by decide) hm (fun c26 hm => ?_) (fun c26 hm => ?_)
  · refine a_iload_n X dX1_placeToRead_22 rfl ?_
    refine a_aload_n X dX1_placeToRead_23 rfl ?_
    refine a_getR X 1 1 rfl k21 (by decide) rfl fl_X1_15 dX1_placeToRead_24 ?_
    refine a_getI X 2 6 ea22 k23 (by decide) rfl fl_X1_70 dX1_placeToRead_27 ?_
    refine a_if_eq (tgt := 43) X dX1_placeToRead_30 (by decide) hm (fun c27 hm => ?_) (fun c27 hm => ?_)
    · refine a_aload_n X dX1_placeToRead_43 rfl ?_
      refine a_getR X 1 1 rfl k21 (by decide) rfl fl_X1_15 dX1_placeToRead_44 ?_
      refine a_getI X 2 3 ea22 k23 (by decide) rfl fl_X1_74 dX1_placeToRead_47 ?_
      refine a_aload_n X dX1_placeToRead_50 rfl ?_
      refine a_getR X 1 1 rfl k21 (by decide) rfl fl_X1_15 dX1_placeToRead_51 ?_
      refine a_getI X 2 1 ea22 k23 (by decide) rfl fl_X1_77 dX1_placeToRead_54 ?_
      refine a_isub X dX1_placeToRead_57 ?_
      refine a_pick (lv' := [(0, v_R (some a0))]) [0] rfl ?_
      exact q_X1_placeToRead_58 X h a0 hF r25 ((h_I h a22 3) - (h_I h a22 1)) hm
    · refine a_aload_n X dX1_placeToRead_33 rfl ?_
      refine a_getR X 1 1 rfl k21 (by decide) rfl fl_X1_15 dX1_placeToRead_34 ?_
      refine a_getI X 2 3 ea22 k23 (by decide) rfl fl_X1_74 dX1_placeToRead_37 ?_
      refine a_goto (tgt := 58) X dX1_placeToRead_40 (by decide) ?_
      refine a_pick (lv' := [(0, v_R (some a0))]) [0] rfl ?_
      exact q_X1_placeToRead_58 X h a0 hF r25 (h_I h a22 3) hm
  · refine a_iload_n X dX1_placeToRead_20 rfl ?_
    exact a_iret X hF ⟨rfl, rfl, Option.some.inj hm⟩ (by decide) dX1_placeToRead_21
theorem c_X1_placeToRead {l : Launch} {g : Gvx} {h : Hpx} {M : Msx} {r : Int32} {a0 : Nat} (hm : f_X1_placeToRead h a0 = some r) : Mt_ l g yX1_placeToRead cX1_placeToRead 2 ((some .int)) rm_X1_placeToRead [v_R (some a0)] h M (some (v_I r)) h M := mt_of (by decide) (Nat.le_of_ble_eq_true rfl) (fun v _ X hF => q_X1_placeToRead_0 X h a0 hF hm)
theorem yv_X1_placeToRead : Yv_ yX1_placeToRead cX1_placeToRead 2 ((some .int)) 0 1 := ⟨rfl, by decide, ⟨by decide, by decide, by decide +kernel⟩, co_X1_placeToRead, im_X1_placeToRead, se_X1_placeToRead, ini_X1⟩

abbrev rm_X1_skipMissed : Room := { frames := 2, cells := 0, slots := 0, locals := 42 }
def f_X1_skipMissed (h : Hpx) (a0 : Nat) : Option (Hpx) :=
  (if h_k h a0 = 2 then
  (h_R h a0 1).bind fun a22 =>
  (if h_k h a22 = 3 then
  (f_X1_placeIn h a0 (h_I h a22 0)).bind fun r25 =>
  (f_X1_placeToRead h a0).bind fun r27 =>
  (if r25 < 0 then
  some h
  else (if r27 ≤ r25 then
  some h
  else b_d (s_I h a0 12 ((h_I h a0 12) + (r27 - r25))) fun h30 =>
  b_d (s_I h30 a0 13 r25) fun h31 =>
  b_d (s_I h31 a0 14 (r27 - (1 : Int32))) fun h32 =>
  (h_R h32 a0 1).bind fun a33 =>
  (if h_k h32 a33 = 3 then
  (h_R h32 a0 4).bind fun a35 =>
  (if h_k h32 a35 = 6 then
  (if in_b (h_I h32 a33 0) (h_n h32 a35) = true then
  b_d (s_I h32 a35 (h_I h32 a33 0).toNatClampNeg r27) fun h38 =>
  some h38 else none) else none) else none))) else none) else none)
set_option maxHeartbeats 4000000 in
theorem q_X1_skipMissed_0 {v : Evx} {g : Gvx} {M : Msx} {h' : Hpx} (X : Cx_ v g cX1_skipMissed 3 RX1 "skipMissed" (none) rm_X1_skipMissed) (a0 : Nat) (hF : Fi_ v g rm_X1_skipMissed (none) h' M) (h : Hpx) (hm : f_X1_skipMissed h a0 = some h') : At_ v g 3 h M 0 0 0 [(0, v_R (some a0))] [] := by
  unfold f_X1_skipMissed at hm
  refine a_aload_n X dX1_skipMissed_0 rfl ?_
  refine a_aload_n X dX1_skipMissed_1 rfl ?_
  obtain ⟨k21, hm⟩ := i_c hm
  refine a_getR X 1 1 rfl k21 (by decide) rfl fl_X1_15 dX1_skipMissed_2 ?_
  obtain ⟨a22, ea22, hm⟩ := i_b hm
  obtain ⟨k23, hm⟩ := i_c hm
  refine a_getI X 2 0 ea22 k23 (by decide) rfl fl_X1_61 dX1_skipMissed_5 ?_
  obtain ⟨r25, q24, hm⟩ := i_b hm
  refine a_callV (k' := 0) (n' := 0) (st := []) X (c_X1_placeIn q24) yv_X1_placeIn ml_X1_66 rfl (Or.inl k21) ⟨by decide, by decide, by decide, by decide, Nat.le_of_ble_eq_true rfl⟩ rfl rfl dX1_skipMissed_8 rfl rfl ?_
  show At_ v g 3 h M 0 0 11 [(0, v_R (some a0))] [v_I r25]
  refine a_istore_n (lv' := [(0, v_R (some a0)), (1, v_I r25)]) X dX1_skipMissed_11 (by decide) rfl ?_
  refine a_aload_n X dX1_skipMissed_12 rfl ?_
  obtain ⟨r27, q26, hm⟩ := i_b hm
  refine a_callV (k' := 0) (n' := 0) (st := []) X (c_X1_placeToRead q26) yv_X1_placeToRead ml_X1_86 rfl (Or.inl k21) ⟨by decide, by decide, by decide, by decide, Nat.le_of_ble_eq_true rfl⟩ rfl rfl dX1_skipMissed_13 rfl rfl ?_
  show At_ v g 3 h M 0 0 16 [(0, v_R (some a0)), (1, v_I r25)] [v_I r27]
  refine a_istore_n (lv' := [(0, v_R (some a0)), (1, v_I r25), (2, v_I r27)]) X dX1_skipMissed_16 (by decide) rfl ?_
  refine a_iload_n X dX1_skipMissed_17 rfl ?_
  refine a_if_lt (tgt := 63) X dX1_skipMissed_18 (by decide) hm (fun c28 hm => ?_) (fun c28 hm => ?_)
  · exact a_vret X hF ⟨Option.some.inj hm, rfl⟩ (by decide) dX1_skipMissed_63
  · refine a_iload_n X dX1_skipMissed_21 rfl ?_
    refine a_iload_n X dX1_skipMissed_22 rfl ?_
    refine a_icmp_le (tgt := 63) X dX1_skipMissed_23 (by decide) hm (fun c29 hm => ?_) (fun c29 hm => ?_)
    · exact a_vret X hF ⟨Option.some.inj hm, rfl⟩ (by decide) dX1_skipMissed_63
    · refine a_aload_n X dX1_skipMissed_26 rfl ?_
      refine a_dup X dX1_skipMissed_27 rfl ?_
      refine a_getI X 1 12 rfl k21 (by decide) rfl fl_X1_90 dX1_skipMissed_28 ?_
      refine a_iload_n X dX1_skipMissed_31 rfl ?_
      refine a_iload_n X dX1_skipMissed_32 rfl ?_
      refine a_isub X dX1_skipMissed_33 ?_
      refine a_iadd X dX1_skipMissed_34 ?_
      obtain ⟨h30, eh30, hm⟩ := i_d hm
      refine a_putI X 1 12 false rfl k21 (by decide) rfl rfl (fun q => by cases q) rfl rfl fl_X1_90 dX1_skipMissed_35 ?_
      rw [← eh30]
      refine a_aload_n X dX1_skipMissed_38 rfl ?_
      refine a_iload_n X dX1_skipMissed_39 rfl ?_
      obtain ⟨h31, eh31, hm⟩ := i_d hm
      refine a_putI X 1 13 false rfl (kk_I eh30 k21) (by decide) rfl rfl (fun q => by cases q) rfl rfl fl_X1_46 dX1_skipMissed_40 ?_
      rw [← eh31]
      refine a_aload_n X dX1_skipMissed_43 rfl ?_
      refine a_iload_n X dX1_skipMissed_44 rfl ?_
      refine a_iconst (x := 1) X dX1_skipMissed_45 (by decide) ?_
      refine a_isub X dX1_skipMissed_46 ?_
      obtain ⟨h32, eh32, hm⟩ := i_d hm
      refine a_putI X 1 14 false rfl (kk_I eh31 (kk_I eh30 k21)) (by decide) rfl rfl (fun q => by cases q) rfl rfl fl_X1_49 dX1_skipMissed_47 ?_
      rw [← eh32]
      refine a_aload_n X dX1_skipMissed_50 rfl ?_
      refine a_getR X 1 4 rfl (kk_I eh32 (kk_I eh31 (kk_I eh30 k21))) (by decide) rfl fl_X1_29 dX1_skipMissed_51 ?_
      refine a_aload_n X dX1_skipMissed_54 rfl ?_
      refine a_getR X 1 1 rfl (kk_I eh32 (kk_I eh31 (kk_I eh30 k21))) (by decide) rfl fl_X1_15 dX1_skipMissed_55 ?_
      obtain ⟨a33, ea33, hm⟩ := i_b hm
      obtain ⟨k34, hm⟩ := i_c hm
      refine a_getI X 2 0 ea33 k34 (by decide) rfl fl_X1_61 dX1_skipMissed_58 ?_
      refine a_iload_n X dX1_skipMissed_61 rfl ?_
      obtain ⟨a35, ea35, hm⟩ := i_b hm
      obtain ⟨k36, hm⟩ := i_c hm
      obtain ⟨b37, hm⟩ := i_c hm
      obtain ⟨h38, eh38, hm⟩ := i_d hm
      refine a_iast X ea35 k36 b37 dX1_skipMissed_62 ?_
      rw [← eh38]
      exact a_vret X hF ⟨Option.some.inj hm, rfl⟩ (by decide) dX1_skipMissed_63
theorem c_X1_skipMissed {l : Launch} {g : Gvx} {h : Hpx} {M : Msx} {h' : Hpx} {a0 : Nat} (hm : f_X1_skipMissed h a0 = some h') : Mt_ l g yX1_skipMissed cX1_skipMissed 3 (none) rm_X1_skipMissed [v_R (some a0)] h M (none) h' M := mt_of (by decide) (Nat.le_of_ble_eq_true rfl) (fun v _ X hF => q_X1_skipMissed_0 X a0 hF h hm)
theorem yv_X1_skipMissed : Yv_ yX1_skipMissed cX1_skipMissed 3 (none) 0 1 := ⟨rfl, by decide, ⟨by decide, by decide, by decide +kernel⟩, co_X1_skipMissed, im_X1_skipMissed, se_X1_skipMissed, ini_X1⟩

abbrev rm_X1_keep : Room := { frames := 2, cells := 0, slots := 0, locals := 61 }
def f_X1_keep (h : Hpx) (a0 : Nat) (x1 : Option Nat) : Option (Hpx × Int32) :=
  (if x1 = none then
  some (h, (0 : Int32))
  else (if h_k h a0 = 2 then
  (h_R h a0 3).bind fun a23 =>
  (if h_k h a23 = 1 then
  (f_X0_become h a23 x1).bind fun h26 =>
  (if h_k h26 a0 = 2 then
  b_d (s_I h26 a0 11 ((h_I h26 a0 11) + (1 : Int32))) fun h28 =>
  some (h28, (1 : Int32)) else none) else none) else none))
set_option maxHeartbeats 4000000 in
theorem q_X1_keep_0 {v : Evx} {g : Gvx} {M : Msx} {h' : Hpx} {r : Int32} (X : Cx_ v g cX1_keep 2 RX1 "keep" ((some .boolean)) rm_X1_keep) (a0 : Nat) (hF : Fi_ v g rm_X1_keep (some (v_I r)) h' M) (h : Hpx) (x1 : Option Nat) (hm : f_X1_keep h a0 x1 = some (h', r)) : At_ v g 2 h M 0 0 0 [(0, v_R (some a0)), (1, v_R x1)] [] := by
  unfold f_X1_keep at hm
  refine a_aload_n X dX1_keep_0 rfl ?_
  refine a_ifnonnull (tgt := 6) X dX1_keep_1 (by decide) hm (fun c21 hm => ?_) (fun c21 hm => ?_)
  · refine a_aload_n X dX1_keep_6 rfl ?_
    obtain ⟨k22, hm⟩ := i_c hm
    refine a_getR X 1 3 rfl k22 (by decide) rfl fl_X1_25 dX1_keep_7 ?_
    refine a_aload_n X dX1_keep_10 rfl ?_
    obtain ⟨a23, ea23, hm⟩ := i_b hm
    obtain ⟨k24, hm⟩ := i_c hm
    obtain ⟨h26, q25, hm⟩ := i_b hm
    refine a_callV (k' := 0) (n' := 0) (st := []) X (c_X0_become q25) yv_X0_become ml_X1_93 ea23 (Or.inl k24) ⟨by decide, by decide, by decide, by decide, Nat.le_of_ble_eq_true rfl⟩ rfl rfl dX1_keep_11 rfl rfl ?_
    show At_ v g 2 h26 M 0 0 14 [(0, v_R (some a0)), (1, v_R x1)] []
    refine a_aload_n X dX1_keep_14 rfl ?_
    refine a_dup X dX1_keep_15 rfl ?_
    obtain ⟨k27, hm⟩ := i_c hm
    refine a_getI X 1 11 rfl k27 (by decide) rfl fl_X1_97 dX1_keep_16 ?_
    refine a_iconst (x := 1) X dX1_keep_19 (by decide) ?_
    refine a_iadd X dX1_keep_20 ?_
    obtain ⟨h28, eh28, hm⟩ := i_d hm
    refine a_putI X 1 11 false rfl k27 (by decide) rfl rfl (fun q => by cases q) rfl rfl fl_X1_97 dX1_keep_21 ?_
    rw [← eh28]
    refine a_iconst (x := 1) X dX1_keep_24 (by decide) ?_
    exact a_zret X hF (Or.inr rfl) ⟨(Prod.mk.inj (Option.some.inj hm)).1, rfl, (Prod.mk.inj (Option.some.inj hm)).2⟩ (by decide) dX1_keep_25
  · refine a_iconst (x := 0) X dX1_keep_4 (by decide) ?_
    exact a_zret X hF (Or.inl rfl) ⟨(Prod.mk.inj (Option.some.inj hm)).1, rfl, (Prod.mk.inj (Option.some.inj hm)).2⟩ (by decide) dX1_keep_5
theorem c_X1_keep {l : Launch} {g : Gvx} {h : Hpx} {M : Msx} {h' : Hpx} {r : Int32} {a0 : Nat} {x1 : Option Nat} (hm : f_X1_keep h a0 x1 = some (h', r)) : Mt_ l g yX1_keep cX1_keep 2 ((some .boolean)) rm_X1_keep [v_R (some a0), v_R x1] h M (some (v_I r)) h' M := mt_of (by decide) (Nat.le_of_ble_eq_true rfl) (fun v _ X hF => q_X1_keep_0 X a0 hF h x1 hm)
theorem yv_X1_keep : Yv_ yX1_keep cX1_keep 2 ((some .boolean)) 1 1 := ⟨rfl, by decide, ⟨by decide, by decide, by decide +kernel⟩, co_X1_keep, im_X1_keep, se_X1_keep, ini_X1⟩

abbrev rm_X1_foldIn : Room := { frames := 2, cells := 0, slots := 0, locals := 61 }
def j_X1_foldIn_68 (a0 : Nat) (h : Hpx) (x1 : Option Nat) : Option (Hpx) :=
  (if h_k h a0 = 2 then
  (h_R h a0 6).bind fun a36 =>
  (if h_k h a36 = 9 then
  (if (nI (h_n h a36)) ≤ (h_I h a0 10) then
  some h
  else (if in_b (h_I h a0 10) (h_n h a36) = true then
  (h_R h a36 (h_I h a0 10).toNatClampNeg).bind fun a40 =>
  (if h_k h a40 = 1 then
  (f_X0_become h a40 x1).bind fun h43 =>
  (if h_k h43 a0 = 2 then
  b_d (s_I h43 a0 10 ((h_I h43 a0 10) + (1 : Int32))) fun h45 =>
  some h45 else none) else none) else none)) else none) else none)
set_option maxHeartbeats 4000000 in
theorem q_X1_foldIn_68 {v : Evx} {g : Gvx} {M : Msx} {h' : Hpx} (X : Cx_ v g cX1_foldIn 3 RX1 "foldIn" (none) rm_X1_foldIn) (a0 : Nat) (hF : Fi_ v g rm_X1_foldIn (none) h' M) (h : Hpx) (x1 : Option Nat) (hm : j_X1_foldIn_68 a0 h x1 = some h') : At_ v g 3 h M 0 0 68 [(0, v_R (some a0)), (1, v_R x1)] [] := by
  unfold j_X1_foldIn_68 at hm
  refine a_aload_n X dX1_foldIn_68 rfl ?_
  obtain ⟨k35, hm⟩ := i_c hm
  refine a_getI X 1 10 rfl k35 (by decide) rfl fl_X1_100 dX1_foldIn_69 ?_
  refine a_aload_n X dX1_foldIn_72 rfl ?_
  refine a_getR X 1 6 rfl k35 (by decide) rfl fl_X1_42 dX1_foldIn_73 ?_
  obtain ⟨a36, ea36, hm⟩ := i_b hm
  obtain ⟨k37, hm⟩ := i_c hm
  refine a_alen X 3 ea36 k37 (by decide) rfl dX1_foldIn_76 ?_
  refine a_icmp_ge (tgt := 103) X dX1_foldIn_77 (by decide) hm (fun c38 hm => ?_) (fun c38 hm => ?_)
  · exact a_vret X hF ⟨Option.some.inj hm, rfl⟩ (by decide) dX1_foldIn_103
  · refine a_aload_n X dX1_foldIn_80 rfl ?_
    refine a_getR X 1 6 rfl k35 (by decide) rfl fl_X1_42 dX1_foldIn_81 ?_
    refine a_aload_n X dX1_foldIn_84 rfl ?_
    refine a_getI X 1 10 rfl k35 (by decide) rfl fl_X1_100 dX1_foldIn_85 ?_
    obtain ⟨b39, hm⟩ := i_c hm
    refine a_aald X 3 ea36 k37 (by decide) rfl b39 dX1_foldIn_88 ?_
    refine a_aload_n X dX1_foldIn_89 rfl ?_
    obtain ⟨a40, ea40, hm⟩ := i_b hm
    obtain ⟨k41, hm⟩ := i_c hm
    obtain ⟨h43, q42, hm⟩ := i_b hm
    refine a_callV (k' := 0) (n' := 0) (st := []) X (c_X0_become q42) yv_X0_become ml_X1_93 ea40 (Or.inl k41) ⟨by decide, by decide, by decide, by decide, Nat.le_of_ble_eq_true rfl⟩ rfl rfl dX1_foldIn_90 rfl rfl ?_
    show At_ v g 3 h43 M 0 0 93 [(0, v_R (some a0)), (1, v_R x1)] []
    refine a_aload_n X dX1_foldIn_93 rfl ?_
    refine a_dup X dX1_foldIn_94 rfl ?_
    obtain ⟨k44, hm⟩ := i_c hm
    refine a_getI X 1 10 rfl k44 (by decide) rfl fl_X1_100 dX1_foldIn_95 ?_
    refine a_iconst (x := 1) X dX1_foldIn_98 (by decide) ?_
    refine a_iadd X dX1_foldIn_99 ?_
    obtain ⟨h45, eh45, hm⟩ := i_d hm
    refine a_putI X 1 10 false rfl k44 (by decide) rfl rfl (fun q => by cases q) rfl rfl fl_X1_100 dX1_foldIn_100 ?_
    rw [← eh45]
    exact a_vret X hF ⟨Option.some.inj hm, rfl⟩ (by decide) dX1_foldIn_103
def j_X1_foldIn_2 (a0 : Nat) (rec_2 : Hpx → Option Nat → Int32 → Option (Hpx)) (h : Hpx) (x1 : Option Nat) (x2 : Int32) : Option (Hpx) :=
  (if h_k h a0 = 2 then
  (if (h_I h a0 10) ≤ x2 then
  j_X1_foldIn_68 a0 h x1
  else (h_R h a0 6).bind fun a23 =>
  (if h_k h a23 = 9 then
  (if (nI (h_n h a23)) ≤ x2 then
  j_X1_foldIn_68 a0 h x1
  else (if in_b x2 (h_n h a23) = true then
  (h_R h a23 x2.toNatClampNeg).bind fun a27 =>
  (if h_k h a27 = 1 then
  x1.bind fun a29 =>
  (if h_k h a29 = 1 then
  (if (h_I h a27 4) = (h_I h a29 4) then
  (if (h_I h a29 2) ≤ (h_I h a27 2) then
  some h
  else (f_X0_become h a27 x1).bind fun h34 =>
  some h34)
  else rec_2 h x1 (x2 + (1 : Int32))) else none) else none) else none)) else none)) else none)
set_option maxHeartbeats 4000000 in
theorem q_X1_foldIn_2 {v : Evx} {g : Gvx} {M : Msx} {h' : Hpx} (X : Cx_ v g cX1_foldIn 3 RX1 "foldIn" (none) rm_X1_foldIn) (a0 : Nat) (hF : Fi_ v g rm_X1_foldIn (none) h' M) (rec_2 : Hpx → Option Nat → Int32 → Option (Hpx)) (hr_2 : ∀ (h : Hpx) (x1 : Option Nat) (x2 : Int32), rec_2 h x1 x2 = some h' → At_ v g 3 h M 0 0 2 [(0, v_R (some a0)), (1, v_R x1), (2, v_I x2)] []) (h : Hpx) (x1 : Option Nat) (x2 : Int32) (hm : j_X1_foldIn_2 a0 rec_2 h x1 x2 = some h') : At_ v g 3 h M 0 0 2 [(0, v_R (some a0)), (1, v_R x1), (2, v_I x2)] [] := by
  unfold j_X1_foldIn_2 at hm
  refine a_iload_n X dX1_foldIn_2 rfl ?_
  refine a_aload_n X dX1_foldIn_3 rfl ?_
  obtain ⟨k21, hm⟩ := i_c hm
  refine a_getI X 1 10 rfl k21 (by decide) rfl fl_X1_100 dX1_foldIn_4 ?_
  refine a_icmp_ge (tgt := 68) X dX1_foldIn_7 (by decide) hm (fun c22 hm => ?_) (fun c22 hm => ?_)
  · refine a_pick (lv' := [(0, v_R (some a0)), (1, v_R x1)]) [0, 1] rfl ?_
    exact q_X1_foldIn_68 X a0 hF h x1 hm
  · refine a_iload_n X dX1_foldIn_10 rfl ?_
    refine a_aload_n X dX1_foldIn_11 rfl ?_
    refine a_getR X 1 6 rfl k21 (by decide) rfl fl_X1_42 dX1_foldIn_12 ?_
    obtain ⟨a23, ea23, hm⟩ := i_b hm
    obtain ⟨k24, hm⟩ := i_c hm
    refine a_alen X 3 ea23 k24 (by decide) rfl dX1_foldIn_15 ?_
    refine a_icmp_ge (tgt := 68) X dX1_foldIn_16 (by decide) hm (fun c25 hm => ?_) (fun c25 hm => ?_)
    · refine a_pick (lv' := [(0, v_R (some a0)), (1, v_R x1)]) [0, 1] rfl ?_
      exact q_X1_foldIn_68 X a0 hF h x1 hm
    · refine a_aload_n X dX1_foldIn_19 rfl ?_
      refine a_getR X 1 6 rfl k21 (by decide) rfl fl_X1_42 dX1_foldIn_20 ?_
      refine a_iload_n X dX1_foldIn_23 rfl ?_
      obtain ⟨b26, hm⟩ := i_c hm
      refine a_aald X 3 ea23 k24 (by decide) rfl b26 dX1_foldIn_24 ?_
      obtain ⟨a27, ea27, hm⟩ := i_b hm
      obtain ⟨k28, hm⟩ := i_c hm
      refine a_getI X 0 4 ea27 k28 (by decide) rfl fl_X1_103 dX1_foldIn_25 ?_
      refine a_aload_n X dX1_foldIn_28 rfl ?_
      obtain ⟨a29, ea29, hm⟩ := i_b hm
      obtain ⟨k30, hm⟩ := i_c hm
      refine a_getI X 0 4 ea29 k30 (by decide) rfl fl_X1_103 dX1_foldIn_29 ?_
      refine a_icmp_ne (tgt := 62) X dX1_foldIn_32 (by decide) hm (fun c31 hm => ?_) (fun c31 hm => ?_)
      · refine a_iinc (y := x2 + (1 : Int32)) (lv' := [(0, v_R (some a0)), (1, v_R x1), (2, v_I (x2 + (1 : Int32)))]) X dX1_foldIn_62 rfl rfl (by decide) rfl ?_
        refine a_goto (tgt := 2) X dX1_foldIn_65 (by decide) ?_
        exact hr_2 h x1 (x2 + (1 : Int32)) hm
      · refine a_aload_n X dX1_foldIn_35 rfl ?_
        refine a_getR X 1 6 rfl k21 (by decide) rfl fl_X1_42 dX1_foldIn_36 ?_
        refine a_iload_n X dX1_foldIn_39 rfl ?_
        refine a_aald X 3 ea23 k24 (by decide) rfl b26 dX1_foldIn_40 ?_
        refine a_getI X 0 2 ea27 k28 (by decide) rfl fl_X1_106 dX1_foldIn_41 ?_
        refine a_aload_n X dX1_foldIn_44 rfl ?_
        refine a_getI X 0 2 ea29 k30 (by decide) rfl fl_X1_106 dX1_foldIn_45 ?_
        refine a_icmp_ge (tgt := 61) X dX1_foldIn_48 (by decide) hm (fun c32 hm => ?_) (fun c32 hm => ?_)
        · exact a_vret X hF ⟨Option.some.inj hm, rfl⟩ (by decide) dX1_foldIn_61
        · refine a_aload_n X dX1_foldIn_51 rfl ?_
          refine a_getR X 1 6 rfl k21 (by decide) rfl fl_X1_42 dX1_foldIn_52 ?_
          refine a_iload_n X dX1_foldIn_55 rfl ?_
          refine a_aald X 3 ea23 k24 (by decide) rfl b26 dX1_foldIn_56 ?_
          refine a_aload_n X dX1_foldIn_57 rfl ?_
          obtain ⟨h34, q33, hm⟩ := i_b hm
          refine a_callV (k' := 0) (n' := 0) (st := []) X (c_X0_become q33) yv_X0_become ml_X1_93 ea27 (Or.inl k28) ⟨by decide, by decide, by decide, by decide, Nat.le_of_ble_eq_true rfl⟩ rfl rfl dX1_foldIn_58 rfl rfl ?_
          show At_ v g 3 h34 M 0 0 61 [(0, v_R (some a0)), (1, v_R x1), (2, v_I x2)] []
          exact a_vret X hF ⟨Option.some.inj hm, rfl⟩ (by decide) dX1_foldIn_61
def l_X1_foldIn_2 (a0 : Nat) (n : Nat) : Hpx → Option Nat → Int32 → Option (Hpx) := lp_ (fun rec_2 => j_X1_foldIn_2 a0 rec_2) (fun _ _ _ => none) n
theorem ql_X1_foldIn_2 {v : Evx} {g : Gvx} {M : Msx} {h' : Hpx} (X : Cx_ v g cX1_foldIn 3 RX1 "foldIn" (none) rm_X1_foldIn) (a0 : Nat) (hF : Fi_ v g rm_X1_foldIn (none) h' M) : ∀ (n : Nat) (h : Hpx) (x1 : Option Nat) (x2 : Int32), l_X1_foldIn_2 a0 n h x1 x2 = some h' → At_ v g 3 h M 0 0 2 [(0, v_R (some a0)), (1, v_R x1), (2, v_I x2)] [] := by
  intro n
  induction n with
  | zero => intro h x1 x2 hm; cases hm
  | succ n ih =>
    intro h x1 x2 hm
    exact q_X1_foldIn_2 X a0 hF (l_X1_foldIn_2 a0 n) ih h x1 x2 hm
def f_X1_foldIn (h : Hpx) (a0 : Nat) (x1 : Option Nat) : Option (Hpx) :=
  l_X1_foldIn_2 a0 70 h x1 (0 : Int32)
set_option maxHeartbeats 4000000 in
theorem q_X1_foldIn_0 {v : Evx} {g : Gvx} {M : Msx} {h' : Hpx} (X : Cx_ v g cX1_foldIn 3 RX1 "foldIn" (none) rm_X1_foldIn) (a0 : Nat) (hF : Fi_ v g rm_X1_foldIn (none) h' M) (h : Hpx) (x1 : Option Nat) (hm : f_X1_foldIn h a0 x1 = some h') : At_ v g 3 h M 0 0 0 [(0, v_R (some a0)), (1, v_R x1)] [] := by
  unfold f_X1_foldIn at hm
  refine a_iconst (x := 0) X dX1_foldIn_0 (by decide) ?_
  refine a_istore_n (lv' := [(0, v_R (some a0)), (1, v_R x1), (2, v_I (0 : Int32))]) X dX1_foldIn_1 (by decide) rfl ?_
  exact ql_X1_foldIn_2 X a0 hF 70 h x1 (0 : Int32) hm
theorem c_X1_foldIn {l : Launch} {g : Gvx} {h : Hpx} {M : Msx} {h' : Hpx} {a0 : Nat} {x1 : Option Nat} (hm : f_X1_foldIn h a0 x1 = some h') : Mt_ l g yX1_foldIn cX1_foldIn 3 (none) rm_X1_foldIn [v_R (some a0), v_R x1] h M (none) h' M := mt_of (by decide) (Nat.le_of_ble_eq_true rfl) (fun v _ X hF => q_X1_foldIn_0 X a0 hF h x1 hm)
theorem yv_X1_foldIn : Yv_ yX1_foldIn cX1_foldIn 3 (none) 1 1 := ⟨rfl, by decide, ⟨by decide, by decide, by decide +kernel⟩, co_X1_foldIn, im_X1_foldIn, se_X1_foldIn, ini_X1⟩

abbrev rm_X1_takeEntry : Room := { frames := 3, cells := 0, slots := 0, locals := 82 }
def j_X1_takeEntry_31 (a0 : Nat) (rec_31 : Hpx → Option Nat → Int32 → Option (Hpx × Int32)) (h : Hpx) (x1 : Option Nat) (x2 : Int32) : Option (Hpx × Int32) :=
  (if h_k h a0 = 2 then
  (if (h_I h a0 10) ≤ x2 then
  b_d (s_I h a0 10 ((h_I h a0 10) - (1 : Int32))) fun h29 =>
  (h_R h29 a0 6).bind fun a30 =>
  (if h_k h29 a30 = 9 then
  (if in_b (h_I h29 a0 10) (h_n h29 a30) = true then
  x1.bind fun a33 =>
  (if h_k h29 a33 = 1 then
  b_d (s_R h29 a30 (h_I h29 a0 10).toNatClampNeg x1) fun h35 =>
  c_l (f_X1_keep h35 a0 x1) fun h37 r38 =>
  (if r38 = 0 ∨ r38 = 1 then
  some (h37, r38) else none) else none) else none) else none)
  else (h_R h a0 6).bind fun a40 =>
  (if h_k h a40 = 9 then
  (if in_b x2 (h_n h a40) = true then
  (if in_b (x2 - (1 : Int32)) (h_n h a40) = true then
  (h_R h a40 x2.toNatClampNeg).bind fun a44 =>
  (if h_k h a44 = 1 then
  b_d (s_R h a40 (x2 - (1 : Int32)).toNatClampNeg (h_R h a40 x2.toNatClampNeg)) fun h46 =>
  rec_31 h46 x1 (x2 + (1 : Int32)) else none) else none) else none) else none)) else none)
set_option maxHeartbeats 4000000 in
theorem q_X1_takeEntry_31 {v : Evx} {g : Gvx} {M : Msx} {h' : Hpx} {r : Int32} (X : Cx_ v g cX1_takeEntry 3 RX1 "takeEntry" ((some .boolean)) rm_X1_takeEntry) (a0 : Nat) (hF : Fi_ v g rm_X1_takeEntry (some (v_I r)) h' M) (rec_31 : Hpx → Option Nat → Int32 → Option (Hpx × Int32)) (hr_31 : ∀ (h : Hpx) (x1 : Option Nat) (x2 : Int32), rec_31 h x1 x2 = some (h', r) → At_ v g 3 h M 0 0 31 [(0, v_R (some a0)), (1, v_R x1), (2, v_I x2)] []) (h : Hpx) (x1 : Option Nat) (x2 : Int32) (hm : j_X1_takeEntry_31 a0 rec_31 h x1 x2 = some (h', r)) : At_ v g 3 h M 0 0 31 [(0, v_R (some a0)), (1, v_R x1), (2, v_I x2)] [] := by
  unfold j_X1_takeEntry_31 at hm
  refine a_iload_n X dX1_takeEntry_31 rfl ?_
  refine a_aload_n X dX1_takeEntry_32 rfl ?_
  obtain ⟨k27, hm⟩ := i_c hm
  refine a_getI X 1 10 rfl k27 (by decide) rfl fl_X1_100 dX1_takeEntry_33 ?_
  refine a_icmp_ge (tgt := 59) X dX1_takeEntry_36 (by decide) hm (fun c28 hm => ?_) (fun c28 hm => ?_)
  · refine a_aload_n X dX1_takeEntry_59 rfl ?_
    refine a_dup X dX1_takeEntry_60 rfl ?_
    refine a_getI X 1 10 rfl k27 (by decide) rfl fl_X1_100 dX1_takeEntry_61 ?_
    refine a_iconst (x := 1) X dX1_takeEntry_64 (by decide) ?_
    refine a_isub X dX1_takeEntry_65 ?_
    obtain ⟨h29, eh29, hm⟩ := i_d hm
    refine a_putI X 1 10 false rfl k27 (by decide) rfl rfl (fun q => by cases q) rfl rfl fl_X1_100 dX1_takeEntry_66 ?_
    rw [← eh29]
    refine a_aload_n X dX1_takeEntry_69 rfl ?_
    refine a_getR X 1 6 rfl (kk_I eh29 k27) (by decide) rfl fl_X1_42 dX1_takeEntry_70 ?_
    refine a_aload_n X dX1_takeEntry_73 rfl ?_
    refine a_getI X 1 10 rfl (kk_I eh29 k27) (by decide) rfl fl_X1_100 dX1_takeEntry_74 ?_
    refine a_aload_n X dX1_takeEntry_77 rfl ?_
    obtain ⟨a30, ea30, hm⟩ := i_b hm
    obtain ⟨k31, hm⟩ := i_c hm
    obtain ⟨b32, hm⟩ := i_c hm
    obtain ⟨a33, ea33, hm⟩ := i_b hm
    obtain ⟨k34, hm⟩ := i_c hm
    obtain ⟨h35, eh35, hm⟩ := i_d hm
    refine a_aast X 3 0 ea30 ea33 k31 (by decide) k34 (by decide) rfl b32 dX1_takeEntry_78 ?_
    rw [← eh35]
    refine a_aload_n X dX1_takeEntry_79 rfl ?_
    refine a_aload_n X dX1_takeEntry_80 rfl ?_
    obtain ⟨h37, r38, q36, hm⟩ := i_l hm
    refine a_callV (k' := 0) (n' := 0) (st := []) X (c_X1_keep q36) yv_X1_keep ml_X1_107 rfl (Or.inl (kk_R eh35 (kk_I eh29 k27))) ⟨by decide, by decide, by decide, by decide, Nat.le_of_ble_eq_true rfl⟩ rfl rfl dX1_takeEntry_81 rfl rfl ?_
    show At_ v g 3 h37 M 0 0 84 [(0, v_R (some a0)), (1, v_R x1), (2, v_I x2)] [v_I r38]
    obtain ⟨b39, hm⟩ := i_c hm
    exact a_zret X hF b39 ⟨(Prod.mk.inj (Option.some.inj hm)).1, rfl, (Prod.mk.inj (Option.some.inj hm)).2⟩ (by decide) dX1_takeEntry_84
  · refine a_aload_n X dX1_takeEntry_39 rfl ?_
    refine a_getR X 1 6 rfl k27 (by decide) rfl fl_X1_42 dX1_takeEntry_40 ?_
    refine a_iload_n X dX1_takeEntry_43 rfl ?_
    refine a_iconst (x := 1) X dX1_takeEntry_44 (by decide) ?_
    refine a_isub X dX1_takeEntry_45 ?_
    refine a_aload_n X dX1_takeEntry_46 rfl ?_
    refine a_getR X 1 6 rfl k27 (by decide) rfl fl_X1_42 dX1_takeEntry_47 ?_
    refine a_iload_n X dX1_takeEntry_50 rfl ?_
    obtain ⟨a40, ea40, hm⟩ := i_b hm
    obtain ⟨k41, hm⟩ := i_c hm
    obtain ⟨b42, hm⟩ := i_c hm
    refine a_aald X 3 ea40 k41 (by decide) rfl b42 dX1_takeEntry_51 ?_
    obtain ⟨b43, hm⟩ := i_c hm
    obtain ⟨a44, ea44, hm⟩ := i_b hm
    obtain ⟨k45, hm⟩ := i_c hm
    obtain ⟨h46, eh46, hm⟩ := i_d hm
    refine a_aast X 3 0 ea40 ea44 k41 (by decide) k45 (by decide) rfl b43 dX1_takeEntry_52 ?_
    rw [← eh46]
    refine a_iinc (y := x2 + (1 : Int32)) (lv' := [(0, v_R (some a0)), (1, v_R x1), (2, v_I (x2 + (1 : Int32)))]) X dX1_takeEntry_53 rfl rfl (by decide) rfl ?_
    refine a_goto (tgt := 31) X dX1_takeEntry_56 (by decide) ?_
    exact hr_31 h46 x1 (x2 + (1 : Int32)) hm
def l_X1_takeEntry_31 (a0 : Nat) (n : Nat) : Hpx → Option Nat → Int32 → Option (Hpx × Int32) := lp_ (fun rec_31 => j_X1_takeEntry_31 a0 rec_31) (fun _ _ _ => none) n
theorem ql_X1_takeEntry_31 {v : Evx} {g : Gvx} {M : Msx} {h' : Hpx} {r : Int32} (X : Cx_ v g cX1_takeEntry 3 RX1 "takeEntry" ((some .boolean)) rm_X1_takeEntry) (a0 : Nat) (hF : Fi_ v g rm_X1_takeEntry (some (v_I r)) h' M) : ∀ (n : Nat) (h : Hpx) (x1 : Option Nat) (x2 : Int32), l_X1_takeEntry_31 a0 n h x1 x2 = some (h', r) → At_ v g 3 h M 0 0 31 [(0, v_R (some a0)), (1, v_R x1), (2, v_I x2)] [] := by
  intro n
  induction n with
  | zero => intro h x1 x2 hm; cases hm
  | succ n ih =>
    intro h x1 x2 hm
    exact q_X1_takeEntry_31 X a0 hF (l_X1_takeEntry_31 a0 n) ih h x1 x2 hm
def f_X1_takeEntry (h : Hpx) (a0 : Nat) : Option (Hpx × Int32) :=
  (if h_k h a0 = 2 then
  (if (h_I h a0 10) < (1 : Int32) then
  some (h, (0 : Int32))
  else (h_R h a0 6).bind fun a23 =>
  (if h_k h a23 = 9 then
  (if (h_I h a0 10) ≤ (nI (h_n h a23)) then
  (if in_b (0 : Int32) (h_n h a23) = true then
  l_X1_takeEntry_31 a0 70 h (h_R h a23 (0 : Int32).toNatClampNeg) (1 : Int32) else none)
  else some (h, (0 : Int32))) else none)) else none)
set_option maxHeartbeats 4000000 in
theorem q_X1_takeEntry_0 {v : Evx} {g : Gvx} {M : Msx} {h' : Hpx} {r : Int32} (X : Cx_ v g cX1_takeEntry 3 RX1 "takeEntry" ((some .boolean)) rm_X1_takeEntry) (a0 : Nat) (hF : Fi_ v g rm_X1_takeEntry (some (v_I r)) h' M) (h : Hpx) (hm : f_X1_takeEntry h a0 = some (h', r)) : At_ v g 3 h M 0 0 0 [(0, v_R (some a0))] [] := by
  unfold f_X1_takeEntry at hm
  refine a_aload_n X dX1_takeEntry_0 rfl ?_
  obtain ⟨k21, hm⟩ := i_c hm
  refine a_getI X 1 10 rfl k21 (by decide) rfl fl_X1_100 dX1_takeEntry_1 ?_
  refine a_iconst (x := 1) X dX1_takeEntry_4 (by decide) ?_
  refine a_icmp_lt (tgt := 20) X dX1_takeEntry_5 (by decide) hm (fun c22 hm => ?_) (fun c22 hm => ?_)
  · refine a_iconst (x := 0) X dX1_takeEntry_20 (by decide) ?_
    exact a_zret X hF (Or.inl rfl) ⟨(Prod.mk.inj (Option.some.inj hm)).1, rfl, (Prod.mk.inj (Option.some.inj hm)).2⟩ (by decide) dX1_takeEntry_21
  · refine a_aload_n X dX1_takeEntry_8 rfl ?_
    refine a_getI X 1 10 rfl k21 (by decide) rfl fl_X1_100 dX1_takeEntry_9 ?_
    refine a_aload_n X dX1_takeEntry_12 rfl ?_
    refine a_getR X 1 6 rfl k21 (by decide) rfl fl_X1_42 dX1_takeEntry_13 ?_
    obtain ⟨a23, ea23, hm⟩ := i_b hm
    obtain ⟨k24, hm⟩ := i_c hm
    refine a_alen X 3 ea23 k24 (by decide) rfl dX1_takeEntry_16 ?_
    refine a_icmp_le (tgt := 22) X dX1_takeEntry_17 (by decide) hm (fun c25 hm => ?_) (fun c25 hm => ?_)
    · refine a_aload_n X dX1_takeEntry_22 rfl ?_
      refine a_getR X 1 6 rfl k21 (by decide) rfl fl_X1_42 dX1_takeEntry_23 ?_
      refine a_iconst (x := 0) X dX1_takeEntry_26 (by decide) ?_
      obtain ⟨b26, hm⟩ := i_c hm
      refine a_aald X 3 ea23 k24 (by decide) rfl b26 dX1_takeEntry_27 ?_
      refine a_astore_n (lv' := [(0, v_R (some a0)), (1, v_R (h_R h a23 (0 : Int32).toNatClampNeg))]) X dX1_takeEntry_28 (by decide) rfl ?_
      refine a_iconst (x := 1) X dX1_takeEntry_29 (by decide) ?_
      refine a_istore_n (lv' := [(0, v_R (some a0)), (1, v_R (h_R h a23 (0 : Int32).toNatClampNeg)), (2, v_I (1 : Int32))]) X dX1_takeEntry_30 (by decide) rfl ?_
      exact ql_X1_takeEntry_31 X a0 hF 70 h (h_R h a23 (0 : Int32).toNatClampNeg) (1 : Int32) hm
    · refine a_iconst (x := 0) X dX1_takeEntry_20 (by decide) ?_
      exact a_zret X hF (Or.inl rfl) ⟨(Prod.mk.inj (Option.some.inj hm)).1, rfl, (Prod.mk.inj (Option.some.inj hm)).2⟩ (by decide) dX1_takeEntry_21
theorem c_X1_takeEntry {l : Launch} {g : Gvx} {h : Hpx} {M : Msx} {h' : Hpx} {r : Int32} {a0 : Nat} (hm : f_X1_takeEntry h a0 = some (h', r)) : Mt_ l g yX1_takeEntry cX1_takeEntry 3 ((some .boolean)) rm_X1_takeEntry [v_R (some a0)] h M (some (v_I r)) h' M := mt_of (by decide) (Nat.le_of_ble_eq_true rfl) (fun v _ X hF => q_X1_takeEntry_0 X a0 hF h hm)
theorem yv_X1_takeEntry : Yv_ yX1_takeEntry cX1_takeEntry 3 ((some .boolean)) 0 1 := ⟨rfl, by decide, ⟨by decide, by decide, by decide +kernel⟩, co_X1_takeEntry, im_X1_takeEntry, se_X1_takeEntry, ini_X1⟩

abbrev rm_X2_init : Room := { frames := 2, cells := 141, slots := 1114, locals := 32 }
def j_X2_init_24 (a0 : Nat) (rec_24 : Hpx → Int32 → Int32 → Option (Hpx)) (h : Hpx) (x2 : Int32) (x3 : Int32) : Option (Hpx) :=
  (if x2 ≤ x3 then
  some h
  else (if h_k h a0 = 3 then
  b_d (h_z h) fun z31 =>
  b_d (h_new h 1 0) fun h32 =>
  (f_X0_init h32 z31).bind fun h34 =>
  (h_R h a0 2).bind fun a35 =>
  (if h_k h34 a35 = 9 then
  (if in_b x3 (h_n h34 a35) = true then
  (if h_k h34 z31 = 1 then
  b_d (s_R h34 a35 x3.toNatClampNeg (some z31)) fun h39 =>
  rec_24 h39 x2 (x3 + (1 : Int32)) else none) else none) else none) else none))
set_option maxHeartbeats 4000000 in
theorem q_X2_init_24 {v : Evx} {g : Gvx} {M : Msx} {h' : Hpx} (X : Cx_ v g cX2_init 4 RX2 "<init>" (none) rm_X2_init) (a0 : Nat) (hF : Fi_ v g rm_X2_init (none) h' M) (kc_ nc_ : Nat) (hkn_ : kc_ + 2 ≤ rm_X2_init.cells ∧ nc_ + 15 ≤ rm_X2_init.slots) (rec_24 : Hpx → Int32 → Int32 → Option (Hpx)) (hr_24 : ∀ (h : Hpx) (x2 : Int32) (x3 : Int32), rec_24 h x2 x3 = some h' → At_ v g 4 h M (kc_ + 2) (nc_ + 15) 24 [(0, v_R (some a0)), (2, v_I x2), (3, v_I x3)] []) (h : Hpx) (x2 : Int32) (x3 : Int32) (hm : j_X2_init_24 a0 rec_24 h x2 x3 = some h') : At_ v g 4 h M kc_ nc_ 24 [(0, v_R (some a0)), (2, v_I x2), (3, v_I x3)] [] := by
  unfold j_X2_init_24 at hm
  refine a_iload_n X dX2_init_24 rfl ?_
  refine a_iload_n X dX2_init_25 rfl ?_
  refine a_icmp_ge (tgt := 48) X dX2_init_26 (by decide) hm (fun c29 hm => ?_) (fun c29 hm => ?_)
  · exact a_vret X hF ⟨Option.some.inj hm, rfl⟩ (by have := hkn_; dsimp only [rm_X2_init] at this ⊢; omega) dX2_init_48
  · refine a_aload_n X dX2_init_29 rfl ?_
    obtain ⟨k30, hm⟩ := i_c hm
    refine a_getR X 2 2 rfl k30 (by decide) rfl fl_X2_18 dX2_init_30 ?_
    refine a_iload_n X dX2_init_33 rfl ?_
    obtain ⟨z31, ez31, hm⟩ := i_d hm
    obtain ⟨h32, eh32, hm⟩ := i_d hm
    refine a_new (k' := kc_ + 1) (n' := nc_ + 7) X 0 (by decide) cl_X2_16 ib_X0 ini_X0 (show kc_ + 1 ≤ rm_X2_init.cells ∧ nc_ + 7 ≤ rm_X2_init.slots by have := hkn_; dsimp only [rm_X2_init] at this ⊢; omega) rfl rfl dX2_init_34 ?_
    rw [← eh32]
    rw [← ez31]
    refine a_dup X dX2_init_37 rfl ?_
    obtain ⟨h34, q33, hm⟩ := i_b hm
    refine a_callI (k' := kc_ + 2) (n' := nc_ + 15) (st := [v_R (some z31), v_I x3, v_R (h_R h a0 2)]) X (c_X0_init q33) yi_X0_init ml_X2_22 rfl ⟨by decide, by decide, by have := hkn_; dsimp only [rm_X2_init, rm_X0_init] at this ⊢; omega, by have := hkn_; dsimp only [rm_X2_init, rm_X0_init] at this ⊢; omega, Nat.le_of_ble_eq_true rfl⟩ rfl rfl dX2_init_38 rfl ?_
    show At_ v g 4 h34 M (kc_ + 2) (nc_ + 15) 41 [(0, v_R (some a0)), (2, v_I x2), (3, v_I x3)] [v_R (some z31), v_I x3, v_R (h_R h a0 2)]
    obtain ⟨a35, ea35, hm⟩ := i_b hm
    obtain ⟨k36, hm⟩ := i_c hm
    obtain ⟨b37, hm⟩ := i_c hm
    obtain ⟨k38, hm⟩ := i_c hm
    obtain ⟨h39, eh39, hm⟩ := i_d hm
    refine a_aast X 3 0 ea35 rfl k36 (by decide) k38 (by decide) rfl b37 dX2_init_41 ?_
    rw [← eh39]
    refine a_iinc (y := x3 + (1 : Int32)) (lv' := [(0, v_R (some a0)), (2, v_I x2), (3, v_I (x3 + (1 : Int32)))]) X dX2_init_42 rfl rfl (by decide) rfl ?_
    refine a_goto (tgt := 24) X dX2_init_45 (by decide) ?_
    exact hr_24 h39 x2 (x3 + (1 : Int32)) hm
def l_X2_init_24 (a0 : Nat) (n : Nat) : Hpx → Int32 → Int32 → Option (Hpx) := lp_ (fun rec_24 => j_X2_init_24 a0 rec_24) (fun _ _ _ => none) n
theorem ql_X2_init_24 {v : Evx} {g : Gvx} {M : Msx} {h' : Hpx} (X : Cx_ v g cX2_init 4 RX2 "<init>" (none) rm_X2_init) (a0 : Nat) (hF : Fi_ v g rm_X2_init (none) h' M) : ∀ (n kc_ nc_ : Nat) (hkn_ : kc_ + 2 * n ≤ rm_X2_init.cells ∧ nc_ + 15 * n ≤ rm_X2_init.slots) (h : Hpx) (x2 : Int32) (x3 : Int32), l_X2_init_24 a0 n h x2 x3 = some h' → At_ v g 4 h M kc_ nc_ 24 [(0, v_R (some a0)), (2, v_I x2), (3, v_I x3)] [] := by
  intro n
  induction n with
  | zero => intro kc_ nc_ hkn_ h x2 x3 hm; cases hm
  | succ n ih =>
    intro kc_ nc_ hkn_ h x2 x3 hm
    exact q_X2_init_24 X a0 hF kc_ nc_ (by dsimp only [rm_X2_init] at hkn_ ⊢; omega) (l_X2_init_24 a0 n) (ih (kc_ + 2) (nc_ + 15) (by dsimp only [rm_X2_init] at hkn_ ⊢; omega)) h x2 x3 hm
def f_X2_init (h : Hpx) (a0 : Nat) (x1 : Int32) (x2 : Int32) : Option (Hpx) :=
  (if h_k h a0 = 3 then
  b_d (s_I h a0 0 x1) fun h22 =>
  b_d (s_I h22 a0 1 x2) fun h23 =>
  b_d (h_z h23) fun z24 =>
  (if in_b x2 65 = true then
  b_d (h_new h23 9 x2.toNatClampNeg) fun h26 =>
  (if h_k h26 a0 = 3 then
  b_d (s_R h26 a0 2 (some z24)) fun h28 =>
  l_X2_init_24 a0 70 h28 x2 (0 : Int32) else none) else none) else none)
set_option maxHeartbeats 4000000 in
theorem q_X2_init_0 {v : Evx} {g : Gvx} {M : Msx} {h' : Hpx} (X : Cx_ v g cX2_init 4 RX2 "<init>" (none) rm_X2_init) (a0 : Nat) (hF : Fi_ v g rm_X2_init (none) h' M) (h : Hpx) (x1 : Int32) (x2 : Int32) (hm : f_X2_init h a0 x1 x2 = some h') : At_ v g 4 h M 0 0 0 [(0, v_R (some a0)), (1, v_I x1), (2, v_I x2)] [] := by
  unfold f_X2_init at hm
  refine a_aload_n X dX2_init_0 rfl ?_
  refine a_objInit X ml_X2_1 ⟨by decide, Nat.le_of_ble_eq_true rfl⟩ dX2_init_1 ?_
  refine a_aload_n X dX2_init_4 rfl ?_
  refine a_iload_n X dX2_init_5 rfl ?_
  obtain ⟨k21, hm⟩ := i_c hm
  obtain ⟨h22, eh22, hm⟩ := i_d hm
  refine a_putI X 2 0 true rfl k21 (by decide) rfl rfl (fun _ => ⟨rfl, rfl⟩) rfl rfl fl_X2_7 dX2_init_6 ?_
  rw [← eh22]
  refine a_aload_n X dX2_init_9 rfl ?_
  refine a_iload_n X dX2_init_10 rfl ?_
  obtain ⟨h23, eh23, hm⟩ := i_d hm
  refine a_putI X 2 1 true rfl (kk_I eh22 k21) (by decide) rfl rfl (fun _ => ⟨rfl, rfl⟩) rfl rfl fl_X2_13 dX2_init_11 ?_
  rw [← eh23]
  refine a_aload_n X dX2_init_14 rfl ?_
  refine a_iload_n X dX2_init_15 rfl ?_
  obtain ⟨z24, ez24, hm⟩ := i_d hm
  obtain ⟨b25, hm⟩ := i_c hm
  obtain ⟨h26, eh26, hm⟩ := i_d hm
  refine a_newR (cap := 64) (k' := 1) (n' := 64) X 3 (by decide) rfl cl_X2_16 X.2.2.2.2.2.2.2.2.2.2.2.1 b25 (by decide) (by decide) rfl rfl dX2_init_16 ?_
  rw [← eh26]
  rw [← ez24]
  obtain ⟨k27, hm⟩ := i_c hm
  obtain ⟨h28, eh28, hm⟩ := i_d hm
  refine a_putR X 2 2 true rfl k27 (by decide) rfl rfl (fun _ => ⟨rfl, rfl⟩) rfl fl_X2_18 dX2_init_19 ?_
  rw [← eh28]
  refine a_iconst (x := 0) X dX2_init_22 (by decide) ?_
  refine a_istore_n (lv' := [(0, v_R (some a0)), (1, v_I x1), (2, v_I x2), (3, v_I (0 : Int32))]) X dX2_init_23 (by decide) rfl ?_
  refine a_pick (lv' := [(0, v_R (some a0)), (2, v_I x2), (3, v_I (0 : Int32))]) [0, 2, 3] rfl ?_
  exact ql_X2_init_24 X a0 hF 70 1 64 (by decide) h28 x2 (0 : Int32) hm
theorem c_X2_init {l : Launch} {g : Gvx} {h : Hpx} {M : Msx} {h' : Hpx} {a0 : Nat} {x1 : Int32} {x2 : Int32} (hm : f_X2_init h a0 x1 x2 = some h') : Mt_ l g yX2_init cX2_init 4 (none) rm_X2_init [v_R (some a0), v_I x1, v_I x2] h M (none) h' M := mt_of (by decide) (Nat.le_of_ble_eq_true rfl) (fun v _ X hF => q_X2_init_0 X a0 hF h x1 x2 hm)
theorem yi_X2_init : Yi_ yX2_init cX2_init 4 2 := ⟨rfl, ⟨by decide, by decide, by decide +kernel⟩, co_X2_init, im_X2_init, ini_X2⟩

abbrev rm_X2_isLive : Room := { frames := 0, cells := 0, slots := 0, locals := 0 }
def f_X2_isLive (h : Hpx) (a0 : Nat) : Option (Int32) :=
  (if h_k h a0 = 3 then
  (if (h_I h a0 6) = 0 then
  (if (h_I h a0 5) = 0 then
  some (1 : Int32)
  else some (0 : Int32))
  else some (0 : Int32)) else none)
set_option maxHeartbeats 4000000 in
theorem q_X2_isLive_0 {v : Evx} {g : Gvx} {M : Msx} {r : Int32} (X : Cx_ v g cX2_isLive 1 RX2 "isLive" ((some .boolean)) rm_X2_isLive) (h : Hpx) (a0 : Nat) (hF : Fi_ v g rm_X2_isLive (some (v_I r)) h M) (hm : f_X2_isLive h a0 = some r) : At_ v g 1 h M 0 0 0 [(0, v_R (some a0))] [] := by
  unfold f_X2_isLive at hm
  refine a_aload_n X dX2_isLive_0 rfl ?_
  obtain ⟨k21, hm⟩ := i_c hm
  refine a_getI X 2 6 rfl k21 (by decide) rfl fl_X2_23 dX2_isLive_1 ?_
  refine a_if_ne (tgt := 18) X dX2_isLive_4 (by decide) hm (fun c22 hm => ?_) (fun c22 hm => ?_)
  · refine a_iconst (x := 0) X dX2_isLive_18 (by decide) ?_
    exact a_zret X hF (Or.inl rfl) ⟨rfl, rfl, Option.some.inj hm⟩ (by decide) dX2_isLive_19
  · refine a_aload_n X dX2_isLive_7 rfl ?_
    refine a_getI X 2 5 rfl k21 (by decide) rfl fl_X2_27 dX2_isLive_8 ?_
    refine a_if_ne (tgt := 18) X dX2_isLive_11 (by decide) hm (fun c23 hm => ?_) (fun c23 hm => ?_)
    · refine a_iconst (x := 0) X dX2_isLive_18 (by decide) ?_
      exact a_zret X hF (Or.inl rfl) ⟨rfl, rfl, Option.some.inj hm⟩ (by decide) dX2_isLive_19
    · refine a_iconst (x := 1) X dX2_isLive_14 (by decide) ?_
      refine a_goto (tgt := 19) X dX2_isLive_15 (by decide) ?_
      exact a_zret X hF (Or.inr rfl) ⟨rfl, rfl, Option.some.inj hm⟩ (by decide) dX2_isLive_19
theorem c_X2_isLive {l : Launch} {g : Gvx} {h : Hpx} {M : Msx} {r : Int32} {a0 : Nat} (hm : f_X2_isLive h a0 = some r) : Mt_ l g yX2_isLive cX2_isLive 1 ((some .boolean)) rm_X2_isLive [v_R (some a0)] h M (some (v_I r)) h M := mt_of (by decide) (Nat.le_of_ble_eq_true rfl) (fun v _ X hF => q_X2_isLive_0 X h a0 hF hm)
theorem yv_X2_isLive : Yv_ yX2_isLive cX2_isLive 1 ((some .boolean)) 0 2 := ⟨rfl, by decide, ⟨by decide, by decide, by decide +kernel⟩, co_X2_isLive, im_X2_isLive, se_X2_isLive, ini_X2⟩

abbrev rm_X2_slotOf : Room := { frames := 0, cells := 0, slots := 0, locals := 0 }
def j_X2_slotOf_37 (h : Hpx) (a0 : Nat) (x1 : Int32) (y0 : Int32) : Option (Option Nat) :=
  (if y0 = 0 then
  some none
  else (if h_k h a0 = 3 then
  (h_R h a0 2).bind fun a28 =>
  (if h_k h a28 = 9 then
  (if in_b (x1 &&& ((h_I h a0 1) - (1 : Int32))) (h_n h a28) = true then
  some (h_R h a28 (x1 &&& ((h_I h a0 1) - (1 : Int32))).toNatClampNeg) else none) else none) else none))
set_option maxHeartbeats 4000000 in
theorem q_X2_slotOf_37 {v : Evx} {g : Gvx} {M : Msx} {r : Option Nat} (X : Cx_ v g cX2_slotOf 3 RX2 "slotOf" ((some (.object "RingPost$Message"))) rm_X2_slotOf) (h : Hpx) (a0 : Nat) (hF : Fi_ v g rm_X2_slotOf (some (v_R r)) h M) (x1 : Int32) (y0 : Int32) (hm : j_X2_slotOf_37 h a0 x1 y0 = some r) : At_ v g 3 h M 0 0 37 [(0, v_R (some a0)), (1, v_I x1)] [v_I y0] := by
  unfold j_X2_slotOf_37 at hm
  refine a_istore_n (lv' := [(0, v_R (some a0)), (1, v_I x1), (2, v_I y0)]) X dX2_slotOf_37 (by decide) rfl ?_
  refine a_iload_n X dX2_slotOf_38 rfl ?_
  refine a_if_eq (tgt := 58) X dX2_slotOf_39 (by decide) hm (fun c26 hm => ?_) (fun c26 hm => ?_)
  · refine a_null X dX2_slotOf_58 ?_
    exact a_aret _ X hF ⟨rfl, rfl, Option.some.inj hm⟩ (by decide) dX2_slotOf_59
  · refine a_aload_n X dX2_slotOf_42 rfl ?_
    obtain ⟨k27, hm⟩ := i_c hm
    refine a_getR X 2 2 rfl k27 (by decide) rfl fl_X2_18 dX2_slotOf_43 ?_
    refine a_iload_n X dX2_slotOf_46 rfl ?_
    refine a_aload_n X dX2_slotOf_47 rfl ?_
    refine a_getI X 2 1 rfl k27 (by decide) rfl fl_X2_13 dX2_slotOf_48 ?_
    refine a_iconst (x := 1) X dX2_slotOf_51 (by decide) ?_
    refine a_isub X dX2_slotOf_52 ?_
    refine a_iand X dX2_slotOf_53 ?_
    obtain ⟨a28, ea28, hm⟩ := i_b hm
    obtain ⟨k29, hm⟩ := i_c hm
    obtain ⟨b30, hm⟩ := i_c hm
    refine a_aald X 3 ea28 k29 (by decide) rfl b30 dX2_slotOf_54 ?_
    refine a_goto (tgt := 59) X dX2_slotOf_55 (by decide) ?_
    exact a_aret _ X hF ⟨rfl, rfl, Option.some.inj hm⟩ (by decide) dX2_slotOf_59
def j_X2_slotOf_36 (h : Hpx) (a0 : Nat) (x1 : Int32) : Option (Option Nat) :=
  j_X2_slotOf_37 h a0 x1 (0 : Int32)
set_option maxHeartbeats 4000000 in
theorem q_X2_slotOf_36 {v : Evx} {g : Gvx} {M : Msx} {r : Option Nat} (X : Cx_ v g cX2_slotOf 3 RX2 "slotOf" ((some (.object "RingPost$Message"))) rm_X2_slotOf) (h : Hpx) (a0 : Nat) (hF : Fi_ v g rm_X2_slotOf (some (v_R r)) h M) (x1 : Int32) (hm : j_X2_slotOf_36 h a0 x1 = some r) : At_ v g 3 h M 0 0 36 [(0, v_R (some a0)), (1, v_I x1)] [] := by
  unfold j_X2_slotOf_36 at hm
  refine a_iconst (x := 0) X dX2_slotOf_36 (by decide) ?_
  exact q_X2_slotOf_37 X h a0 hF x1 (0 : Int32) hm
def f_X2_slotOf (h : Hpx) (a0 : Nat) (x1 : Int32) : Option (Option Nat) :=
  (if h_k h a0 = 3 then
  (if (h_I h a0 6) = 0 then
  (if x1 < 0 then
  j_X2_slotOf_36 h a0 x1
  else (if (h_I h a0 3) ≤ x1 then
  j_X2_slotOf_36 h a0 x1
  else (if x1 < ((h_I h a0 3) - (h_I h a0 1)) then
  j_X2_slotOf_36 h a0 x1
  else j_X2_slotOf_37 h a0 x1 (1 : Int32))))
  else j_X2_slotOf_36 h a0 x1) else none)
set_option maxHeartbeats 4000000 in
theorem q_X2_slotOf_0 {v : Evx} {g : Gvx} {M : Msx} {r : Option Nat} (X : Cx_ v g cX2_slotOf 3 RX2 "slotOf" ((some (.object "RingPost$Message"))) rm_X2_slotOf) (h : Hpx) (a0 : Nat) (hF : Fi_ v g rm_X2_slotOf (some (v_R r)) h M) (x1 : Int32) (hm : f_X2_slotOf h a0 x1 = some r) : At_ v g 3 h M 0 0 0 [(0, v_R (some a0)), (1, v_I x1)] [] := by
  unfold f_X2_slotOf at hm
  refine a_aload_n X dX2_slotOf_0 rfl ?_
  obtain ⟨k21, hm⟩ := i_c hm
  refine a_getI X 2 6 rfl k21 (by decide) rfl fl_X2_23 dX2_slotOf_1 ?_
  refine a_if_ne (tgt := 36) X dX2_slotOf_4 (by decide) hm (fun c22 hm => ?_) (fun c22 hm => ?_)
  · exact q_X2_slotOf_36 X h a0 hF x1 hm
  · refine a_iload_n X dX2_slotOf_7 rfl ?_
    refine a_if_lt (tgt := 36) X dX2_slotOf_8 (by decide) hm (fun c23 hm => ?_) (fun c23 hm => ?_)
    · exact q_X2_slotOf_36 X h a0 hF x1 hm
    · refine a_iload_n X dX2_slotOf_11 rfl ?_
      refine a_aload_n X dX2_slotOf_12 rfl ?_
      refine a_getI X 2 3 rfl k21 (by decide) rfl fl_X2_30 dX2_slotOf_13 ?_
      refine a_icmp_ge (tgt := 36) X dX2_slotOf_16 (by decide) hm (fun c24 hm => ?_) (fun c24 hm => ?_)
      · exact q_X2_slotOf_36 X h a0 hF x1 hm
      · refine a_iload_n X dX2_slotOf_19 rfl ?_
        refine a_aload_n X dX2_slotOf_20 rfl ?_
        refine a_getI X 2 3 rfl k21 (by decide) rfl fl_X2_30 dX2_slotOf_21 ?_
        refine a_aload_n X dX2_slotOf_24 rfl ?_
        refine a_getI X 2 1 rfl k21 (by decide) rfl fl_X2_13 dX2_slotOf_25 ?_
        refine a_isub X dX2_slotOf_28 ?_
        refine a_icmp_lt (tgt := 36) X dX2_slotOf_29 (by decide) hm (fun c25 hm => ?_) (fun c25 hm => ?_)
        · exact q_X2_slotOf_36 X h a0 hF x1 hm
        · refine a_iconst (x := 1) X dX2_slotOf_32 (by decide) ?_
          refine a_goto (tgt := 37) X dX2_slotOf_33 (by decide) ?_
          exact q_X2_slotOf_37 X h a0 hF x1 (1 : Int32) hm
theorem c_X2_slotOf {l : Launch} {g : Gvx} {h : Hpx} {M : Msx} {r : Option Nat} {a0 : Nat} {x1 : Int32} (hm : f_X2_slotOf h a0 x1 = some r) : Mt_ l g yX2_slotOf cX2_slotOf 3 ((some (.object "RingPost$Message"))) rm_X2_slotOf [v_R (some a0), v_I x1] h M (some (v_R r)) h M := mt_of (by decide) (Nat.le_of_ble_eq_true rfl) (fun v _ X hF => q_X2_slotOf_0 X h a0 hF x1 hm)
theorem yv_X2_slotOf : Yv_ yX2_slotOf cX2_slotOf 3 ((some (.object "RingPost$Message"))) 1 2 := ⟨rfl, by decide, ⟨by decide, by decide, by decide +kernel⟩, co_X2_slotOf, im_X2_slotOf, se_X2_slotOf, ini_X2⟩

abbrev rm_X2_openSlot : Room := { frames := 1, cells := 0, slots := 0, locals := 22 }
def f_X2_openSlot (h : Hpx) (a0 : Nat) (x1 : Int32) : Option (Option Nat) :=
  (if h_k h a0 = 3 then
  (f_X2_slotOf h a0 x1).bind fun r23 =>
  (if r23 = none then
  some none
  else r23.bind fun a25 =>
  (if h_k h a25 = 1 then
  (if (h_I h a25 6) = 0 then
  some none
  else some r23) else none)) else none)
set_option maxHeartbeats 4000000 in
theorem q_X2_openSlot_0 {v : Evx} {g : Gvx} {M : Msx} {r : Option Nat} (X : Cx_ v g cX2_openSlot 3 RX2 "openSlot" ((some (.object "RingPost$Message"))) rm_X2_openSlot) (h : Hpx) (a0 : Nat) (hF : Fi_ v g rm_X2_openSlot (some (v_R r)) h M) (x1 : Int32) (hm : f_X2_openSlot h a0 x1 = some r) : At_ v g 3 h M 0 0 0 [(0, v_R (some a0)), (1, v_I x1)] [] := by
  unfold f_X2_openSlot at hm
  refine a_aload_n X dX2_openSlot_0 rfl ?_
  refine a_iload_n X dX2_openSlot_1 rfl ?_
  obtain ⟨k21, hm⟩ := i_c hm
  obtain ⟨r23, q22, hm⟩ := i_b hm
  refine a_callV (k' := 0) (n' := 0) (st := []) X (c_X2_slotOf q22) yv_X2_slotOf ml_X2_33 rfl (Or.inl k21) ⟨by decide, by decide, by decide, by decide, Nat.le_of_ble_eq_true rfl⟩ rfl rfl dX2_openSlot_2 rfl rfl ?_
  show At_ v g 3 h M 0 0 5 [(0, v_R (some a0)), (1, v_I x1)] [v_R r23]
  refine a_astore_n (lv' := [(0, v_R (some a0)), (1, v_I x1), (2, v_R r23)]) X dX2_openSlot_5 (by decide) rfl ?_
  refine a_aload_n X dX2_openSlot_6 rfl ?_
  refine a_ifnull (tgt := 21) X dX2_openSlot_7 (by decide) hm (fun c24 hm => ?_) (fun c24 hm => ?_)
  · refine a_null X dX2_openSlot_21 ?_
    exact a_aret _ X hF ⟨rfl, rfl, Option.some.inj hm⟩ (by decide) dX2_openSlot_22
  · refine a_aload_n X dX2_openSlot_10 rfl ?_
    obtain ⟨a25, ea25, hm⟩ := i_b hm
    obtain ⟨k26, hm⟩ := i_c hm
    refine a_getI X 0 6 ea25 k26 (by decide) rfl fl_X2_37 dX2_openSlot_11 ?_
    refine a_if_eq (tgt := 21) X dX2_openSlot_14 (by decide) hm (fun c27 hm => ?_) (fun c27 hm => ?_)
    · refine a_null X dX2_openSlot_21 ?_
      exact a_aret _ X hF ⟨rfl, rfl, Option.some.inj hm⟩ (by decide) dX2_openSlot_22
    · refine a_aload_n X dX2_openSlot_17 rfl ?_
      refine a_goto (tgt := 22) X dX2_openSlot_18 (by decide) ?_
      exact a_aret _ X hF ⟨rfl, rfl, Option.some.inj hm⟩ (by decide) dX2_openSlot_22
theorem c_X2_openSlot {l : Launch} {g : Gvx} {h : Hpx} {M : Msx} {r : Option Nat} {a0 : Nat} {x1 : Int32} (hm : f_X2_openSlot h a0 x1 = some r) : Mt_ l g yX2_openSlot cX2_openSlot 3 ((some (.object "RingPost$Message"))) rm_X2_openSlot [v_R (some a0), v_I x1] h M (some (v_R r)) h M := mt_of (by decide) (Nat.le_of_ble_eq_true rfl) (fun v _ X hF => q_X2_openSlot_0 X h a0 hF x1 hm)
theorem yv_X2_openSlot : Yv_ yX2_openSlot cX2_openSlot 3 ((some (.object "RingPost$Message"))) 1 2 := ⟨rfl, by decide, ⟨by decide, by decide, by decide +kernel⟩, co_X2_openSlot, im_X2_openSlot, se_X2_openSlot, ini_X2⟩

abbrev rm_X2_isPublished : Room := { frames := 1, cells := 0, slots := 0, locals := 22 }
def f_X2_isPublished (h : Hpx) (a0 : Nat) (x1 : Int32) : Option (Int32) :=
  (if h_k h a0 = 3 then
  (f_X2_slotOf h a0 x1).bind fun r23 =>
  (if r23 = none then
  some (0 : Int32)
  else r23.bind fun a25 =>
  (if h_k h a25 = 1 then
  (if (h_I h a25 6) = 0 then
  some (1 : Int32)
  else some (0 : Int32)) else none)) else none)
set_option maxHeartbeats 4000000 in
theorem q_X2_isPublished_0 {v : Evx} {g : Gvx} {M : Msx} {r : Int32} (X : Cx_ v g cX2_isPublished 3 RX2 "isPublished" ((some .boolean)) rm_X2_isPublished) (h : Hpx) (a0 : Nat) (hF : Fi_ v g rm_X2_isPublished (some (v_I r)) h M) (x1 : Int32) (hm : f_X2_isPublished h a0 x1 = some r) : At_ v g 3 h M 0 0 0 [(0, v_R (some a0)), (1, v_I x1)] [] := by
  unfold f_X2_isPublished at hm
  refine a_aload_n X dX2_isPublished_0 rfl ?_
  refine a_iload_n X dX2_isPublished_1 rfl ?_
  obtain ⟨k21, hm⟩ := i_c hm
  obtain ⟨r23, q22, hm⟩ := i_b hm
  refine a_callV (k' := 0) (n' := 0) (st := []) X (c_X2_slotOf q22) yv_X2_slotOf ml_X2_33 rfl (Or.inl k21) ⟨by decide, by decide, by decide, by decide, Nat.le_of_ble_eq_true rfl⟩ rfl rfl dX2_isPublished_2 rfl rfl ?_
  show At_ v g 3 h M 0 0 5 [(0, v_R (some a0)), (1, v_I x1)] [v_R r23]
  refine a_astore_n (lv' := [(0, v_R (some a0)), (1, v_I x1), (2, v_R r23)]) X dX2_isPublished_5 (by decide) rfl ?_
  refine a_aload_n X dX2_isPublished_6 rfl ?_
  refine a_ifnull (tgt := 21) X dX2_isPublished_7 (by decide) hm (fun c24 hm => ?_) (fun c24 hm => ?_)
  · refine a_iconst (x := 0) X dX2_isPublished_21 (by decide) ?_
    exact a_zret X hF (Or.inl rfl) ⟨rfl, rfl, Option.some.inj hm⟩ (by decide) dX2_isPublished_22
  · refine a_aload_n X dX2_isPublished_10 rfl ?_
    obtain ⟨a25, ea25, hm⟩ := i_b hm
    obtain ⟨k26, hm⟩ := i_c hm
    refine a_getI X 0 6 ea25 k26 (by decide) rfl fl_X2_37 dX2_isPublished_11 ?_
    refine a_if_ne (tgt := 21) X dX2_isPublished_14 (by decide) hm (fun c27 hm => ?_) (fun c27 hm => ?_)
    · refine a_iconst (x := 0) X dX2_isPublished_21 (by decide) ?_
      exact a_zret X hF (Or.inl rfl) ⟨rfl, rfl, Option.some.inj hm⟩ (by decide) dX2_isPublished_22
    · refine a_iconst (x := 1) X dX2_isPublished_17 (by decide) ?_
      refine a_goto (tgt := 22) X dX2_isPublished_18 (by decide) ?_
      exact a_zret X hF (Or.inr rfl) ⟨rfl, rfl, Option.some.inj hm⟩ (by decide) dX2_isPublished_22
theorem c_X2_isPublished {l : Launch} {g : Gvx} {h : Hpx} {M : Msx} {r : Int32} {a0 : Nat} {x1 : Int32} (hm : f_X2_isPublished h a0 x1 = some r) : Mt_ l g yX2_isPublished cX2_isPublished 3 ((some .boolean)) rm_X2_isPublished [v_R (some a0), v_I x1] h M (some (v_I r)) h M := mt_of (by decide) (Nat.le_of_ble_eq_true rfl) (fun v _ X hF => q_X2_isPublished_0 X h a0 hF x1 hm)
theorem yv_X2_isPublished : Yv_ yX2_isPublished cX2_isPublished 3 ((some .boolean)) 1 2 := ⟨rfl, by decide, ⟨by decide, by decide, by decide +kernel⟩, co_X2_isPublished, im_X2_isPublished, se_X2_isPublished, ini_X2⟩

abbrev rm_X2_countOpen : Room := { frames := 0, cells := 0, slots := 0, locals := 0 }
def j_X2_countOpen_4 (h : Hpx) (a0 : Nat) (rec_4 : Int32 → Int32 → Option (Int32)) (x1 : Int32) (x2 : Int32) : Option (Int32) :=
  (if h_k h a0 = 3 then
  (h_R h a0 2).bind fun a22 =>
  (if h_k h a22 = 9 then
  (if (nI (h_n h a22)) ≤ x2 then
  some x1
  else (if in_b x2 (h_n h a22) = true then
  (h_R h a22 x2.toNatClampNeg).bind fun a26 =>
  (if h_k h a26 = 1 then
  (if (h_I h a26 6) = 0 then
  rec_4 x1 (x2 + (1 : Int32))
  else rec_4 (x1 + (1 : Int32)) (x2 + (1 : Int32))) else none) else none)) else none) else none)
set_option maxHeartbeats 4000000 in
theorem q_X2_countOpen_4 {v : Evx} {g : Gvx} {M : Msx} {r : Int32} (X : Cx_ v g cX2_countOpen 3 RX2 "countOpen" ((some .int)) rm_X2_countOpen) (h : Hpx) (a0 : Nat) (hF : Fi_ v g rm_X2_countOpen (some (v_I r)) h M) (rec_4 : Int32 → Int32 → Option (Int32)) (hr_4 : ∀ (x1 : Int32) (x2 : Int32), rec_4 x1 x2 = some r → At_ v g 3 h M 0 0 4 [(0, v_R (some a0)), (1, v_I x1), (2, v_I x2)] []) (x1 : Int32) (x2 : Int32) (hm : j_X2_countOpen_4 h a0 rec_4 x1 x2 = some r) : At_ v g 3 h M 0 0 4 [(0, v_R (some a0)), (1, v_I x1), (2, v_I x2)] [] := by
  unfold j_X2_countOpen_4 at hm
  refine a_iload_n X dX2_countOpen_4 rfl ?_
  refine a_aload_n X dX2_countOpen_5 rfl ?_
  obtain ⟨k21, hm⟩ := i_c hm
  refine a_getR X 2 2 rfl k21 (by decide) rfl fl_X2_18 dX2_countOpen_6 ?_
  obtain ⟨a22, ea22, hm⟩ := i_b hm
  obtain ⟨k23, hm⟩ := i_c hm
  refine a_alen X 3 ea22 k23 (by decide) rfl dX2_countOpen_9 ?_
  refine a_icmp_ge (tgt := 34) X dX2_countOpen_10 (by decide) hm (fun c24 hm => ?_) (fun c24 hm => ?_)
  · refine a_iload_n X dX2_countOpen_34 rfl ?_
    exact a_iret X hF ⟨rfl, rfl, Option.some.inj hm⟩ (by decide) dX2_countOpen_35
  · refine a_aload_n X dX2_countOpen_13 rfl ?_
    refine a_getR X 2 2 rfl k21 (by decide) rfl fl_X2_18 dX2_countOpen_14 ?_
    refine a_iload_n X dX2_countOpen_17 rfl ?_
    obtain ⟨b25, hm⟩ := i_c hm
    refine a_aald X 3 ea22 k23 (by decide) rfl b25 dX2_countOpen_18 ?_
    obtain ⟨a26, ea26, hm⟩ := i_b hm
    obtain ⟨k27, hm⟩ := i_c hm
    refine a_getI X 0 6 ea26 k27 (by decide) rfl fl_X2_37 dX2_countOpen_19 ?_
    refine a_if_eq (tgt := 28) X dX2_countOpen_22 (by decide) hm (fun c28 hm => ?_) (fun c28 hm => ?_)
    · refine a_iinc (y := x2 + (1 : Int32)) (lv' := [(0, v_R (some a0)), (1, v_I x1), (2, v_I (x2 + (1 : Int32)))]) X dX2_countOpen_28 rfl rfl (by decide) rfl ?_
      refine a_goto (tgt := 4) X dX2_countOpen_31 (by decide) ?_
      exact hr_4 x1 (x2 + (1 : Int32)) hm
    · refine a_iinc (y := x1 + (1 : Int32)) (lv' := [(0, v_R (some a0)), (1, v_I (x1 + (1 : Int32))), (2, v_I x2)]) X dX2_countOpen_25 rfl rfl (by decide) rfl ?_
      refine a_iinc (y := x2 + (1 : Int32)) (lv' := [(0, v_R (some a0)), (1, v_I (x1 + (1 : Int32))), (2, v_I (x2 + (1 : Int32)))]) X dX2_countOpen_28 rfl rfl (by decide) rfl ?_
      refine a_goto (tgt := 4) X dX2_countOpen_31 (by decide) ?_
      exact hr_4 (x1 + (1 : Int32)) (x2 + (1 : Int32)) hm
def l_X2_countOpen_4 (h : Hpx) (a0 : Nat) (n : Nat) : Int32 → Int32 → Option (Int32) := lp_ (fun rec_4 => j_X2_countOpen_4 h a0 rec_4) (fun _ _ => none) n
theorem ql_X2_countOpen_4 {v : Evx} {g : Gvx} {M : Msx} {r : Int32} (X : Cx_ v g cX2_countOpen 3 RX2 "countOpen" ((some .int)) rm_X2_countOpen) (h : Hpx) (a0 : Nat) (hF : Fi_ v g rm_X2_countOpen (some (v_I r)) h M) : ∀ (n : Nat) (x1 : Int32) (x2 : Int32), l_X2_countOpen_4 h a0 n x1 x2 = some r → At_ v g 3 h M 0 0 4 [(0, v_R (some a0)), (1, v_I x1), (2, v_I x2)] [] := by
  intro n
  induction n with
  | zero => intro x1 x2 hm; cases hm
  | succ n ih =>
    intro x1 x2 hm
    exact q_X2_countOpen_4 X h a0 hF (l_X2_countOpen_4 h a0 n) ih x1 x2 hm
def f_X2_countOpen (h : Hpx) (a0 : Nat) : Option (Int32) :=
  l_X2_countOpen_4 h a0 70 (0 : Int32) (0 : Int32)
set_option maxHeartbeats 4000000 in
theorem q_X2_countOpen_0 {v : Evx} {g : Gvx} {M : Msx} {r : Int32} (X : Cx_ v g cX2_countOpen 3 RX2 "countOpen" ((some .int)) rm_X2_countOpen) (h : Hpx) (a0 : Nat) (hF : Fi_ v g rm_X2_countOpen (some (v_I r)) h M) (hm : f_X2_countOpen h a0 = some r) : At_ v g 3 h M 0 0 0 [(0, v_R (some a0))] [] := by
  unfold f_X2_countOpen at hm
  refine a_iconst (x := 0) X dX2_countOpen_0 (by decide) ?_
  refine a_istore_n (lv' := [(0, v_R (some a0)), (1, v_I (0 : Int32))]) X dX2_countOpen_1 (by decide) rfl ?_
  refine a_iconst (x := 0) X dX2_countOpen_2 (by decide) ?_
  refine a_istore_n (lv' := [(0, v_R (some a0)), (1, v_I (0 : Int32)), (2, v_I (0 : Int32))]) X dX2_countOpen_3 (by decide) rfl ?_
  exact ql_X2_countOpen_4 X h a0 hF 70 (0 : Int32) (0 : Int32) hm
theorem c_X2_countOpen {l : Launch} {g : Gvx} {h : Hpx} {M : Msx} {r : Int32} {a0 : Nat} (hm : f_X2_countOpen h a0 = some r) : Mt_ l g yX2_countOpen cX2_countOpen 3 ((some .int)) rm_X2_countOpen [v_R (some a0)] h M (some (v_I r)) h M := mt_of (by decide) (Nat.le_of_ble_eq_true rfl) (fun v _ X hF => q_X2_countOpen_0 X h a0 hF hm)
theorem yv_X2_countOpen : Yv_ yX2_countOpen cX2_countOpen 3 ((some .int)) 0 2 := ⟨rfl, by decide, ⟨by decide, by decide, by decide +kernel⟩, co_X2_countOpen, im_X2_countOpen, se_X2_countOpen, ini_X2⟩

abbrev rm_X2_newestPublished : Room := { frames := 2, cells := 0, slots := 0, locals := 44 }
def j_X2_newestPublished_2 (h : Hpx) (a0 : Nat) (rec_2 : Int32 → Option (Int32)) (x1 : Int32) : Option (Int32) :=
  (if h_k h a0 = 3 then
  (if (h_I h a0 1) < x1 then
  some (-1 : Int32)
  else (f_X2_isPublished h a0 ((h_I h a0 3) - x1)).bind fun r24 =>
  (if r24 = 0 then
  rec_2 (x1 + (1 : Int32))
  else some ((h_I h a0 3) - x1))) else none)
set_option maxHeartbeats 4000000 in
theorem q_X2_newestPublished_2 {v : Evx} {g : Gvx} {M : Msx} {r : Int32} (X : Cx_ v g cX2_newestPublished 2 RX2 "newestPublished" ((some .int)) rm_X2_newestPublished) (h : Hpx) (a0 : Nat) (hF : Fi_ v g rm_X2_newestPublished (some (v_I r)) h M) (rec_2 : Int32 → Option (Int32)) (hr_2 : ∀ (x1 : Int32), rec_2 x1 = some r → At_ v g 2 h M 0 0 2 [(0, v_R (some a0)), (1, v_I x1)] []) (x1 : Int32) (hm : j_X2_newestPublished_2 h a0 rec_2 x1 = some r) : At_ v g 2 h M 0 0 2 [(0, v_R (some a0)), (1, v_I x1)] [] := by
  unfold j_X2_newestPublished_2 at hm
  refine a_iload_n X dX2_newestPublished_2 rfl ?_
  refine a_aload_n X dX2_newestPublished_3 rfl ?_
  obtain ⟨k21, hm⟩ := i_c hm
  refine a_getI X 2 1 rfl k21 (by decide) rfl fl_X2_13 dX2_newestPublished_4 ?_
  refine a_icmp_gt (tgt := 36) X dX2_newestPublished_7 (by decide) hm (fun c22 hm => ?_) (fun c22 hm => ?_)
  · refine a_iconst (x := -1) X dX2_newestPublished_36 (by decide) ?_
    exact a_iret X hF ⟨rfl, rfl, Option.some.inj hm⟩ (by decide) dX2_newestPublished_37
  · refine a_aload_n X dX2_newestPublished_10 rfl ?_
    refine a_aload_n X dX2_newestPublished_11 rfl ?_
    refine a_getI X 2 3 rfl k21 (by decide) rfl fl_X2_30 dX2_newestPublished_12 ?_
    refine a_iload_n X dX2_newestPublished_15 rfl ?_
    refine a_isub X dX2_newestPublished_16 ?_
    obtain ⟨r24, q23, hm⟩ := i_b hm
    refine a_callV (k' := 0) (n' := 0) (st := []) X (c_X2_isPublished q23) yv_X2_isPublished ml_X2_40 rfl (Or.inl k21) ⟨by decide, by decide, by decide, by decide, Nat.le_of_ble_eq_true rfl⟩ rfl rfl dX2_newestPublished_17 rfl rfl ?_
    show At_ v g 2 h M 0 0 20 [(0, v_R (some a0)), (1, v_I x1)] [v_I r24]
    refine a_if_eq (tgt := 30) X dX2_newestPublished_20 (by decide) hm (fun c25 hm => ?_) (fun c25 hm => ?_)
    · refine a_iinc (y := x1 + (1 : Int32)) (lv' := [(0, v_R (some a0)), (1, v_I (x1 + (1 : Int32)))]) X dX2_newestPublished_30 rfl rfl (by decide) rfl ?_
      refine a_goto (tgt := 2) X dX2_newestPublished_33 (by decide) ?_
      exact hr_2 (x1 + (1 : Int32)) hm
    · refine a_aload_n X dX2_newestPublished_23 rfl ?_
      refine a_getI X 2 3 rfl k21 (by decide) rfl fl_X2_30 dX2_newestPublished_24 ?_
      refine a_iload_n X dX2_newestPublished_27 rfl ?_
      refine a_isub X dX2_newestPublished_28 ?_
      exact a_iret X hF ⟨rfl, rfl, Option.some.inj hm⟩ (by decide) dX2_newestPublished_29
def l_X2_newestPublished_2 (h : Hpx) (a0 : Nat) (n : Nat) : Int32 → Option (Int32) := lp_ (fun rec_2 => j_X2_newestPublished_2 h a0 rec_2) (fun _ => none) n
theorem ql_X2_newestPublished_2 {v : Evx} {g : Gvx} {M : Msx} {r : Int32} (X : Cx_ v g cX2_newestPublished 2 RX2 "newestPublished" ((some .int)) rm_X2_newestPublished) (h : Hpx) (a0 : Nat) (hF : Fi_ v g rm_X2_newestPublished (some (v_I r)) h M) : ∀ (n : Nat) (x1 : Int32), l_X2_newestPublished_2 h a0 n x1 = some r → At_ v g 2 h M 0 0 2 [(0, v_R (some a0)), (1, v_I x1)] [] := by
  intro n
  induction n with
  | zero => intro x1 hm; cases hm
  | succ n ih =>
    intro x1 hm
    exact q_X2_newestPublished_2 X h a0 hF (l_X2_newestPublished_2 h a0 n) ih x1 hm
def f_X2_newestPublished (h : Hpx) (a0 : Nat) : Option (Int32) :=
  l_X2_newestPublished_2 h a0 70 (1 : Int32)
set_option maxHeartbeats 4000000 in
theorem q_X2_newestPublished_0 {v : Evx} {g : Gvx} {M : Msx} {r : Int32} (X : Cx_ v g cX2_newestPublished 2 RX2 "newestPublished" ((some .int)) rm_X2_newestPublished) (h : Hpx) (a0 : Nat) (hF : Fi_ v g rm_X2_newestPublished (some (v_I r)) h M) (hm : f_X2_newestPublished h a0 = some r) : At_ v g 2 h M 0 0 0 [(0, v_R (some a0))] [] := by
  unfold f_X2_newestPublished at hm
  refine a_iconst (x := 1) X dX2_newestPublished_0 (by decide) ?_
  refine a_istore_n (lv' := [(0, v_R (some a0)), (1, v_I (1 : Int32))]) X dX2_newestPublished_1 (by decide) rfl ?_
  exact ql_X2_newestPublished_2 X h a0 hF 70 (1 : Int32) hm
theorem c_X2_newestPublished {l : Launch} {g : Gvx} {h : Hpx} {M : Msx} {r : Int32} {a0 : Nat} (hm : f_X2_newestPublished h a0 = some r) : Mt_ l g yX2_newestPublished cX2_newestPublished 2 ((some .int)) rm_X2_newestPublished [v_R (some a0)] h M (some (v_I r)) h M := mt_of (by decide) (Nat.le_of_ble_eq_true rfl) (fun v _ X hF => q_X2_newestPublished_0 X h a0 hF hm)
theorem yv_X2_newestPublished : Yv_ yX2_newestPublished cX2_newestPublished 2 ((some .int)) 0 2 := ⟨rfl, by decide, ⟨by decide, by decide, by decide +kernel⟩, co_X2_newestPublished, im_X2_newestPublished, se_X2_newestPublished, ini_X2⟩

abbrev rm_X2_newClaim : Room := { frames := 2, cells := 0, slots := 0, locals := 48 }
def f_X2_newClaim (h : Hpx) (a0 : Nat) (x1 : Int64) : Option (Hpx × Option Nat) :=
  (if h_k h a0 = 3 then
  (h_R h a0 2).bind fun a22 =>
  (if h_k h a22 = 9 then
  (if in_b ((h_I h a0 3) &&& ((h_I h a0 1) - (1 : Int32))) (h_n h a22) = true then
  (h_R h a22 ((h_I h a0 3) &&& ((h_I h a0 1) - (1 : Int32))).toNatClampNeg).bind fun a25 =>
  (if h_k h a25 = 1 then
  (f_X0_startOver h a25 (h_I h a0 0) (h_I h a0 3) x1).bind fun h28 =>
  (if h_k h28 a0 = 3 then
  b_d (s_I h28 a0 3 ((h_I h28 a0 3) + (1 : Int32))) fun h30 =>
  b_d (s_J h30 a0 4 x1) fun h31 =>
  some (h31, (h_R h a22 ((h_I h a0 3) &&& ((h_I h a0 1) - (1 : Int32))).toNatClampNeg)) else none) else none) else none) else none) else none)
set_option maxHeartbeats 4000000 in
theorem q_X2_newClaim_0 {v : Evx} {g : Gvx} {M : Msx} {h' : Hpx} {r : Option Nat} (X : Cx_ v g cX2_newClaim 4 RX2 "newClaim" ((some (.object "RingPost$Message"))) rm_X2_newClaim) (a0 : Nat) (hF : Fi_ v g rm_X2_newClaim (some (v_R r)) h' M) (h : Hpx) (x1 : Int64) (hm : f_X2_newClaim h a0 x1 = some (h', r)) : At_ v g 4 h M 0 0 0 [(0, v_R (some a0)), (1, v_J x1)] [] := by
  unfold f_X2_newClaim at hm
  refine a_aload_n X dX2_newClaim_0 rfl ?_
  obtain ⟨k21, hm⟩ := i_c hm
  refine a_getR X 2 2 rfl k21 (by decide) rfl fl_X2_18 dX2_newClaim_1 ?_
  refine a_aload_n X dX2_newClaim_4 rfl ?_
  refine a_getI X 2 3 rfl k21 (by decide) rfl fl_X2_30 dX2_newClaim_5 ?_
  refine a_aload_n X dX2_newClaim_8 rfl ?_
  refine a_getI X 2 1 rfl k21 (by decide) rfl fl_X2_13 dX2_newClaim_9 ?_
  refine a_iconst (x := 1) X dX2_newClaim_12 (by decide) ?_
  refine a_isub X dX2_newClaim_13 ?_
  refine a_iand X dX2_newClaim_14 ?_
  obtain ⟨a22, ea22, hm⟩ := i_b hm
  obtain ⟨k23, hm⟩ := i_c hm
  obtain ⟨b24, hm⟩ := i_c hm
  refine a_aald X 3 ea22 k23 (by decide) rfl b24 dX2_newClaim_15 ?_
  refine a_astore_n (lv' := [(0, v_R (some a0)), (1, v_J x1), (3, v_R (h_R h a22 ((h_I h a0 3) &&& ((h_I h a0 1) - (1 : Int32))).toNatClampNeg))]) X dX2_newClaim_16 (by decide) rfl ?_
  refine a_aload_n X dX2_newClaim_17 rfl ?_
  refine a_aload_n X dX2_newClaim_18 rfl ?_
  refine a_getI X 2 0 rfl k21 (by decide) rfl fl_X2_7 dX2_newClaim_19 ?_
  refine a_aload_n X dX2_newClaim_22 rfl ?_
  refine a_getI X 2 3 rfl k21 (by decide) rfl fl_X2_30 dX2_newClaim_23 ?_
  refine a_lload_n X dX2_newClaim_26 rfl ?_
  obtain ⟨a25, ea25, hm⟩ := i_b hm
  obtain ⟨k26, hm⟩ := i_c hm
  obtain ⟨h28, q27, hm⟩ := i_b hm
  refine a_callV (k' := 0) (n' := 0) (st := []) X (c_X0_startOver q27) yv_X0_startOver ml_X2_44 ea25 (Or.inl k26) ⟨by decide, by decide, by decide, by decide, Nat.le_of_ble_eq_true rfl⟩ rfl rfl dX2_newClaim_27 rfl rfl ?_
  show At_ v g 4 h28 M 0 0 30 [(0, v_R (some a0)), (1, v_J x1), (3, v_R (h_R h a22 ((h_I h a0 3) &&& ((h_I h a0 1) - (1 : Int32))).toNatClampNeg))] []
  refine a_aload_n X dX2_newClaim_30 rfl ?_
  refine a_dup X dX2_newClaim_31 rfl ?_
  obtain ⟨k29, hm⟩ := i_c hm
  refine a_getI X 2 3 rfl k29 (by decide) rfl fl_X2_30 dX2_newClaim_32 ?_
  refine a_iconst (x := 1) X dX2_newClaim_35 (by decide) ?_
  refine a_iadd X dX2_newClaim_36 ?_
  obtain ⟨h30, eh30, hm⟩ := i_d hm
  refine a_putI X 2 3 false rfl k29 (by decide) rfl rfl (fun q => by cases q) rfl rfl fl_X2_30 dX2_newClaim_37 ?_
  rw [← eh30]
  refine a_aload_n X dX2_newClaim_40 rfl ?_
  refine a_lload_n X dX2_newClaim_41 rfl ?_
  obtain ⟨h31, eh31, hm⟩ := i_d hm
  refine a_putJ X 2 4 false rfl (kk_I eh30 k29) (by decide) rfl rfl (fun q => by cases q) rfl rfl fl_X2_48 dX2_newClaim_42 ?_
  rw [← eh31]
  refine a_aload_n X dX2_newClaim_45 rfl ?_
  exact a_aret _ X hF ⟨(Prod.mk.inj (Option.some.inj hm)).1, rfl, (Prod.mk.inj (Option.some.inj hm)).2⟩ (by decide) dX2_newClaim_46
theorem c_X2_newClaim {l : Launch} {g : Gvx} {h : Hpx} {M : Msx} {h' : Hpx} {r : Option Nat} {a0 : Nat} {x1 : Int64} (hm : f_X2_newClaim h a0 x1 = some (h', r)) : Mt_ l g yX2_newClaim cX2_newClaim 4 ((some (.object "RingPost$Message"))) rm_X2_newClaim [v_R (some a0), v_J x1] h M (some (v_R r)) h' M := mt_of (by decide) (Nat.le_of_ble_eq_true rfl) (fun v _ X hF => q_X2_newClaim_0 X a0 hF h x1 hm)
theorem yv_X2_newClaim : Yv_ yX2_newClaim cX2_newClaim 4 ((some (.object "RingPost$Message"))) 1 2 := ⟨rfl, by decide, ⟨by decide, by decide, by decide +kernel⟩, co_X2_newClaim, im_X2_newClaim, se_X2_newClaim, ini_X2⟩

abbrev rm_J6_bitCount_0f7a4 : Room := { frames := 0, cells := 0, slots := 0, locals := 0 }
def f_J6_bitCount_0f7a4 (h : Hpx) (x0 : Int32) : Option (Int32) :=
  some ((((((((x0 - (((x0.toUInt32 >>> ((1 : Int32).toUInt32 &&& Int32.toUInt32 31)).toInt32) &&& (1431655765 : Int32))) &&& (858993459 : Int32)) + ((((x0 - (((x0.toUInt32 >>> ((1 : Int32).toUInt32 &&& Int32.toUInt32 31)).toInt32) &&& (1431655765 : Int32))).toUInt32 >>> ((2 : Int32).toUInt32 &&& Int32.toUInt32 31)).toInt32) &&& (858993459 : Int32))) + (((((x0 - (((x0.toUInt32 >>> ((1 : Int32).toUInt32 &&& Int32.toUInt32 31)).toInt32) &&& (1431655765 : Int32))) &&& (858993459 : Int32)) + ((((x0 - (((x0.toUInt32 >>> ((1 : Int32).toUInt32 &&& Int32.toUInt32 31)).toInt32) &&& (1431655765 : Int32))).toUInt32 >>> ((2 : Int32).toUInt32 &&& Int32.toUInt32 31)).toInt32) &&& (858993459 : Int32))).toUInt32 >>> ((4 : Int32).toUInt32 &&& Int32.toUInt32 31)).toInt32)) &&& (252645135 : Int32)) + (((((((x0 - (((x0.toUInt32 >>> ((1 : Int32).toUInt32 &&& Int32.toUInt32 31)).toInt32) &&& (1431655765 : Int32))) &&& (858993459 : Int32)) + ((((x0 - (((x0.toUInt32 >>> ((1 : Int32).toUInt32 &&& Int32.toUInt32 31)).toInt32) &&& (1431655765 : Int32))).toUInt32 >>> ((2 : Int32).toUInt32 &&& Int32.toUInt32 31)).toInt32) &&& (858993459 : Int32))) + (((((x0 - (((x0.toUInt32 >>> ((1 : Int32).toUInt32 &&& Int32.toUInt32 31)).toInt32) &&& (1431655765 : Int32))) &&& (858993459 : Int32)) + ((((x0 - (((x0.toUInt32 >>> ((1 : Int32).toUInt32 &&& Int32.toUInt32 31)).toInt32) &&& (1431655765 : Int32))).toUInt32 >>> ((2 : Int32).toUInt32 &&& Int32.toUInt32 31)).toInt32) &&& (858993459 : Int32))).toUInt32 >>> ((4 : Int32).toUInt32 &&& Int32.toUInt32 31)).toInt32)) &&& (252645135 : Int32)).toUInt32 >>> ((8 : Int32).toUInt32 &&& Int32.toUInt32 31)).toInt32)) + ((((((((x0 - (((x0.toUInt32 >>> ((1 : Int32).toUInt32 &&& Int32.toUInt32 31)).toInt32) &&& (1431655765 : Int32))) &&& (858993459 : Int32)) + ((((x0 - (((x0.toUInt32 >>> ((1 : Int32).toUInt32 &&& Int32.toUInt32 31)).toInt32) &&& (1431655765 : Int32))).toUInt32 >>> ((2 : Int32).toUInt32 &&& Int32.toUInt32 31)).toInt32) &&& (858993459 : Int32))) + (((((x0 - (((x0.toUInt32 >>> ((1 : Int32).toUInt32 &&& Int32.toUInt32 31)).toInt32) &&& (1431655765 : Int32))) &&& (858993459 : Int32)) + ((((x0 - (((x0.toUInt32 >>> ((1 : Int32).toUInt32 &&& Int32.toUInt32 31)).toInt32) &&& (1431655765 : Int32))).toUInt32 >>> ((2 : Int32).toUInt32 &&& Int32.toUInt32 31)).toInt32) &&& (858993459 : Int32))).toUInt32 >>> ((4 : Int32).toUInt32 &&& Int32.toUInt32 31)).toInt32)) &&& (252645135 : Int32)) + (((((((x0 - (((x0.toUInt32 >>> ((1 : Int32).toUInt32 &&& Int32.toUInt32 31)).toInt32) &&& (1431655765 : Int32))) &&& (858993459 : Int32)) + ((((x0 - (((x0.toUInt32 >>> ((1 : Int32).toUInt32 &&& Int32.toUInt32 31)).toInt32) &&& (1431655765 : Int32))).toUInt32 >>> ((2 : Int32).toUInt32 &&& Int32.toUInt32 31)).toInt32) &&& (858993459 : Int32))) + (((((x0 - (((x0.toUInt32 >>> ((1 : Int32).toUInt32 &&& Int32.toUInt32 31)).toInt32) &&& (1431655765 : Int32))) &&& (858993459 : Int32)) + ((((x0 - (((x0.toUInt32 >>> ((1 : Int32).toUInt32 &&& Int32.toUInt32 31)).toInt32) &&& (1431655765 : Int32))).toUInt32 >>> ((2 : Int32).toUInt32 &&& Int32.toUInt32 31)).toInt32) &&& (858993459 : Int32))).toUInt32 >>> ((4 : Int32).toUInt32 &&& Int32.toUInt32 31)).toInt32)) &&& (252645135 : Int32)).toUInt32 >>> ((8 : Int32).toUInt32 &&& Int32.toUInt32 31)).toInt32)).toUInt32 >>> ((16 : Int32).toUInt32 &&& Int32.toUInt32 31)).toInt32)) &&& (63 : Int32))
set_option maxHeartbeats 4000000 in
theorem q_J6_bitCount_0f7a4_0 {v : Evx} {g : Gvx} {M : Msx} {r : Int32} (X : Cx_ v g cJ6_bitCount_0f7a4 1 RJ6 "bitCount" ((some .int)) rm_J6_bitCount_0f7a4) (h : Hpx) (hF : Fi_ v g rm_J6_bitCount_0f7a4 (some (v_I r)) h M) (x0 : Int32) (hm : f_J6_bitCount_0f7a4 h x0 = some r) : At_ v g 1 h M 0 0 0 [(0, v_I x0)] [] := by
  unfold f_J6_bitCount_0f7a4 at hm
  refine a_iload_n X dJ6_bitCount_0f7a4_0 rfl ?_
  refine a_iload_n X dJ6_bitCount_0f7a4_1 rfl ?_
  refine a_iconst (x := 1) X dJ6_bitCount_0f7a4_2 (by decide) ?_
  refine a_iushr X dJ6_bitCount_0f7a4_3 ?_
  refine a_ldcw X cn_J6_265 dJ6_bitCount_0f7a4_4 ?_
  refine a_iand X dJ6_bitCount_0f7a4_7 ?_
  refine a_isub X dJ6_bitCount_0f7a4_8 ?_
  refine a_istore_n (lv' := [(0, v_I (x0 - (((x0.toUInt32 >>> ((1 : Int32).toUInt32 &&& Int32.toUInt32 31)).toInt32) &&& (1431655765 : Int32))))]) X dJ6_bitCount_0f7a4_9 (by decide) rfl ?_
  refine a_iload_n X dJ6_bitCount_0f7a4_10 rfl ?_
  refine a_ldcw X cn_J6_266 dJ6_bitCount_0f7a4_11 ?_
  refine a_iand X dJ6_bitCount_0f7a4_14 ?_
  refine a_iload_n X dJ6_bitCount_0f7a4_15 rfl ?_
  refine a_iconst (x := 2) X dJ6_bitCount_0f7a4_16 (by decide) ?_
  refine a_iushr X dJ6_bitCount_0f7a4_17 ?_
  refine a_ldcw X cn_J6_266 dJ6_bitCount_0f7a4_18 ?_
  refine a_iand X dJ6_bitCount_0f7a4_21 ?_
  refine a_iadd X dJ6_bitCount_0f7a4_22 ?_
  refine a_istore_n (lv' := [(0, v_I (((x0 - (((x0.toUInt32 >>> ((1 : Int32).toUInt32 &&& Int32.toUInt32 31)).toInt32) &&& (1431655765 : Int32))) &&& (858993459 : Int32)) + ((((x0 - (((x0.toUInt32 >>> ((1 : Int32).toUInt32 &&& Int32.toUInt32 31)).toInt32) &&& (1431655765 : Int32))).toUInt32 >>> ((2 : Int32).toUInt32 &&& Int32.toUInt32 31)).toInt32) &&& (858993459 : Int32))))]) X dJ6_bitCount_0f7a4_23 (by decide) rfl ?_
  refine a_iload_n X dJ6_bitCount_0f7a4_24 rfl ?_
  refine a_iload_n X dJ6_bitCount_0f7a4_25 rfl ?_
  refine a_iconst (x := 4) X dJ6_bitCount_0f7a4_26 (by decide) ?_
  refine a_iushr X dJ6_bitCount_0f7a4_27 ?_
  refine a_iadd X dJ6_bitCount_0f7a4_28 ?_
  refine a_ldcw X cn_J6_267 dJ6_bitCount_0f7a4_29 ?_
  refine a_iand X dJ6_bitCount_0f7a4_32 ?_
  refine a_istore_n (lv' := [(0, v_I (((((x0 - (((x0.toUInt32 >>> ((1 : Int32).toUInt32 &&& Int32.toUInt32 31)).toInt32) &&& (1431655765 : Int32))) &&& (858993459 : Int32)) + ((((x0 - (((x0.toUInt32 >>> ((1 : Int32).toUInt32 &&& Int32.toUInt32 31)).toInt32) &&& (1431655765 : Int32))).toUInt32 >>> ((2 : Int32).toUInt32 &&& Int32.toUInt32 31)).toInt32) &&& (858993459 : Int32))) + (((((x0 - (((x0.toUInt32 >>> ((1 : Int32).toUInt32 &&& Int32.toUInt32 31)).toInt32) &&& (1431655765 : Int32))) &&& (858993459 : Int32)) + ((((x0 - (((x0.toUInt32 >>> ((1 : Int32).toUInt32 &&& Int32.toUInt32 31)).toInt32) &&& (1431655765 : Int32))).toUInt32 >>> ((2 : Int32).toUInt32 &&& Int32.toUInt32 31)).toInt32) &&& (858993459 : Int32))).toUInt32 >>> ((4 : Int32).toUInt32 &&& Int32.toUInt32 31)).toInt32)) &&& (252645135 : Int32)))]) X dJ6_bitCount_0f7a4_33 (by decide) rfl ?_
  refine a_iload_n X dJ6_bitCount_0f7a4_34 rfl ?_
  refine a_iload_n X dJ6_bitCount_0f7a4_35 rfl ?_
  refine a_bipush (x := 8) X dJ6_bitCount_0f7a4_36 (by decide) ?_
  refine a_iushr X dJ6_bitCount_0f7a4_38 ?_
  refine a_iadd X dJ6_bitCount_0f7a4_39 ?_
  refine a_istore_n (lv' := [(0, v_I ((((((x0 - (((x0.toUInt32 >>> ((1 : Int32).toUInt32 &&& Int32.toUInt32 31)).toInt32) &&& (1431655765 : Int32))) &&& (858993459 : Int32)) + ((((x0 - (((x0.toUInt32 >>> ((1 : Int32).toUInt32 &&& Int32.toUInt32 31)).toInt32) &&& (1431655765 : Int32))).toUInt32 >>> ((2 : Int32).toUInt32 &&& Int32.toUInt32 31)).toInt32) &&& (858993459 : Int32))) + (((((x0 - (((x0.toUInt32 >>> ((1 : Int32).toUInt32 &&& Int32.toUInt32 31)).toInt32) &&& (1431655765 : Int32))) &&& (858993459 : Int32)) + ((((x0 - (((x0.toUInt32 >>> ((1 : Int32).toUInt32 &&& Int32.toUInt32 31)).toInt32) &&& (1431655765 : Int32))).toUInt32 >>> ((2 : Int32).toUInt32 &&& Int32.toUInt32 31)).toInt32) &&& (858993459 : Int32))).toUInt32 >>> ((4 : Int32).toUInt32 &&& Int32.toUInt32 31)).toInt32)) &&& (252645135 : Int32)) + (((((((x0 - (((x0.toUInt32 >>> ((1 : Int32).toUInt32 &&& Int32.toUInt32 31)).toInt32) &&& (1431655765 : Int32))) &&& (858993459 : Int32)) + ((((x0 - (((x0.toUInt32 >>> ((1 : Int32).toUInt32 &&& Int32.toUInt32 31)).toInt32) &&& (1431655765 : Int32))).toUInt32 >>> ((2 : Int32).toUInt32 &&& Int32.toUInt32 31)).toInt32) &&& (858993459 : Int32))) + (((((x0 - (((x0.toUInt32 >>> ((1 : Int32).toUInt32 &&& Int32.toUInt32 31)).toInt32) &&& (1431655765 : Int32))) &&& (858993459 : Int32)) + ((((x0 - (((x0.toUInt32 >>> ((1 : Int32).toUInt32 &&& Int32.toUInt32 31)).toInt32) &&& (1431655765 : Int32))).toUInt32 >>> ((2 : Int32).toUInt32 &&& Int32.toUInt32 31)).toInt32) &&& (858993459 : Int32))).toUInt32 >>> ((4 : Int32).toUInt32 &&& Int32.toUInt32 31)).toInt32)) &&& (252645135 : Int32)).toUInt32 >>> ((8 : Int32).toUInt32 &&& Int32.toUInt32 31)).toInt32)))]) X dJ6_bitCount_0f7a4_40 (by decide) rfl ?_
  refine a_iload_n X dJ6_bitCount_0f7a4_41 rfl ?_
  refine a_iload_n X dJ6_bitCount_0f7a4_42 rfl ?_
  refine a_bipush (x := 16) X dJ6_bitCount_0f7a4_43 (by decide) ?_
  refine a_iushr X dJ6_bitCount_0f7a4_45 ?_
  refine a_iadd X dJ6_bitCount_0f7a4_46 ?_
  refine a_istore_n (lv' := [(0, v_I (((((((x0 - (((x0.toUInt32 >>> ((1 : Int32).toUInt32 &&& Int32.toUInt32 31)).toInt32) &&& (1431655765 : Int32))) &&& (858993459 : Int32)) + ((((x0 - (((x0.toUInt32 >>> ((1 : Int32).toUInt32 &&& Int32.toUInt32 31)).toInt32) &&& (1431655765 : Int32))).toUInt32 >>> ((2 : Int32).toUInt32 &&& Int32.toUInt32 31)).toInt32) &&& (858993459 : Int32))) + (((((x0 - (((x0.toUInt32 >>> ((1 : Int32).toUInt32 &&& Int32.toUInt32 31)).toInt32) &&& (1431655765 : Int32))) &&& (858993459 : Int32)) + ((((x0 - (((x0.toUInt32 >>> ((1 : Int32).toUInt32 &&& Int32.toUInt32 31)).toInt32) &&& (1431655765 : Int32))).toUInt32 >>> ((2 : Int32).toUInt32 &&& Int32.toUInt32 31)).toInt32) &&& (858993459 : Int32))).toUInt32 >>> ((4 : Int32).toUInt32 &&& Int32.toUInt32 31)).toInt32)) &&& (252645135 : Int32)) + (((((((x0 - (((x0.toUInt32 >>> ((1 : Int32).toUInt32 &&& Int32.toUInt32 31)).toInt32) &&& (1431655765 : Int32))) &&& (858993459 : Int32)) + ((((x0 - (((x0.toUInt32 >>> ((1 : Int32).toUInt32 &&& Int32.toUInt32 31)).toInt32) &&& (1431655765 : Int32))).toUInt32 >>> ((2 : Int32).toUInt32 &&& Int32.toUInt32 31)).toInt32) &&& (858993459 : Int32))) + (((((x0 - (((x0.toUInt32 >>> ((1 : Int32).toUInt32 &&& Int32.toUInt32 31)).toInt32) &&& (1431655765 : Int32))) &&& (858993459 : Int32)) + ((((x0 - (((x0.toUInt32 >>> ((1 : Int32).toUInt32 &&& Int32.toUInt32 31)).toInt32) &&& (1431655765 : Int32))).toUInt32 >>> ((2 : Int32).toUInt32 &&& Int32.toUInt32 31)).toInt32) &&& (858993459 : Int32))).toUInt32 >>> ((4 : Int32).toUInt32 &&& Int32.toUInt32 31)).toInt32)) &&& (252645135 : Int32)).toUInt32 >>> ((8 : Int32).toUInt32 &&& Int32.toUInt32 31)).toInt32)) + ((((((((x0 - (((x0.toUInt32 >>> ((1 : Int32).toUInt32 &&& Int32.toUInt32 31)).toInt32) &&& (1431655765 : Int32))) &&& (858993459 : Int32)) + ((((x0 - (((x0.toUInt32 >>> ((1 : Int32).toUInt32 &&& Int32.toUInt32 31)).toInt32) &&& (1431655765 : Int32))).toUInt32 >>> ((2 : Int32).toUInt32 &&& Int32.toUInt32 31)).toInt32) &&& (858993459 : Int32))) + (((((x0 - (((x0.toUInt32 >>> ((1 : Int32).toUInt32 &&& Int32.toUInt32 31)).toInt32) &&& (1431655765 : Int32))) &&& (858993459 : Int32)) + ((((x0 - (((x0.toUInt32 >>> ((1 : Int32).toUInt32 &&& Int32.toUInt32 31)).toInt32) &&& (1431655765 : Int32))).toUInt32 >>> ((2 : Int32).toUInt32 &&& Int32.toUInt32 31)).toInt32) &&& (858993459 : Int32))).toUInt32 >>> ((4 : Int32).toUInt32 &&& Int32.toUInt32 31)).toInt32)) &&& (252645135 : Int32)) + (((((((x0 - (((x0.toUInt32 >>> ((1 : Int32).toUInt32 &&& Int32.toUInt32 31)).toInt32) &&& (1431655765 : Int32))) &&& (858993459 : Int32)) + ((((x0 - (((x0.toUInt32 >>> ((1 : Int32).toUInt32 &&& Int32.toUInt32 31)).toInt32) &&& (1431655765 : Int32))).toUInt32 >>> ((2 : Int32).toUInt32 &&& Int32.toUInt32 31)).toInt32) &&& (858993459 : Int32))) + (((((x0 - (((x0.toUInt32 >>> ((1 : Int32).toUInt32 &&& Int32.toUInt32 31)).toInt32) &&& (1431655765 : Int32))) &&& (858993459 : Int32)) + ((((x0 - (((x0.toUInt32 >>> ((1 : Int32).toUInt32 &&& Int32.toUInt32 31)).toInt32) &&& (1431655765 : Int32))).toUInt32 >>> ((2 : Int32).toUInt32 &&& Int32.toUInt32 31)).toInt32) &&& (858993459 : Int32))).toUInt32 >>> ((4 : Int32).toUInt32 &&& Int32.toUInt32 31)).toInt32)) &&& (252645135 : Int32)).toUInt32 >>> ((8 : Int32).toUInt32 &&& Int32.toUInt32 31)).toInt32)).toUInt32 >>> ((16 : Int32).toUInt32 &&& Int32.toUInt32 31)).toInt32)))]) X dJ6_bitCount_0f7a4_47 (by decide) rfl ?_
  refine a_iload_n X dJ6_bitCount_0f7a4_48 rfl ?_
  refine a_bipush (x := 63) X dJ6_bitCount_0f7a4_49 (by decide) ?_
  refine a_iand X dJ6_bitCount_0f7a4_51 ?_
  exact a_iret X hF ⟨rfl, rfl, Option.some.inj hm⟩ (by decide) dJ6_bitCount_0f7a4_52
theorem c_J6_bitCount_0f7a4 {l : Launch} {g : Gvx} {h : Hpx} {M : Msx} {r : Int32} {x0 : Int32} (hm : f_J6_bitCount_0f7a4 h x0 = some r) : Mt_ l g yJ6_bitCount_0f7a4 cJ6_bitCount_0f7a4 1 ((some .int)) rm_J6_bitCount_0f7a4 [v_I x0] h M (some (v_I r)) h M := mt_of (by decide) (Nat.le_of_ble_eq_true rfl) (fun v _ X hF => q_J6_bitCount_0f7a4_0 X h hF x0 hm)
theorem ys_J6_bitCount_0f7a4 : Ys_ yJ6_bitCount_0f7a4 cJ6_bitCount_0f7a4 1 ((some .int)) 1 := ⟨⟨by decide, by decide, by decide +kernel⟩, co_J6_bitCount_0f7a4, sta_J6_bitCount_0f7a4, ini_J6⟩
