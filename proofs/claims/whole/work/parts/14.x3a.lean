abbrev rm_X3_init : Room := { frames := 1, cells := 4, slots := 47, locals := 12 }
def f_X3_init (h : Hpx) (a0 : Nat) : Option (Hpx) :=
  b_d (h_z h) fun z21 =>
  (if in_b (8 : Int32) 9 = true then
  b_d (h_new h 10 (8 : Int32).toNatClampNeg) fun h23 =>
  (if h_k h23 a0 = 4 then
  b_d (s_R h23 a0 0 (some z21)) fun h25 =>
  b_d (h_z h25) fun z26 =>
  (if in_b (16 : Int32) 17 = true then
  b_d (h_new h25 11 (16 : Int32).toNatClampNeg) fun h28 =>
  (if h_k h28 a0 = 4 then
  b_d (s_R h28 a0 1 (some z26)) fun h30 =>
  b_d (h_z h30) fun z31 =>
  b_d (h_new h30 6 7) fun h32 =>
  (if h_k h32 a0 = 4 then
  b_d (s_R h32 a0 2 (some z31)) fun h34 =>
  b_d (h_z h34) fun z35 =>
  b_d (h_new h34 6 16) fun h36 =>
  (if h_k h36 a0 = 4 then
  b_d (s_R h36 a0 3 (some z35)) fun h38 =>
  b_d (s_I h38 a0 10 (-1 : Int32)) fun h39 =>
  some h39 else none) else none) else none) else none) else none) else none)
set_option maxHeartbeats 4000000 in
theorem q_X3_init_0 {v : Evx} {g : Gvx} {M : Msx} {h' : Hpx} (X : Cx_ v g cX3_init 1 RX3 "<init>" (none) rm_X3_init) (a0 : Nat) (hF : Fi_ v g rm_X3_init (none) h' M) (h : Hpx) (hm : f_X3_init h a0 = some h') : At_ v g 1 h M 0 0 0 [(0, v_R (some a0))] [] := by
  unfold f_X3_init at hm
  refine a_aload_n X dX3_init_0 rfl ?_
  refine a_objInit X ml_X3_1 ⟨by decide, Nat.le_of_ble_eq_true rfl⟩ dX3_init_1 ?_
  refine a_aload_n X dX3_init_4 rfl ?_
  refine a_bipush (x := 8) X dX3_init_5 (by decide) ?_
  obtain ⟨z21, ez21, hm⟩ := i_d hm
  obtain ⟨b22, hm⟩ := i_c hm
  obtain ⟨h23, eh23, hm⟩ := i_d hm
  refine a_newR (cap := 8) (k' := 1) (n' := 8) X 4 (by decide) rfl cl_X3_9 X.2.2.2.2.2.2.2.2.2.2.2.2.2 b22 (by decide) (by decide) rfl rfl dX3_init_7 ?_
  rw [← eh23]
  rw [← ez21]
  obtain ⟨k24, hm⟩ := i_c hm
  obtain ⟨h25, eh25, hm⟩ := i_d hm
  refine a_putR X 3 0 true rfl k24 (by decide) rfl rfl (fun _ => ⟨rfl, rfl⟩) rfl fl_X3_11 dX3_init_10 ?_
  rw [← eh25]
  refine a_aload_n X dX3_init_13 rfl ?_
  refine a_bipush (x := 16) X dX3_init_14 (by decide) ?_
  obtain ⟨z26, ez26, hm⟩ := i_d hm
  obtain ⟨b27, hm⟩ := i_c hm
  obtain ⟨h28, eh28, hm⟩ := i_d hm
  refine a_newR (cap := 16) (k' := 2) (n' := 24) X 5 (by decide) rfl cl_X3_15 X.2.2.2.2.2.2.2.2.2.2.2.2.1 b27 (by decide) (by decide) rfl rfl dX3_init_16 ?_
  rw [← eh28]
  rw [← ez26]
  obtain ⟨k29, hm⟩ := i_c hm
  obtain ⟨h30, eh30, hm⟩ := i_d hm
  refine a_putR X 3 1 true rfl k29 (by decide) rfl rfl (fun _ => ⟨rfl, rfl⟩) rfl fl_X3_17 dX3_init_19 ?_
  rw [← eh30]
  refine a_aload_n X dX3_init_22 rfl ?_
  refine a_bipush (x := 7) X dX3_init_23 (by decide) ?_
  obtain ⟨z31, ez31, hm⟩ := i_d hm
  obtain ⟨h32, eh32, hm⟩ := i_d hm
  refine a_newI (N := 7) (k' := 3) (n' := 31) X (by decide) (by decide) (by decide) (by decide) rfl rfl dX3_init_25 ?_
  rw [← eh32]
  rw [← ez31]
  obtain ⟨k33, hm⟩ := i_c hm
  obtain ⟨h34, eh34, hm⟩ := i_d hm
  refine a_putR X 3 2 true rfl k33 (by decide) rfl rfl (fun _ => ⟨rfl, rfl⟩) rfl fl_X3_21 dX3_init_27 ?_
  rw [← eh34]
  refine a_aload_n X dX3_init_30 rfl ?_
  refine a_bipush (x := 16) X dX3_init_31 (by decide) ?_
  obtain ⟨z35, ez35, hm⟩ := i_d hm
  obtain ⟨h36, eh36, hm⟩ := i_d hm
  refine a_newI (N := 16) (k' := 4) (n' := 47) X (by decide) (by decide) (by decide) (by decide) rfl rfl dX3_init_33 ?_
  rw [← eh36]
  rw [← ez35]
  obtain ⟨k37, hm⟩ := i_c hm
  obtain ⟨h38, eh38, hm⟩ := i_d hm
  refine a_putR X 3 3 true rfl k37 (by decide) rfl rfl (fun _ => ⟨rfl, rfl⟩) rfl fl_X3_25 dX3_init_35 ?_
  rw [← eh38]
  refine a_aload_n X dX3_init_38 rfl ?_
  refine a_iconst (x := -1) X dX3_init_39 (by decide) ?_
  obtain ⟨h39, eh39, hm⟩ := i_d hm
  refine a_putI X 3 10 false rfl (kk_R eh38 k37) (by decide) rfl rfl (fun q => by cases q) rfl rfl fl_X3_28 dX3_init_40 ?_
  rw [← eh39]
  exact a_vret X hF ⟨Option.some.inj hm, rfl⟩ (by decide) dX3_init_43
theorem c_X3_init {l : Launch} {g : Gvx} {h : Hpx} {M : Msx} {h' : Hpx} {a0 : Nat} (hm : f_X3_init h a0 = some h') : Mt_ l g yX3_init cX3_init 1 (none) rm_X3_init [v_R (some a0)] h M (none) h' M := mt_of (by decide) (Nat.le_of_ble_eq_true rfl) (fun v _ X hF => q_X3_init_0 X a0 hF h hm)
theorem yi_X3_init : Yi_ yX3_init cX3_init 1 0 := ⟨rfl, ⟨by decide, by decide, by decide +kernel⟩, co_X3_init, im_X3_init, ini_X3⟩

abbrev rm_X3_finding : Room := { frames := 0, cells := 0, slots := 0, locals := 0 }
def f_X3_finding (h : Hpx) (a0 : Nat) (x1 : Int32) : Option (Hpx × Int32) :=
  (if x1 < (1 : Int32) then
  some (h, (-12 : Int32))
  else (if (6 : Int32) < x1 then
  some (h, (-12 : Int32))
  else (if h_k h a0 = 4 then
  (h_R h a0 2).bind fun a24 =>
  (if h_k h a24 = 6 then
  (if in_b x1 (h_n h a24) = true then
  b_d (s_I h a24 x1.toNatClampNeg ((h_I h a24 x1.toNatClampNeg) + (1 : Int32))) fun h27 =>
  b_d (s_I h27 a0 7 x1) fun h28 =>
  some (h28, (-12 : Int32)) else none) else none) else none)))
set_option maxHeartbeats 4000000 in
theorem q_X3_finding_0 {v : Evx} {g : Gvx} {M : Msx} {h' : Hpx} {r : Int32} (X : Cx_ v g cX3_finding 2 RX3 "finding" ((some .int)) rm_X3_finding) (a0 : Nat) (hF : Fi_ v g rm_X3_finding (some (v_I r)) h' M) (h : Hpx) (x1 : Int32) (hm : f_X3_finding h a0 x1 = some (h', r)) : At_ v g 2 h M 0 0 0 [(0, v_R (some a0)), (1, v_I x1)] [] := by
  unfold f_X3_finding at hm
  refine a_iload_n X dX3_finding_0 rfl ?_
  refine a_iconst (x := 1) X dX3_finding_1 (by decide) ?_
  refine a_icmp_lt (tgt := 26) X dX3_finding_2 (by decide) hm (fun c21 hm => ?_) (fun c21 hm => ?_)
  · refine a_bipush (x := -12) X dX3_finding_26 (by decide) ?_
    exact a_iret X hF ⟨(Prod.mk.inj (Option.some.inj hm)).1, rfl, (Prod.mk.inj (Option.some.inj hm)).2⟩ (by decide) dX3_finding_28
  · refine a_iload_n X dX3_finding_5 rfl ?_
    refine a_bipush (x := 6) X dX3_finding_6 (by decide) ?_
    refine a_icmp_gt (tgt := 26) X dX3_finding_8 (by decide) hm (fun c22 hm => ?_) (fun c22 hm => ?_)
    · refine a_bipush (x := -12) X dX3_finding_26 (by decide) ?_
      exact a_iret X hF ⟨(Prod.mk.inj (Option.some.inj hm)).1, rfl, (Prod.mk.inj (Option.some.inj hm)).2⟩ (by decide) dX3_finding_28
    · refine a_aload_n X dX3_finding_11 rfl ?_
      obtain ⟨k23, hm⟩ := i_c hm
      refine a_getR X 3 2 rfl k23 (by decide) rfl fl_X3_21 dX3_finding_12 ?_
      refine a_iload_n X dX3_finding_15 rfl ?_
      refine a_dup2 X dX3_finding_16 rfl rfl ?_
      obtain ⟨a24, ea24, hm⟩ := i_b hm
      obtain ⟨k25, hm⟩ := i_c hm
      obtain ⟨b26, hm⟩ := i_c hm
      refine a_iald X ea24 k25 b26 dX3_finding_17 ?_
      refine a_iconst (x := 1) X dX3_finding_18 (by decide) ?_
      refine a_iadd X dX3_finding_19 ?_
      obtain ⟨h27, eh27, hm⟩ := i_d hm
      refine a_iast X ea24 k25 b26 dX3_finding_20 ?_
      rw [← eh27]
      refine a_aload_n X dX3_finding_21 rfl ?_
      refine a_iload_n X dX3_finding_22 rfl ?_
      obtain ⟨h28, eh28, hm⟩ := i_d hm
      refine a_putI X 3 7 false rfl (kk_I eh27 k23) (by decide) rfl rfl (fun q => by cases q) rfl rfl fl_X3_249 dX3_finding_23 ?_
      rw [← eh28]
      refine a_bipush (x := -12) X dX3_finding_26 (by decide) ?_
      exact a_iret X hF ⟨(Prod.mk.inj (Option.some.inj hm)).1, rfl, (Prod.mk.inj (Option.some.inj hm)).2⟩ (by decide) dX3_finding_28
theorem c_X3_finding {l : Launch} {g : Gvx} {h : Hpx} {M : Msx} {h' : Hpx} {r : Int32} {a0 : Nat} {x1 : Int32} (hm : f_X3_finding h a0 x1 = some (h', r)) : Mt_ l g yX3_finding cX3_finding 2 ((some .int)) rm_X3_finding [v_R (some a0), v_I x1] h M (some (v_I r)) h' M := mt_of (by decide) (Nat.le_of_ble_eq_true rfl) (fun v _ X hF => q_X3_finding_0 X a0 hF h x1 hm)
theorem yv_X3_finding : Yv_ yX3_finding cX3_finding 2 ((some .int)) 1 3 := ⟨rfl, by decide, ⟨by decide, by decide, by decide +kernel⟩, co_X3_finding, im_X3_finding, se_X3_finding, ini_X3⟩

abbrev rm_X3_ring : Room := { frames := 3, cells := 142, slots := 1121, locals := 55 }
def f_X3_ring (h : Hpx) (a0 : Nat) (x1 : Int32) : Option (Hpx × Int32) :=
  (if 0 ≤ x1 then
  (if x1 = 0 then
  some (h, (-1 : Int32))
  else (if (64 : Int32) < x1 then
  some (h, (-1 : Int32))
  else (f_J6_bitCount_0f7a4 h x1).bind fun r25 =>
  (if r25 = (1 : Int32) then
  (if h_k h a0 = 4 then
  (if (h_I h a0 11) = 0 then
  (if (h_I h a0 4) < (8 : Int32) then
  b_d (h_z h) fun z30 =>
  b_d (h_new h 3 0) fun h31 =>
  (f_X2_init h31 z30 (h_I h a0 4) x1).bind fun h33 =>
  (h_R h a0 0).bind fun a34 =>
  (if h_k h33 a34 = 10 then
  (if in_b (h_I h a0 4) (h_n h33 a34) = true then
  (if h_k h33 z30 = 3 then
  b_d (s_R h33 a34 (h_I h a0 4).toNatClampNeg (some z30)) fun h38 =>
  (if h_k h38 a0 = 4 then
  b_d (s_I h38 a0 4 ((h_I h38 a0 4) + (1 : Int32))) fun h40 =>
  b_d (s_I h40 a0 6 ((h_I h40 a0 6) + ((1 : Int32) + x1))) fun h41 =>
  some (h41, (h_I h a0 4)) else none) else none) else none) else none)
  else some (h, (-4 : Int32)))
  else some (h, (-2 : Int32))) else none)
  else some (h, (-1 : Int32)))))
  else (if h_k h a0 = 4 then
  c_l (f_X3_finding h a0 (3 : Int32)) fun h44 r45 =>
  some (h44, r45) else none))
set_option maxHeartbeats 4000000 in
theorem q_X3_ring_0 {v : Evx} {g : Gvx} {M : Msx} {h' : Hpx} {r : Int32} (X : Cx_ v g cX3_ring 3 RX3 "ring" ((some .int)) rm_X3_ring) (a0 : Nat) (hF : Fi_ v g rm_X3_ring (some (v_I r)) h' M) (h : Hpx) (x1 : Int32) (hm : f_X3_ring h a0 x1 = some (h', r)) : At_ v g 3 h M 0 0 0 [(0, v_R (some a0)), (1, v_I x1)] [] := by
  unfold f_X3_ring at hm
  refine a_iload_n X dX3_ring_0 rfl ?_
  refine a_if_ge (tgt := 10) X dX3_ring_1 (by decide) hm (fun c21 hm => ?_) (fun c21 hm => ?_)
  · refine a_iload_n X dX3_ring_10 rfl ?_
    refine a_if_eq (tgt := 28) X dX3_ring_11 (by decide) hm (fun c22 hm => ?_) (fun c22 hm => ?_)
    · refine a_iconst (x := -1) X dX3_ring_28 (by decide) ?_
      exact a_iret X hF ⟨(Prod.mk.inj (Option.some.inj hm)).1, rfl, (Prod.mk.inj (Option.some.inj hm)).2⟩ (by decide) dX3_ring_29
    · refine a_iload_n X dX3_ring_14 rfl ?_
      refine a_bipush (x := 64) X dX3_ring_15 (by decide) ?_
      refine a_icmp_gt (tgt := 28) X dX3_ring_17 (by decide) hm (fun c23 hm => ?_) (fun c23 hm => ?_)
      · refine a_iconst (x := -1) X dX3_ring_28 (by decide) ?_
        exact a_iret X hF ⟨(Prod.mk.inj (Option.some.inj hm)).1, rfl, (Prod.mk.inj (Option.some.inj hm)).2⟩ (by decide) dX3_ring_29
      · refine a_iload_n X dX3_ring_20 rfl ?_
        obtain ⟨r25, q24, hm⟩ := i_b hm
        refine a_callS (k' := 0) (n' := 0) (st := []) X (c_J6_bitCount_0f7a4 q24) ys_J6_bitCount_0f7a4 ml_X3_36 ⟨by decide, by decide, by decide, by decide, Nat.le_of_ble_eq_true rfl⟩ rfl rfl dX3_ring_21 rfl rfl ?_
        show At_ v g 3 h M 0 0 24 [(0, v_R (some a0)), (1, v_I x1)] [v_I r25]
        refine a_iconst (x := 1) X dX3_ring_24 (by decide) ?_
        refine a_icmp_eq (tgt := 30) X dX3_ring_25 (by decide) hm (fun c26 hm => ?_) (fun c26 hm => ?_)
        · refine a_aload_n X dX3_ring_30 rfl ?_
          obtain ⟨k27, hm⟩ := i_c hm
          refine a_getI X 3 11 rfl k27 (by decide) rfl fl_X3_41 dX3_ring_31 ?_
          refine a_if_eq (tgt := 40) X dX3_ring_34 (by decide) hm (fun c28 hm => ?_) (fun c28 hm => ?_)
          · refine a_aload_n X dX3_ring_40 rfl ?_
            refine a_getI X 3 4 rfl k27 (by decide) rfl fl_X3_45 dX3_ring_41 ?_
            refine a_bipush (x := 8) X dX3_ring_44 (by decide) ?_
            refine a_icmp_lt (tgt := 52) X dX3_ring_46 (by decide) hm (fun c29 hm => ?_) (fun c29 hm => ?_)
            · refine a_aload_n X dX3_ring_52 rfl ?_
              refine a_getI X 3 4 rfl k27 (by decide) rfl fl_X3_45 dX3_ring_53 ?_
              refine a_istore_n (lv' := [(0, v_R (some a0)), (1, v_I x1), (2, v_I (h_I h a0 4))]) X dX3_ring_56 (by decide) rfl ?_
              refine a_aload_n X dX3_ring_57 rfl ?_
              refine a_getR X 3 0 rfl k27 (by decide) rfl fl_X3_11 dX3_ring_58 ?_
              refine a_iload_n X dX3_ring_61 rfl ?_
              obtain ⟨z30, ez30, hm⟩ := i_d hm
              obtain ⟨h31, eh31, hm⟩ := i_d hm
              refine a_new (k' := 1) (n' := 7) X 2 (by decide) cl_X3_9 ib_X2 ini_X2 (by decide) rfl rfl dX3_ring_62 ?_
              rw [← eh31]
              rw [← ez30]
              refine a_dup X dX3_ring_65 rfl ?_
              refine a_iload_n X dX3_ring_66 rfl ?_
              refine a_iload_n X dX3_ring_67 rfl ?_
              obtain ⟨h33, q32, hm⟩ := i_b hm
              refine a_callI (k' := 142) (n' := 1121) (st := [v_R (some z30), v_I (h_I h a0 4), v_R (h_R h a0 0)]) X (c_X2_init q32) yi_X2_init ml_X3_48 rfl ⟨by decide, by decide, by decide, by decide, Nat.le_of_ble_eq_true rfl⟩ rfl rfl dX3_ring_68 rfl ?_
              show At_ v g 3 h33 M 142 1121 71 [(0, v_R (some a0)), (1, v_I x1), (2, v_I (h_I h a0 4))] [v_R (some z30), v_I (h_I h a0 4), v_R (h_R h a0 0)]
              obtain ⟨a34, ea34, hm⟩ := i_b hm
              obtain ⟨k35, hm⟩ := i_c hm
              obtain ⟨b36, hm⟩ := i_c hm
              obtain ⟨k37, hm⟩ := i_c hm
              obtain ⟨h38, eh38, hm⟩ := i_d hm
              refine a_aast X 4 2 ea34 rfl k35 (by decide) k37 (by decide) rfl b36 dX3_ring_71 ?_
              rw [← eh38]
              refine a_aload_n X dX3_ring_72 rfl ?_
              refine a_dup X dX3_ring_73 rfl ?_
              obtain ⟨k39, hm⟩ := i_c hm
              refine a_getI X 3 4 rfl k39 (by decide) rfl fl_X3_45 dX3_ring_74 ?_
              refine a_iconst (x := 1) X dX3_ring_77 (by decide) ?_
              refine a_iadd X dX3_ring_78 ?_
              obtain ⟨h40, eh40, hm⟩ := i_d hm
              refine a_putI X 3 4 false rfl k39 (by decide) rfl rfl (fun q => by cases q) rfl rfl fl_X3_45 dX3_ring_79 ?_
              rw [← eh40]
              refine a_aload_n X dX3_ring_82 rfl ?_
              refine a_dup X dX3_ring_83 rfl ?_
              refine a_getI X 3 6 rfl (kk_I eh40 k39) (by decide) rfl fl_X3_51 dX3_ring_84 ?_
              refine a_iconst (x := 1) X dX3_ring_87 (by decide) ?_
              refine a_iload_n X dX3_ring_88 rfl ?_
              refine a_iadd X dX3_ring_89 ?_
              refine a_iadd X dX3_ring_90 ?_
              obtain ⟨h41, eh41, hm⟩ := i_d hm
              refine a_putI X 3 6 false rfl (kk_I eh40 k39) (by decide) rfl rfl (fun q => by cases q) rfl rfl fl_X3_51 dX3_ring_91 ?_
              rw [← eh41]
              refine a_iload_n X dX3_ring_94 rfl ?_
              exact a_iret X hF ⟨(Prod.mk.inj (Option.some.inj hm)).1, rfl, (Prod.mk.inj (Option.some.inj hm)).2⟩ (by decide) dX3_ring_95
            · refine a_bipush (x := -4) X dX3_ring_49 (by decide) ?_
              exact a_iret X hF ⟨(Prod.mk.inj (Option.some.inj hm)).1, rfl, (Prod.mk.inj (Option.some.inj hm)).2⟩ (by decide) dX3_ring_51
          · refine a_bipush (x := -2) X dX3_ring_37 (by decide) ?_
            exact a_iret X hF ⟨(Prod.mk.inj (Option.some.inj hm)).1, rfl, (Prod.mk.inj (Option.some.inj hm)).2⟩ (by decide) dX3_ring_39
        · refine a_iconst (x := -1) X dX3_ring_28 (by decide) ?_
          exact a_iret X hF ⟨(Prod.mk.inj (Option.some.inj hm)).1, rfl, (Prod.mk.inj (Option.some.inj hm)).2⟩ (by decide) dX3_ring_29
  · refine a_aload_n X dX3_ring_4 rfl ?_
    refine a_iconst (x := 3) X dX3_ring_5 (by decide) ?_
    obtain ⟨k42, hm⟩ := i_c hm
    obtain ⟨h44, r45, q43, hm⟩ := i_l hm
    refine a_callV (k' := 0) (n' := 0) (st := []) X (c_X3_finding q43) yv_X3_finding ml_X3_32 rfl (Or.inl k42) ⟨by decide, by decide, by decide, by decide, Nat.le_of_ble_eq_true rfl⟩ rfl rfl dX3_ring_6 rfl rfl ?_
    show At_ v g 3 h44 M 0 0 9 [(0, v_R (some a0)), (1, v_I x1)] [v_I r45]
    exact a_iret X hF ⟨(Prod.mk.inj (Option.some.inj hm)).1, rfl, (Prod.mk.inj (Option.some.inj hm)).2⟩ (by decide) dX3_ring_9
theorem c_X3_ring {l : Launch} {g : Gvx} {h : Hpx} {M : Msx} {h' : Hpx} {r : Int32} {a0 : Nat} {x1 : Int32} (hm : f_X3_ring h a0 x1 = some (h', r)) : Mt_ l g yX3_ring cX3_ring 3 ((some .int)) rm_X3_ring [v_R (some a0), v_I x1] h M (some (v_I r)) h' M := mt_of (by decide) (Nat.le_of_ble_eq_true rfl) (fun v _ X hF => q_X3_ring_0 X a0 hF h x1 hm)
theorem yv_X3_ring : Yv_ yX3_ring cX3_ring 3 ((some .int)) 1 3 := ⟨rfl, by decide, ⟨by decide, by decide, by decide +kernel⟩, co_X3_ring, im_X3_ring, se_X3_ring, ini_X3⟩

abbrev rm_X3_ringAt : Room := { frames := 0, cells := 0, slots := 0, locals := 0 }
def f_X3_ringAt (h : Hpx) (a0 : Nat) (x1 : Int32) : Option (Option Nat) :=
  (if x1 < 0 then
  some none
  else (if (8 : Int32) ≤ x1 then
  some none
  else (if h_k h a0 = 4 then
  (h_R h a0 0).bind fun a24 =>
  (if h_k h a24 = 10 then
  (if in_b x1 (h_n h a24) = true then
  some (h_R h a24 x1.toNatClampNeg) else none) else none) else none)))
set_option maxHeartbeats 4000000 in
theorem q_X3_ringAt_0 {v : Evx} {g : Gvx} {M : Msx} {r : Option Nat} (X : Cx_ v g cX3_ringAt 2 RX3 "ringAt" ((some (.object "RingPost$Ring"))) rm_X3_ringAt) (h : Hpx) (a0 : Nat) (hF : Fi_ v g rm_X3_ringAt (some (v_R r)) h M) (x1 : Int32) (hm : f_X3_ringAt h a0 x1 = some r) : At_ v g 2 h M 0 0 0 [(0, v_R (some a0)), (1, v_I x1)] [] := by
  unfold f_X3_ringAt at hm
  refine a_iload_n X dX3_ringAt_0 rfl ?_
  refine a_if_lt (tgt := 19) X dX3_ringAt_1 (by decide) hm (fun c21 hm => ?_) (fun c21 hm => ?_)
  · refine a_null X dX3_ringAt_19 ?_
    exact a_aret _ X hF ⟨rfl, rfl, Option.some.inj hm⟩ (by decide) dX3_ringAt_20
  · refine a_iload_n X dX3_ringAt_4 rfl ?_
    refine a_bipush (x := 8) X dX3_ringAt_5 (by decide) ?_
    refine a_icmp_ge (tgt := 19) X dX3_ringAt_7 (by decide) hm (fun c22 hm => ?_) (fun c22 hm => ?_)
    · refine a_null X dX3_ringAt_19 ?_
      exact a_aret _ X hF ⟨rfl, rfl, Option.some.inj hm⟩ (by decide) dX3_ringAt_20
    · refine a_aload_n X dX3_ringAt_10 rfl ?_
      obtain ⟨k23, hm⟩ := i_c hm
      refine a_getR X 3 0 rfl k23 (by decide) rfl fl_X3_11 dX3_ringAt_11 ?_
      refine a_iload_n X dX3_ringAt_14 rfl ?_
      obtain ⟨a24, ea24, hm⟩ := i_b hm
      obtain ⟨k25, hm⟩ := i_c hm
      obtain ⟨b26, hm⟩ := i_c hm
      refine a_aald X 4 ea24 k25 (by decide) rfl b26 dX3_ringAt_15 ?_
      refine a_goto (tgt := 20) X dX3_ringAt_16 (by decide) ?_
      exact a_aret _ X hF ⟨rfl, rfl, Option.some.inj hm⟩ (by decide) dX3_ringAt_20
theorem c_X3_ringAt {l : Launch} {g : Gvx} {h : Hpx} {M : Msx} {r : Option Nat} {a0 : Nat} {x1 : Int32} (hm : f_X3_ringAt h a0 x1 = some r) : Mt_ l g yX3_ringAt cX3_ringAt 2 ((some (.object "RingPost$Ring"))) rm_X3_ringAt [v_R (some a0), v_I x1] h M (some (v_R r)) h M := mt_of (by decide) (Nat.le_of_ble_eq_true rfl) (fun v _ X hF => q_X3_ringAt_0 X h a0 hF x1 hm)
theorem yv_X3_ringAt : Yv_ yX3_ringAt cX3_ringAt 2 ((some (.object "RingPost$Ring"))) 1 3 := ⟨rfl, by decide, ⟨by decide, by decide, by decide +kernel⟩, co_X3_ringAt, im_X3_ringAt, se_X3_ringAt, ini_X3⟩

abbrev rm_X3_newReader : Room := { frames := 3, cells := 146, slots := 1124, locals := 56 }
def j_X3_newReader_56 (a0 : Nat) (h : Hpx) (x1 : Int32) (x3 : Int32) (x4 : Option Nat) : Option (Hpx × Option Nat) :=
  (if x1 = (6 : Int32) then
  x4.bind fun a44 =>
  (if h_k h a44 = 2 then
  (f_X1_addName h a44 x3).bind fun h47 =>
  some (h47, x4) else none)
  else some (h, x4))
set_option maxHeartbeats 4000000 in
theorem q_X3_newReader_56 {v : Evx} {g : Gvx} {M : Msx} {h' : Hpx} {r : Option Nat} (X : Cx_ v g cX3_newReader 5 RX3 "newReader" ((some (.object "RingPost$Reader"))) rm_X3_newReader) (a0 : Nat) (hF : Fi_ v g rm_X3_newReader (some (v_R r)) h' M) (h : Hpx) (x1 : Int32) (x3 : Int32) (x4 : Option Nat) (hm : j_X3_newReader_56 a0 h x1 x3 x4 = some (h', r)) : At_ v g 5 h M 146 1124 56 [(0, v_R (some a0)), (1, v_I x1), (3, v_I x3), (4, v_R x4)] [] := by
  unfold j_X3_newReader_56 at hm
  refine a_iload_n X dX3_newReader_56 rfl ?_
  refine a_bipush (x := 6) X dX3_newReader_57 (by decide) ?_
  refine a_icmp_ne (tgt := 68) X dX3_newReader_59 (by decide) hm (fun c43 hm => ?_) (fun c43 hm => ?_)
  · refine a_aload X dX3_newReader_68 rfl ?_
    exact a_aret _ X hF ⟨(Prod.mk.inj (Option.some.inj hm)).1, rfl, (Prod.mk.inj (Option.some.inj hm)).2⟩ (by decide) dX3_newReader_70
  · refine a_aload X dX3_newReader_62 rfl ?_
    refine a_iload_n X dX3_newReader_64 rfl ?_
    obtain ⟨a44, ea44, hm⟩ := i_b hm
    obtain ⟨k45, hm⟩ := i_c hm
    obtain ⟨h47, q46, hm⟩ := i_b hm
    refine a_callV (k' := 146) (n' := 1124) (st := []) X (c_X1_addName q46) yv_X1_addName ml_X3_115 ea44 (Or.inl k45) ⟨by decide, by decide, by decide, by decide, Nat.le_of_ble_eq_true rfl⟩ rfl rfl dX3_newReader_65 rfl rfl ?_
    show At_ v g 5 h47 M 146 1124 68 [(0, v_R (some a0)), (1, v_I x1), (3, v_I x3), (4, v_R x4)] []
    refine a_aload X dX3_newReader_68 rfl ?_
    exact a_aret _ X hF ⟨(Prod.mk.inj (Option.some.inj hm)).1, rfl, (Prod.mk.inj (Option.some.inj hm)).2⟩ (by decide) dX3_newReader_70
def j_X3_newReader_45 (a0 : Nat) (h : Hpx) (x1 : Int32) (x3 : Int32) (x4 : Option Nat) : Option (Hpx × Option Nat) :=
  (if x1 = (5 : Int32) then
  x4.bind fun a39 =>
  (if h_k h a39 = 2 then
  (f_X1_standIn h a39 x3).bind fun h42 =>
  j_X3_newReader_56 a0 h42 x1 x3 x4 else none)
  else j_X3_newReader_56 a0 h x1 x3 x4)
set_option maxHeartbeats 4000000 in
theorem q_X3_newReader_45 {v : Evx} {g : Gvx} {M : Msx} {h' : Hpx} {r : Option Nat} (X : Cx_ v g cX3_newReader 5 RX3 "newReader" ((some (.object "RingPost$Reader"))) rm_X3_newReader) (a0 : Nat) (hF : Fi_ v g rm_X3_newReader (some (v_R r)) h' M) (h : Hpx) (x1 : Int32) (x3 : Int32) (x4 : Option Nat) (hm : j_X3_newReader_45 a0 h x1 x3 x4 = some (h', r)) : At_ v g 5 h M 146 1124 45 [(0, v_R (some a0)), (1, v_I x1), (3, v_I x3), (4, v_R x4)] [] := by
  unfold j_X3_newReader_45 at hm
  refine a_iload_n X dX3_newReader_45 rfl ?_
  refine a_iconst (x := 5) X dX3_newReader_46 (by decide) ?_
  refine a_icmp_ne (tgt := 56) X dX3_newReader_47 (by decide) hm (fun c38 hm => ?_) (fun c38 hm => ?_)
  · exact q_X3_newReader_56 X a0 hF h x1 x3 x4 hm
  · refine a_aload X dX3_newReader_50 rfl ?_
    refine a_iload_n X dX3_newReader_52 rfl ?_
    obtain ⟨a39, ea39, hm⟩ := i_b hm
    obtain ⟨k40, hm⟩ := i_c hm
    obtain ⟨h42, q41, hm⟩ := i_b hm
    refine a_callV (k' := 146) (n' := 1124) (st := []) X (c_X1_standIn q41) yv_X1_standIn ml_X3_86 ea39 (Or.inl k40) ⟨by decide, by decide, by decide, by decide, Nat.le_of_ble_eq_true rfl⟩ rfl rfl dX3_newReader_53 rfl rfl ?_
    show At_ v g 5 h42 M 146 1124 56 [(0, v_R (some a0)), (1, v_I x1), (3, v_I x3), (4, v_R x4)] []
    exact q_X3_newReader_56 X a0 hF h42 x1 x3 x4 hm
def j_X3_newReader_21 (a0 : Nat) (h : Hpx) (x1 : Int32) (x2 : Option Nat) (x3 : Int32) (y0 : Option Nat) (y1 : Option Nat) (y2 : Int32) (y3 : Option Nat) (y4 : Option Nat) : Option (Hpx × Option Nat) :=
  y1.bind fun a27 =>
  (f_X1_init h a27 y2 y3 y4).bind fun h29 =>
  (if x1 = (1 : Int32) then
  j_X3_newReader_45 a0 h29 x1 x3 y0
  else (if x1 = (4 : Int32) then
  j_X3_newReader_45 a0 h29 x1 x3 y0
  else x2.bind fun a32 =>
  (if h_k h29 a32 = 3 then
  y0.bind fun a34 =>
  (if h_k h29 a34 = 2 then
  (f_X1_standIn h29 a34 (h_I h29 a32 0)).bind fun h37 =>
  j_X3_newReader_45 a0 h37 x1 x3 y0 else none) else none)))
set_option maxHeartbeats 4000000 in
theorem q_X3_newReader_21 {v : Evx} {g : Gvx} {M : Msx} {h' : Hpx} {r : Option Nat} (X : Cx_ v g cX3_newReader 5 RX3 "newReader" ((some (.object "RingPost$Reader"))) rm_X3_newReader) (a0 : Nat) (hF : Fi_ v g rm_X3_newReader (some (v_R r)) h' M) (h : Hpx) (x1 : Int32) (x2 : Option Nat) (x3 : Int32) (y0 : Option Nat) (y1 : Option Nat) (y2 : Int32) (y3 : Option Nat) (y4 : Option Nat) (hm : j_X3_newReader_21 a0 h x1 x2 x3 y0 y1 y2 y3 y4 = some (h', r)) : At_ v g 5 h M 1 15 21 [(0, v_R (some a0)), (1, v_I x1), (2, v_R x2), (3, v_I x3)] [v_R y4, v_R y3, v_I y2, v_R y1, v_R y0] := by
  unfold j_X3_newReader_21 at hm
  obtain ⟨a27, ea27, hm⟩ := i_b hm
  obtain ⟨h29, q28, hm⟩ := i_b hm
  refine a_callI (k' := 146) (n' := 1124) (st := [v_R y0]) X (c_X1_init q28) yi_X1_init ml_X3_252 ea27 ⟨by decide, by decide, by decide, by decide, Nat.le_of_ble_eq_true rfl⟩ rfl rfl dX3_newReader_21 rfl ?_
  show At_ v g 5 h29 M 146 1124 24 [(0, v_R (some a0)), (1, v_I x1), (2, v_R x2), (3, v_I x3)] [v_R y0]
  refine a_astore (lv' := [(0, v_R (some a0)), (1, v_I x1), (2, v_R x2), (3, v_I x3), (4, v_R y0)]) X dX3_newReader_24 (by decide) rfl ?_
  refine a_iload_n X dX3_newReader_26 rfl ?_
  refine a_iconst (x := 1) X dX3_newReader_27 (by decide) ?_
  refine a_icmp_eq (tgt := 45) X dX3_newReader_28 (by decide) hm (fun c30 hm => ?_) (fun c30 hm => ?_)
  · refine a_pick (lv' := [(0, v_R (some a0)), (1, v_I x1), (3, v_I x3), (4, v_R y0)]) [0, 1, 3, 4] rfl ?_
    exact q_X3_newReader_45 X a0 hF h29 x1 x3 y0 hm
  · refine a_iload_n X dX3_newReader_31 rfl ?_
    refine a_iconst (x := 4) X dX3_newReader_32 (by decide) ?_
    refine a_icmp_eq (tgt := 45) X dX3_newReader_33 (by decide) hm (fun c31 hm => ?_) (fun c31 hm => ?_)
    · refine a_pick (lv' := [(0, v_R (some a0)), (1, v_I x1), (3, v_I x3), (4, v_R y0)]) [0, 1, 3, 4] rfl ?_
      exact q_X3_newReader_45 X a0 hF h29 x1 x3 y0 hm
    · refine a_aload X dX3_newReader_36 rfl ?_
      refine a_aload_n X dX3_newReader_38 rfl ?_
      obtain ⟨a32, ea32, hm⟩ := i_b hm
      obtain ⟨k33, hm⟩ := i_c hm
      refine a_getI X 2 0 ea32 k33 (by decide) rfl fl_X3_98 dX3_newReader_39 ?_
      obtain ⟨a34, ea34, hm⟩ := i_b hm
      obtain ⟨k35, hm⟩ := i_c hm
      obtain ⟨h37, q36, hm⟩ := i_b hm
      refine a_callV (k' := 146) (n' := 1124) (st := []) X (c_X1_standIn q36) yv_X1_standIn ml_X3_86 ea34 (Or.inl k35) ⟨by decide, by decide, by decide, by decide, Nat.le_of_ble_eq_true rfl⟩ rfl rfl dX3_newReader_42 rfl rfl ?_
      show At_ v g 5 h37 M 146 1124 45 [(0, v_R (some a0)), (1, v_I x1), (2, v_R x2), (3, v_I x3), (4, v_R y0)] []
      refine a_pick (lv' := [(0, v_R (some a0)), (1, v_I x1), (3, v_I x3), (4, v_R y0)]) [0, 1, 3, 4] rfl ?_
      exact q_X3_newReader_45 X a0 hF h37 x1 x3 y0 hm
def f_X3_newReader (h : Hpx) (a0 : Nat) (x1 : Int32) (x2 : Option Nat) (x3 : Int32) : Option (Hpx × Option Nat) :=
  b_d (h_z h) fun z21 =>
  b_d (h_new h 2 0) fun h22 =>
  (if x1 = (7 : Int32) then
  (if h_k h22 a0 = 4 then
  (f_X3_ringAt h22 a0 x3).bind fun r26 =>
  j_X3_newReader_21 a0 h22 x1 x2 x3 (some z21) (some z21) x1 x2 r26 else none)
  else j_X3_newReader_21 a0 h22 x1 x2 x3 (some z21) (some z21) x1 x2 none)
set_option maxHeartbeats 4000000 in
theorem q_X3_newReader_0 {v : Evx} {g : Gvx} {M : Msx} {h' : Hpx} {r : Option Nat} (X : Cx_ v g cX3_newReader 5 RX3 "newReader" ((some (.object "RingPost$Reader"))) rm_X3_newReader) (a0 : Nat) (hF : Fi_ v g rm_X3_newReader (some (v_R r)) h' M) (h : Hpx) (x1 : Int32) (x2 : Option Nat) (x3 : Int32) (hm : f_X3_newReader h a0 x1 x2 x3 = some (h', r)) : At_ v g 5 h M 0 0 0 [(0, v_R (some a0)), (1, v_I x1), (2, v_R x2), (3, v_I x3)] [] := by
  unfold f_X3_newReader at hm
  obtain ⟨z21, ez21, hm⟩ := i_d hm
  obtain ⟨h22, eh22, hm⟩ := i_d hm
  refine a_new (k' := 1) (n' := 15) X 1 (by decide) cl_X3_15 ib_X1 ini_X1 (by decide) rfl rfl dX3_newReader_0 ?_
  rw [← eh22]
  rw [← ez21]
  refine a_dup X dX3_newReader_3 rfl ?_
  refine a_iload_n X dX3_newReader_4 rfl ?_
  refine a_aload_n X dX3_newReader_5 rfl ?_
  refine a_iload_n X dX3_newReader_6 rfl ?_
  refine a_bipush (x := 7) X dX3_newReader_7 (by decide) ?_
  refine a_icmp_ne (tgt := 20) X dX3_newReader_9 (by decide) hm (fun c23 hm => ?_) (fun c23 hm => ?_)
  · refine a_null X dX3_newReader_20 ?_
    exact q_X3_newReader_21 X a0 hF h22 x1 x2 x3 (some z21) (some z21) x1 x2 none hm
  · refine a_aload_n X dX3_newReader_12 rfl ?_
    refine a_iload_n X dX3_newReader_13 rfl ?_
    obtain ⟨k24, hm⟩ := i_c hm
    obtain ⟨r26, q25, hm⟩ := i_b hm
    refine a_callV (k' := 1) (n' := 15) (st := [v_R x2, v_I x1, v_R (some z21), v_R (some z21)]) X (c_X3_ringAt q25) yv_X3_ringAt ml_X3_54 rfl (Or.inl k24) ⟨by decide, by decide, by decide, by decide, Nat.le_of_ble_eq_true rfl⟩ rfl rfl dX3_newReader_14 rfl rfl ?_
    show At_ v g 5 h22 M 1 15 17 [(0, v_R (some a0)), (1, v_I x1), (2, v_R x2), (3, v_I x3)] [v_R r26, v_R x2, v_I x1, v_R (some z21), v_R (some z21)]
    refine a_goto (tgt := 21) X dX3_newReader_17 (by decide) ?_
    exact q_X3_newReader_21 X a0 hF h22 x1 x2 x3 (some z21) (some z21) x1 x2 r26 hm
theorem c_X3_newReader {l : Launch} {g : Gvx} {h : Hpx} {M : Msx} {h' : Hpx} {r : Option Nat} {a0 : Nat} {x1 : Int32} {x2 : Option Nat} {x3 : Int32} (hm : f_X3_newReader h a0 x1 x2 x3 = some (h', r)) : Mt_ l g yX3_newReader cX3_newReader 5 ((some (.object "RingPost$Reader"))) rm_X3_newReader [v_R (some a0), v_I x1, v_R x2, v_I x3] h M (some (v_R r)) h' M := mt_of (by decide) (Nat.le_of_ble_eq_true rfl) (fun v _ X hF => q_X3_newReader_0 X a0 hF h x1 x2 x3 hm)
theorem yv_X3_newReader : Yv_ yX3_newReader cX3_newReader 5 ((some (.object "RingPost$Reader"))) 3 3 := ⟨rfl, by decide, ⟨by decide, by decide, by decide +kernel⟩, co_X3_newReader, im_X3_newReader, se_X3_newReader, ini_X3⟩

abbrev rm_X3_readerAt : Room := { frames := 0, cells := 0, slots := 0, locals := 0 }
def f_X3_readerAt (h : Hpx) (a0 : Nat) (x1 : Int32) : Option (Option Nat) :=
  (if x1 < 0 then
  some none
  else (if (16 : Int32) ≤ x1 then
  some none
  else (if h_k h a0 = 4 then
  (h_R h a0 1).bind fun a24 =>
  (if h_k h a24 = 11 then
  (if in_b x1 (h_n h a24) = true then
  some (h_R h a24 x1.toNatClampNeg) else none) else none) else none)))
set_option maxHeartbeats 4000000 in
theorem q_X3_readerAt_0 {v : Evx} {g : Gvx} {M : Msx} {r : Option Nat} (X : Cx_ v g cX3_readerAt 2 RX3 "readerAt" ((some (.object "RingPost$Reader"))) rm_X3_readerAt) (h : Hpx) (a0 : Nat) (hF : Fi_ v g rm_X3_readerAt (some (v_R r)) h M) (x1 : Int32) (hm : f_X3_readerAt h a0 x1 = some r) : At_ v g 2 h M 0 0 0 [(0, v_R (some a0)), (1, v_I x1)] [] := by
  unfold f_X3_readerAt at hm
  refine a_iload_n X dX3_readerAt_0 rfl ?_
  refine a_if_lt (tgt := 19) X dX3_readerAt_1 (by decide) hm (fun c21 hm => ?_) (fun c21 hm => ?_)
  · refine a_null X dX3_readerAt_19 ?_
    exact a_aret _ X hF ⟨rfl, rfl, Option.some.inj hm⟩ (by decide) dX3_readerAt_20
  · refine a_iload_n X dX3_readerAt_4 rfl ?_
    refine a_bipush (x := 16) X dX3_readerAt_5 (by decide) ?_
    refine a_icmp_ge (tgt := 19) X dX3_readerAt_7 (by decide) hm (fun c22 hm => ?_) (fun c22 hm => ?_)
    · refine a_null X dX3_readerAt_19 ?_
      exact a_aret _ X hF ⟨rfl, rfl, Option.some.inj hm⟩ (by decide) dX3_readerAt_20
    · refine a_aload_n X dX3_readerAt_10 rfl ?_
      obtain ⟨k23, hm⟩ := i_c hm
      refine a_getR X 3 1 rfl k23 (by decide) rfl fl_X3_17 dX3_readerAt_11 ?_
      refine a_iload_n X dX3_readerAt_14 rfl ?_
      obtain ⟨a24, ea24, hm⟩ := i_b hm
      obtain ⟨k25, hm⟩ := i_c hm
      obtain ⟨b26, hm⟩ := i_c hm
      refine a_aald X 5 ea24 k25 (by decide) rfl b26 dX3_readerAt_15 ?_
      refine a_goto (tgt := 20) X dX3_readerAt_16 (by decide) ?_
      exact a_aret _ X hF ⟨rfl, rfl, Option.some.inj hm⟩ (by decide) dX3_readerAt_20
theorem c_X3_readerAt {l : Launch} {g : Gvx} {h : Hpx} {M : Msx} {r : Option Nat} {a0 : Nat} {x1 : Int32} (hm : f_X3_readerAt h a0 x1 = some r) : Mt_ l g yX3_readerAt cX3_readerAt 2 ((some (.object "RingPost$Reader"))) rm_X3_readerAt [v_R (some a0), v_I x1] h M (some (v_R r)) h M := mt_of (by decide) (Nat.le_of_ble_eq_true rfl) (fun v _ X hF => q_X3_readerAt_0 X h a0 hF x1 hm)
theorem yv_X3_readerAt : Yv_ yX3_readerAt cX3_readerAt 2 ((some (.object "RingPost$Reader"))) 1 3 := ⟨rfl, by decide, ⟨by decide, by decide, by decide +kernel⟩, co_X3_readerAt, im_X3_readerAt, se_X3_readerAt, ini_X3⟩

abbrev rm_X3_otherMayBe : Room := { frames := 1, cells := 0, slots := 0, locals := 21 }
def j_X3_otherMayBe_11 (h : Hpx) (a0 : Nat) (x2 : Int32) (x3 : Int32) : Option (Int32) :=
  (if x3 = x2 then
  some (0 : Int32)
  else (if h_k h a0 = 4 then
  (f_X3_ringAt h a0 x3).bind fun r31 =>
  (if r31 = none then
  some (0 : Int32)
  else some (1 : Int32)) else none))
set_option maxHeartbeats 4000000 in
theorem q_X3_otherMayBe_11 {v : Evx} {g : Gvx} {M : Msx} {r : Int32} (X : Cx_ v g cX3_otherMayBe 4 RX3 "otherMayBe" ((some .boolean)) rm_X3_otherMayBe) (h : Hpx) (a0 : Nat) (hF : Fi_ v g rm_X3_otherMayBe (some (v_I r)) h M) (x2 : Int32) (x3 : Int32) (hm : j_X3_otherMayBe_11 h a0 x2 x3 = some r) : At_ v g 4 h M 0 0 11 [(0, v_R (some a0)), (2, v_I x2), (3, v_I x3)] [] := by
  unfold j_X3_otherMayBe_11 at hm
  refine a_iload_n X dX3_otherMayBe_11 rfl ?_
  refine a_iload_n X dX3_otherMayBe_12 rfl ?_
  refine a_icmp_eq (tgt := 28) X dX3_otherMayBe_13 (by decide) hm (fun c28 hm => ?_) (fun c28 hm => ?_)
  · refine a_iconst (x := 0) X dX3_otherMayBe_28 (by decide) ?_
    exact a_zret X hF (Or.inl rfl) ⟨rfl, rfl, Option.some.inj hm⟩ (by decide) dX3_otherMayBe_29
  · refine a_aload_n X dX3_otherMayBe_16 rfl ?_
    refine a_iload_n X dX3_otherMayBe_17 rfl ?_
    obtain ⟨k29, hm⟩ := i_c hm
    obtain ⟨r31, q30, hm⟩ := i_b hm
    refine a_callV (k' := 0) (n' := 0) (st := []) X (c_X3_ringAt q30) yv_X3_ringAt ml_X3_54 rfl (Or.inl k29) ⟨by decide, by decide, by decide, by decide, Nat.le_of_ble_eq_true rfl⟩ rfl rfl dX3_otherMayBe_18 rfl rfl ?_
    show At_ v g 4 h M 0 0 21 [(0, v_R (some a0)), (2, v_I x2), (3, v_I x3)] [v_R r31]
    refine a_ifnull (tgt := 28) X dX3_otherMayBe_21 (by decide) hm (fun c32 hm => ?_) (fun c32 hm => ?_)
    · refine a_iconst (x := 0) X dX3_otherMayBe_28 (by decide) ?_
      exact a_zret X hF (Or.inl rfl) ⟨rfl, rfl, Option.some.inj hm⟩ (by decide) dX3_otherMayBe_29
    · refine a_iconst (x := 1) X dX3_otherMayBe_24 (by decide) ?_
      refine a_goto (tgt := 29) X dX3_otherMayBe_25 (by decide) ?_
      exact a_zret X hF (Or.inr rfl) ⟨rfl, rfl, Option.some.inj hm⟩ (by decide) dX3_otherMayBe_29
def j_X3_otherMayBe_44 (h : Hpx) (a0 : Nat) : Option (Int32) :=
  some (1 : Int32)
set_option maxHeartbeats 4000000 in
theorem q_X3_otherMayBe_44 {v : Evx} {g : Gvx} {M : Msx} {r : Int32} (X : Cx_ v g cX3_otherMayBe 4 RX3 "otherMayBe" ((some .boolean)) rm_X3_otherMayBe) (h : Hpx) (a0 : Nat) (hF : Fi_ v g rm_X3_otherMayBe (some (v_I r)) h M) (hm : j_X3_otherMayBe_44 h a0  = some r) : At_ v g 4 h M 0 0 44 [(0, v_R (some a0))] [] := by
  unfold j_X3_otherMayBe_44 at hm
  refine a_iconst (x := 1) X dX3_otherMayBe_44 (by decide) ?_
  refine a_goto (tgt := 49) X dX3_otherMayBe_45 (by decide) ?_
  exact a_zret X hF (Or.inr rfl) ⟨rfl, rfl, Option.some.inj hm⟩ (by decide) dX3_otherMayBe_49
def f_X3_otherMayBe (h : Hpx) (a0 : Nat) (x1 : Int32) (x2 : Int32) (x3 : Int32) : Option (Int32) :=
  (if x1 = (5 : Int32) then
  j_X3_otherMayBe_11 h a0 x2 x3
  else (if x1 = (7 : Int32) then
  j_X3_otherMayBe_11 h a0 x2 x3
  else (if x1 = (6 : Int32) then
  (if h_k h a0 = 4 then
  (f_X3_readerAt h a0 x3).bind fun r26 =>
  (if r26 = none then
  some (0 : Int32)
  else j_X3_otherMayBe_44 h a0 ) else none)
  else j_X3_otherMayBe_44 h a0 )))
set_option maxHeartbeats 4000000 in
theorem q_X3_otherMayBe_0 {v : Evx} {g : Gvx} {M : Msx} {r : Int32} (X : Cx_ v g cX3_otherMayBe 4 RX3 "otherMayBe" ((some .boolean)) rm_X3_otherMayBe) (h : Hpx) (a0 : Nat) (hF : Fi_ v g rm_X3_otherMayBe (some (v_I r)) h M) (x1 : Int32) (x2 : Int32) (x3 : Int32) (hm : f_X3_otherMayBe h a0 x1 x2 x3 = some r) : At_ v g 4 h M 0 0 0 [(0, v_R (some a0)), (1, v_I x1), (2, v_I x2), (3, v_I x3)] [] := by
  unfold f_X3_otherMayBe at hm
  refine a_iload_n X dX3_otherMayBe_0 rfl ?_
  refine a_iconst (x := 5) X dX3_otherMayBe_1 (by decide) ?_
  refine a_icmp_eq (tgt := 11) X dX3_otherMayBe_2 (by decide) hm (fun c21 hm => ?_) (fun c21 hm => ?_)
  · refine a_pick (lv' := [(0, v_R (some a0)), (2, v_I x2), (3, v_I x3)]) [0, 2, 3] rfl ?_
    exact q_X3_otherMayBe_11 X h a0 hF x2 x3 hm
  · refine a_iload_n X dX3_otherMayBe_5 rfl ?_
    refine a_bipush (x := 7) X dX3_otherMayBe_6 (by decide) ?_
    refine a_icmp_ne (tgt := 30) X dX3_otherMayBe_8 (by decide) hm (fun c22 hm => ?_) (fun c22 hm => ?_)
    · refine a_iload_n X dX3_otherMayBe_30 rfl ?_
      refine a_bipush (x := 6) X dX3_otherMayBe_31 (by decide) ?_
      refine a_icmp_ne (tgt := 44) X dX3_otherMayBe_33 (by decide) hm (fun c23 hm => ?_) (fun c23 hm => ?_)
      · refine a_pick (lv' := [(0, v_R (some a0))]) [0] rfl ?_
        exact q_X3_otherMayBe_44 X h a0 hF  hm
      · refine a_aload_n X dX3_otherMayBe_36 rfl ?_
        refine a_iload_n X dX3_otherMayBe_37 rfl ?_
        obtain ⟨k24, hm⟩ := i_c hm
        obtain ⟨r26, q25, hm⟩ := i_b hm
        refine a_callV (k' := 0) (n' := 0) (st := []) X (c_X3_readerAt q25) yv_X3_readerAt ml_X3_73 rfl (Or.inl k24) ⟨by decide, by decide, by decide, by decide, Nat.le_of_ble_eq_true rfl⟩ rfl rfl dX3_otherMayBe_38 rfl rfl ?_
        show At_ v g 4 h M 0 0 41 [(0, v_R (some a0)), (1, v_I x1), (2, v_I x2), (3, v_I x3)] [v_R r26]
        refine a_ifnull (tgt := 48) X dX3_otherMayBe_41 (by decide) hm (fun c27 hm => ?_) (fun c27 hm => ?_)
        · refine a_iconst (x := 0) X dX3_otherMayBe_48 (by decide) ?_
          exact a_zret X hF (Or.inl rfl) ⟨rfl, rfl, Option.some.inj hm⟩ (by decide) dX3_otherMayBe_49
        · refine a_pick (lv' := [(0, v_R (some a0))]) [0] rfl ?_
          exact q_X3_otherMayBe_44 X h a0 hF  hm
    · refine a_pick (lv' := [(0, v_R (some a0)), (2, v_I x2), (3, v_I x3)]) [0, 2, 3] rfl ?_
      exact q_X3_otherMayBe_11 X h a0 hF x2 x3 hm
theorem c_X3_otherMayBe {l : Launch} {g : Gvx} {h : Hpx} {M : Msx} {r : Int32} {a0 : Nat} {x1 : Int32} {x2 : Int32} {x3 : Int32} (hm : f_X3_otherMayBe h a0 x1 x2 x3 = some r) : Mt_ l g yX3_otherMayBe cX3_otherMayBe 4 ((some .boolean)) rm_X3_otherMayBe [v_R (some a0), v_I x1, v_I x2, v_I x3] h M (some (v_I r)) h M := mt_of (by decide) (Nat.le_of_ble_eq_true rfl) (fun v _ X hF => q_X3_otherMayBe_0 X h a0 hF x1 x2 x3 hm)
theorem yv_X3_otherMayBe : Yv_ yX3_otherMayBe cX3_otherMayBe 4 ((some .boolean)) 3 3 := ⟨rfl, by decide, ⟨by decide, by decide, by decide +kernel⟩, co_X3_otherMayBe, im_X3_otherMayBe, se_X3_otherMayBe, ini_X3⟩

abbrev rm_X3_placeOf : Room := { frames := 1, cells := 0, slots := 0, locals := 21 }
def f_X3_placeOf (h : Hpx) (a0 : Nat) (x1 : Int32) (x2 : Int32) : Option (Int32) :=
  (if h_k h a0 = 4 then
  (f_X3_readerAt h a0 x1).bind fun r23 =>
  (if r23 = none then
  some (-1 : Int32)
  else r23.bind fun a25 =>
  (if h_k h a25 = 2 then
  (f_X1_placeIn h a25 x2).bind fun r28 =>
  some r28 else none)) else none)
set_option maxHeartbeats 4000000 in
theorem q_X3_placeOf_0 {v : Evx} {g : Gvx} {M : Msx} {r : Int32} (X : Cx_ v g cX3_placeOf 4 RX3 "placeOf" ((some .int)) rm_X3_placeOf) (h : Hpx) (a0 : Nat) (hF : Fi_ v g rm_X3_placeOf (some (v_I r)) h M) (x1 : Int32) (x2 : Int32) (hm : f_X3_placeOf h a0 x1 x2 = some r) : At_ v g 4 h M 0 0 0 [(0, v_R (some a0)), (1, v_I x1), (2, v_I x2)] [] := by
  unfold f_X3_placeOf at hm
  refine a_aload_n X dX3_placeOf_0 rfl ?_
  refine a_iload_n X dX3_placeOf_1 rfl ?_
  obtain ⟨k21, hm⟩ := i_c hm
  obtain ⟨r23, q22, hm⟩ := i_b hm
  refine a_callV (k' := 0) (n' := 0) (st := []) X (c_X3_readerAt q22) yv_X3_readerAt ml_X3_73 rfl (Or.inl k21) ⟨by decide, by decide, by decide, by decide, Nat.le_of_ble_eq_true rfl⟩ rfl rfl dX3_placeOf_2 rfl rfl ?_
  show At_ v g 4 h M 0 0 5 [(0, v_R (some a0)), (1, v_I x1), (2, v_I x2)] [v_R r23]
  refine a_astore_n (lv' := [(0, v_R (some a0)), (1, v_I x1), (2, v_I x2), (3, v_R r23)]) X dX3_placeOf_5 (by decide) rfl ?_
  refine a_aload_n X dX3_placeOf_6 rfl ?_
  refine a_ifnonnull (tgt := 14) X dX3_placeOf_7 (by decide) hm (fun c24 hm => ?_) (fun c24 hm => ?_)
  · refine a_aload_n X dX3_placeOf_14 rfl ?_
    refine a_iload_n X dX3_placeOf_15 rfl ?_
    obtain ⟨a25, ea25, hm⟩ := i_b hm
    obtain ⟨k26, hm⟩ := i_c hm
    obtain ⟨r28, q27, hm⟩ := i_b hm
    refine a_callV (k' := 0) (n' := 0) (st := []) X (c_X1_placeIn q27) yv_X1_placeIn ml_X3_80 ea25 (Or.inl k26) ⟨by decide, by decide, by decide, by decide, Nat.le_of_ble_eq_true rfl⟩ rfl rfl dX3_placeOf_16 rfl rfl ?_
    show At_ v g 4 h M 0 0 19 [(0, v_R (some a0)), (1, v_I x1), (2, v_I x2), (3, v_R r23)] [v_I r28]
    exact a_iret X hF ⟨rfl, rfl, Option.some.inj hm⟩ (by decide) dX3_placeOf_19
  · refine a_iconst (x := -1) X dX3_placeOf_10 (by decide) ?_
    refine a_goto (tgt := 19) X dX3_placeOf_11 (by decide) ?_
    exact a_iret X hF ⟨rfl, rfl, Option.some.inj hm⟩ (by decide) dX3_placeOf_19
theorem c_X3_placeOf {l : Launch} {g : Gvx} {h : Hpx} {M : Msx} {r : Int32} {a0 : Nat} {x1 : Int32} {x2 : Int32} (hm : f_X3_placeOf h a0 x1 x2 = some r) : Mt_ l g yX3_placeOf cX3_placeOf 4 ((some .int)) rm_X3_placeOf [v_R (some a0), v_I x1, v_I x2] h M (some (v_I r)) h M := mt_of (by decide) (Nat.le_of_ble_eq_true rfl) (fun v _ X hF => q_X3_placeOf_0 X h a0 hF x1 x2 hm)
theorem yv_X3_placeOf : Yv_ yX3_placeOf cX3_placeOf 4 ((some .int)) 2 3 := ⟨rfl, by decide, ⟨by decide, by decide, by decide +kernel⟩, co_X3_placeOf, im_X3_placeOf, se_X3_placeOf, ini_X3⟩

abbrev rm_X3_reader : Room := { frames := 4, cells := 146, slots := 1124, locals := 80 }
def j_X3_reader_63 (a0 : Nat) (h : Hpx) (x1 : Int32) (x3 : Int32) (x4 : Option Nat) : Option (Hpx × Int32) :=
  (if h_k h a0 = 4 then
  (if (h_I h a0 5) < (16 : Int32) then
  c_l (f_X3_newReader h a0 x1 x4 x3) fun h38 r39 =>
  (h_R h a0 1).bind fun a40 =>
  (if h_k h38 a40 = 11 then
  (if in_b (h_I h a0 5) (h_n h38 a40) = true then
  r39.bind fun a43 =>
  (if h_k h38 a43 = 2 then
  b_d (s_R h38 a40 (h_I h a0 5).toNatClampNeg r39) fun h45 =>
  (if h_k h45 a0 = 4 then
  b_d (s_I h45 a0 5 ((h_I h45 a0 5) + (1 : Int32))) fun h47 =>
  (if x1 = (4 : Int32) then
  b_d (s_I h47 a0 6 ((h_I h47 a0 6) + (33 : Int32))) fun h50 =>
  some (h50, (h_I h a0 5))
  else b_d (s_I h47 a0 6 ((h_I h47 a0 6) + (1 : Int32))) fun h49 =>
  some (h49, (h_I h a0 5))) else none) else none) else none) else none)
  else some (h, (-4 : Int32))) else none)
set_option maxHeartbeats 4000000 in
theorem q_X3_reader_63 {v : Evx} {g : Gvx} {M : Msx} {h' : Hpx} {r : Int32} (X : Cx_ v g cX3_reader 6 RX3 "reader" ((some .int)) rm_X3_reader) (a0 : Nat) (hF : Fi_ v g rm_X3_reader (some (v_I r)) h' M) (h : Hpx) (x1 : Int32) (x3 : Int32) (x4 : Option Nat) (hm : j_X3_reader_63 a0 h x1 x3 x4 = some (h', r)) : At_ v g 6 h M 0 0 63 [(0, v_R (some a0)), (1, v_I x1), (3, v_I x3), (4, v_R x4)] [] := by
  unfold j_X3_reader_63 at hm
  refine a_aload_n X dX3_reader_63 rfl ?_
  obtain ⟨k35, hm⟩ := i_c hm
  refine a_getI X 3 5 rfl k35 (by decide) rfl fl_X3_66 dX3_reader_64 ?_
  refine a_bipush (x := 16) X dX3_reader_67 (by decide) ?_
  refine a_icmp_lt (tgt := 75) X dX3_reader_69 (by decide) hm (fun c36 hm => ?_) (fun c36 hm => ?_)
  · refine a_aload_n X dX3_reader_75 rfl ?_
    refine a_getI X 3 5 rfl k35 (by decide) rfl fl_X3_66 dX3_reader_76 ?_
    refine a_istore (lv' := [(0, v_R (some a0)), (1, v_I x1), (3, v_I x3), (4, v_R x4), (5, v_I (h_I h a0 5))]) X dX3_reader_79 (by decide) rfl ?_
    refine a_aload_n X dX3_reader_81 rfl ?_
    refine a_getR X 3 1 rfl k35 (by decide) rfl fl_X3_17 dX3_reader_82 ?_
    refine a_iload X dX3_reader_85 rfl ?_
    refine a_aload_n X dX3_reader_87 rfl ?_
    refine a_iload_n X dX3_reader_88 rfl ?_
    refine a_aload X dX3_reader_89 rfl ?_
    refine a_iload_n X dX3_reader_91 rfl ?_
    obtain ⟨h38, r39, q37, hm⟩ := i_l hm
    refine a_callV (k' := 146) (n' := 1124) (st := [v_I (h_I h a0 5), v_R (h_R h a0 1)]) X (c_X3_newReader q37) yv_X3_newReader ml_X3_69 rfl (Or.inl k35) ⟨by decide, by decide, by decide, by decide, Nat.le_of_ble_eq_true rfl⟩ rfl rfl dX3_reader_92 rfl rfl ?_
    show At_ v g 6 h38 M 146 1124 95 [(0, v_R (some a0)), (1, v_I x1), (3, v_I x3), (4, v_R x4), (5, v_I (h_I h a0 5))] [v_R r39, v_I (h_I h a0 5), v_R (h_R h a0 1)]
    obtain ⟨a40, ea40, hm⟩ := i_b hm
    obtain ⟨k41, hm⟩ := i_c hm
    obtain ⟨b42, hm⟩ := i_c hm
    obtain ⟨a43, ea43, hm⟩ := i_b hm
    obtain ⟨k44, hm⟩ := i_c hm
    obtain ⟨h45, eh45, hm⟩ := i_d hm
    refine a_aast X 5 1 ea40 ea43 k41 (by decide) k44 (by decide) rfl b42 dX3_reader_95 ?_
    rw [← eh45]
    refine a_aload_n X dX3_reader_96 rfl ?_
    refine a_dup X dX3_reader_97 rfl ?_
    obtain ⟨k46, hm⟩ := i_c hm
    refine a_getI X 3 5 rfl k46 (by decide) rfl fl_X3_66 dX3_reader_98 ?_
    refine a_iconst (x := 1) X dX3_reader_101 (by decide) ?_
    refine a_iadd X dX3_reader_102 ?_
    obtain ⟨h47, eh47, hm⟩ := i_d hm
    refine a_putI X 3 5 false rfl k46 (by decide) rfl rfl (fun q => by cases q) rfl rfl fl_X3_66 dX3_reader_103 ?_
    rw [← eh47]
    refine a_aload_n X dX3_reader_106 rfl ?_
    refine a_dup X dX3_reader_107 rfl ?_
    refine a_getI X 3 6 rfl (kk_I eh47 k46) (by decide) rfl fl_X3_51 dX3_reader_108 ?_
    refine a_iload_n X dX3_reader_111 rfl ?_
    refine a_iconst (x := 4) X dX3_reader_112 (by decide) ?_
    refine a_icmp_ne (tgt := 121) X dX3_reader_113 (by decide) hm (fun c48 hm => ?_) (fun c48 hm => ?_)
    · refine a_iconst (x := 1) X dX3_reader_121 (by decide) ?_
      refine a_iadd X dX3_reader_122 ?_
      obtain ⟨h49, eh49, hm⟩ := i_d hm
      refine a_putI X 3 6 false rfl (kk_I eh47 k46) (by decide) rfl rfl (fun q => by cases q) rfl rfl fl_X3_51 dX3_reader_123 ?_
      rw [← eh49]
      refine a_iload X dX3_reader_126 rfl ?_
      exact a_iret X hF ⟨(Prod.mk.inj (Option.some.inj hm)).1, rfl, (Prod.mk.inj (Option.some.inj hm)).2⟩ (by decide) dX3_reader_128
    · refine a_bipush (x := 33) X dX3_reader_116 (by decide) ?_
      refine a_goto (tgt := 122) X dX3_reader_118 (by decide) ?_
      refine a_iadd X dX3_reader_122 ?_
      obtain ⟨h50, eh50, hm⟩ := i_d hm
      refine a_putI X 3 6 false rfl (kk_I eh47 k46) (by decide) rfl rfl (fun q => by cases q) rfl rfl fl_X3_51 dX3_reader_123 ?_
      rw [← eh50]
      refine a_iload X dX3_reader_126 rfl ?_
      exact a_iret X hF ⟨(Prod.mk.inj (Option.some.inj hm)).1, rfl, (Prod.mk.inj (Option.some.inj hm)).2⟩ (by decide) dX3_reader_128
  · refine a_bipush (x := -4) X dX3_reader_72 (by decide) ?_
    exact a_iret X hF ⟨(Prod.mk.inj (Option.some.inj hm)).1, rfl, (Prod.mk.inj (Option.some.inj hm)).2⟩ (by decide) dX3_reader_74
def f_X3_reader (h : Hpx) (a0 : Nat) (x1 : Int32) (x2 : Int32) (x3 : Int32) : Option (Hpx × Int32) :=
  (if h_k h a0 = 4 then
  (f_X3_ringAt h a0 x2).bind fun r23 =>
  (if x1 < (1 : Int32) then
  some (h, (-1 : Int32))
  else (if (7 : Int32) < x1 then
  some (h, (-1 : Int32))
  else (if r23 = none then
  some (h, (-1 : Int32))
  else (f_X3_otherMayBe h a0 x1 x2 x3).bind fun r28 =>
  (if r28 = 0 then
  some (h, (-1 : Int32))
  else (if (h_I h a0 11) = 0 then
  (if x1 = (6 : Int32) then
  (f_X3_placeOf h a0 x3 x2).bind fun r33 =>
  (if 0 ≤ r33 then
  j_X3_reader_63 a0 h x1 x3 r23
  else some (h, (-3 : Int32)))
  else j_X3_reader_63 a0 h x1 x3 r23)
  else some (h, (-2 : Int32))))))) else none)
set_option maxHeartbeats 4000000 in
theorem q_X3_reader_0 {v : Evx} {g : Gvx} {M : Msx} {h' : Hpx} {r : Int32} (X : Cx_ v g cX3_reader 6 RX3 "reader" ((some .int)) rm_X3_reader) (a0 : Nat) (hF : Fi_ v g rm_X3_reader (some (v_I r)) h' M) (h : Hpx) (x1 : Int32) (x2 : Int32) (x3 : Int32) (hm : f_X3_reader h a0 x1 x2 x3 = some (h', r)) : At_ v g 6 h M 0 0 0 [(0, v_R (some a0)), (1, v_I x1), (2, v_I x2), (3, v_I x3)] [] := by
  unfold f_X3_reader at hm
  refine a_aload_n X dX3_reader_0 rfl ?_
  refine a_iload_n X dX3_reader_1 rfl ?_
  obtain ⟨k21, hm⟩ := i_c hm
  obtain ⟨r23, q22, hm⟩ := i_b hm
  refine a_callV (k' := 0) (n' := 0) (st := []) X (c_X3_ringAt q22) yv_X3_ringAt ml_X3_54 rfl (Or.inl k21) ⟨by decide, by decide, by decide, by decide, Nat.le_of_ble_eq_true rfl⟩ rfl rfl dX3_reader_2 rfl rfl ?_
  show At_ v g 6 h M 0 0 5 [(0, v_R (some a0)), (1, v_I x1), (2, v_I x2), (3, v_I x3)] [v_R r23]
  refine a_astore (lv' := [(0, v_R (some a0)), (1, v_I x1), (2, v_I x2), (3, v_I x3), (4, v_R r23)]) X dX3_reader_5 (by decide) rfl ?_
  refine a_iload_n X dX3_reader_7 rfl ?_
  refine a_iconst (x := 1) X dX3_reader_8 (by decide) ?_
  refine a_icmp_lt (tgt := 33) X dX3_reader_9 (by decide) hm (fun c24 hm => ?_) (fun c24 hm => ?_)
  · refine a_iconst (x := -1) X dX3_reader_33 (by decide) ?_
    exact a_iret X hF ⟨(Prod.mk.inj (Option.some.inj hm)).1, rfl, (Prod.mk.inj (Option.some.inj hm)).2⟩ (by decide) dX3_reader_34
  · refine a_iload_n X dX3_reader_12 rfl ?_
    refine a_bipush (x := 7) X dX3_reader_13 (by decide) ?_
    refine a_icmp_gt (tgt := 33) X dX3_reader_15 (by decide) hm (fun c25 hm => ?_) (fun c25 hm => ?_)
    · refine a_iconst (x := -1) X dX3_reader_33 (by decide) ?_
      exact a_iret X hF ⟨(Prod.mk.inj (Option.some.inj hm)).1, rfl, (Prod.mk.inj (Option.some.inj hm)).2⟩ (by decide) dX3_reader_34
    · refine a_aload X dX3_reader_18 rfl ?_
      refine a_ifnull (tgt := 33) X dX3_reader_20 (by decide) hm (fun c26 hm => ?_) (fun c26 hm => ?_)
      · refine a_iconst (x := -1) X dX3_reader_33 (by decide) ?_
        exact a_iret X hF ⟨(Prod.mk.inj (Option.some.inj hm)).1, rfl, (Prod.mk.inj (Option.some.inj hm)).2⟩ (by decide) dX3_reader_34
      · refine a_aload_n X dX3_reader_23 rfl ?_
        refine a_iload_n X dX3_reader_24 rfl ?_
        refine a_iload_n X dX3_reader_25 rfl ?_
        refine a_iload_n X dX3_reader_26 rfl ?_
        obtain ⟨r28, q27, hm⟩ := i_b hm
        refine a_callV (k' := 0) (n' := 0) (st := []) X (c_X3_otherMayBe q27) yv_X3_otherMayBe ml_X3_58 rfl (Or.inl k21) ⟨by decide, by decide, by decide, by decide, Nat.le_of_ble_eq_true rfl⟩ rfl rfl dX3_reader_27 rfl rfl ?_
        show At_ v g 6 h M 0 0 30 [(0, v_R (some a0)), (1, v_I x1), (2, v_I x2), (3, v_I x3), (4, v_R r23)] [v_I r28]
        refine a_if_ne (tgt := 35) X dX3_reader_30 (by decide) hm (fun c29 hm => ?_) (fun c29 hm => ?_)
        · refine a_aload_n X dX3_reader_35 rfl ?_
          refine a_getI X 3 11 rfl k21 (by decide) rfl fl_X3_41 dX3_reader_36 ?_
          refine a_if_eq (tgt := 45) X dX3_reader_39 (by decide) hm (fun c30 hm => ?_) (fun c30 hm => ?_)
          · refine a_iload_n X dX3_reader_45 rfl ?_
            refine a_bipush (x := 6) X dX3_reader_46 (by decide) ?_
            refine a_icmp_ne (tgt := 63) X dX3_reader_48 (by decide) hm (fun c31 hm => ?_) (fun c31 hm => ?_)
            · refine a_pick (lv' := [(0, v_R (some a0)), (1, v_I x1), (3, v_I x3), (4, v_R r23)]) [0, 1, 3, 4] rfl ?_
              exact q_X3_reader_63 X a0 hF h x1 x3 r23 hm
            · refine a_aload_n X dX3_reader_51 rfl ?_
              refine a_iload_n X dX3_reader_52 rfl ?_
              refine a_iload_n X dX3_reader_53 rfl ?_
              obtain ⟨r33, q32, hm⟩ := i_b hm
              refine a_callV (k' := 0) (n' := 0) (st := []) X (c_X3_placeOf q32) yv_X3_placeOf ml_X3_62 rfl (Or.inl k21) ⟨by decide, by decide, by decide, by decide, Nat.le_of_ble_eq_true rfl⟩ rfl rfl dX3_reader_54 rfl rfl ?_
              show At_ v g 6 h M 0 0 57 [(0, v_R (some a0)), (1, v_I x1), (2, v_I x2), (3, v_I x3), (4, v_R r23)] [v_I r33]
              refine a_if_ge (tgt := 63) X dX3_reader_57 (by decide) hm (fun c34 hm => ?_) (fun c34 hm => ?_)
              · refine a_pick (lv' := [(0, v_R (some a0)), (1, v_I x1), (3, v_I x3), (4, v_R r23)]) [0, 1, 3, 4] rfl ?_
                exact q_X3_reader_63 X a0 hF h x1 x3 r23 hm
              · refine a_bipush (x := -3) X dX3_reader_60 (by decide) ?_
                exact a_iret X hF ⟨(Prod.mk.inj (Option.some.inj hm)).1, rfl, (Prod.mk.inj (Option.some.inj hm)).2⟩ (by decide) dX3_reader_62
          · refine a_bipush (x := -2) X dX3_reader_42 (by decide) ?_
            exact a_iret X hF ⟨(Prod.mk.inj (Option.some.inj hm)).1, rfl, (Prod.mk.inj (Option.some.inj hm)).2⟩ (by decide) dX3_reader_44
        · refine a_iconst (x := -1) X dX3_reader_33 (by decide) ?_
          exact a_iret X hF ⟨(Prod.mk.inj (Option.some.inj hm)).1, rfl, (Prod.mk.inj (Option.some.inj hm)).2⟩ (by decide) dX3_reader_34
theorem c_X3_reader {l : Launch} {g : Gvx} {h : Hpx} {M : Msx} {h' : Hpx} {r : Int32} {a0 : Nat} {x1 : Int32} {x2 : Int32} {x3 : Int32} (hm : f_X3_reader h a0 x1 x2 x3 = some (h', r)) : Mt_ l g yX3_reader cX3_reader 6 ((some .int)) rm_X3_reader [v_R (some a0), v_I x1, v_I x2, v_I x3] h M (some (v_I r)) h' M := mt_of (by decide) (Nat.le_of_ble_eq_true rfl) (fun v _ X hF => q_X3_reader_0 X a0 hF h x1 x2 x3 hm)
theorem yv_X3_reader : Yv_ yX3_reader cX3_reader 6 ((some .int)) 3 3 := ⟨rfl, by decide, ⟨by decide, by decide, by decide +kernel⟩, co_X3_reader, im_X3_reader, se_X3_reader, ini_X3⟩

abbrev rm_X3_join : Room := { frames := 1, cells := 0, slots := 0, locals := 21 }
def f_X3_join (h : Hpx) (a0 : Nat) (x1 : Int32) (x2 : Int32) : Option (Hpx × Int32) :=
  (if h_k h a0 = 4 then
  (f_X3_readerAt h a0 x1).bind fun r23 =>
  (if r23 = none then
  some (h, (-1 : Int32))
  else (f_X3_ringAt h a0 x2).bind fun r26 =>
  (if r26 = none then
  some (h, (-1 : Int32))
  else (if (h_I h a0 11) = 0 then
  r23.bind fun a29 =>
  (if h_k h a29 = 2 then
  (if (h_I h a29 0) = (5 : Int32) then
  (f_X1_placeIn h a29 x2).bind fun r33 =>
  (if r33 < 0 then
  (if (h_I h a29 7) < (4 : Int32) then
  (f_X1_standIn h a29 x2).bind fun h37 =>
  some (h37, (1 : Int32))
  else some (h, (-4 : Int32)))
  else some (h, (-5 : Int32)))
  else some (h, (-3 : Int32))) else none)
  else some (h, (-2 : Int32))))) else none)
set_option maxHeartbeats 4000000 in
theorem q_X3_join_0 {v : Evx} {g : Gvx} {M : Msx} {h' : Hpx} {r : Int32} (X : Cx_ v g cX3_join 4 RX3 "join" ((some .int)) rm_X3_join) (a0 : Nat) (hF : Fi_ v g rm_X3_join (some (v_I r)) h' M) (h : Hpx) (x1 : Int32) (x2 : Int32) (hm : f_X3_join h a0 x1 x2 = some (h', r)) : At_ v g 4 h M 0 0 0 [(0, v_R (some a0)), (1, v_I x1), (2, v_I x2)] [] := by
  unfold f_X3_join at hm
  refine a_aload_n X dX3_join_0 rfl ?_
  refine a_iload_n X dX3_join_1 rfl ?_
  obtain ⟨k21, hm⟩ := i_c hm
  obtain ⟨r23, q22, hm⟩ := i_b hm
  refine a_callV (k' := 0) (n' := 0) (st := []) X (c_X3_readerAt q22) yv_X3_readerAt ml_X3_73 rfl (Or.inl k21) ⟨by decide, by decide, by decide, by decide, Nat.le_of_ble_eq_true rfl⟩ rfl rfl dX3_join_2 rfl rfl ?_
  show At_ v g 4 h M 0 0 5 [(0, v_R (some a0)), (1, v_I x1), (2, v_I x2)] [v_R r23]
  refine a_astore_n (lv' := [(0, v_R (some a0)), (1, v_I x1), (2, v_I x2), (3, v_R r23)]) X dX3_join_5 (by decide) rfl ?_
  refine a_aload_n X dX3_join_6 rfl ?_
  refine a_ifnull (tgt := 18) X dX3_join_7 (by decide) hm (fun c24 hm => ?_) (fun c24 hm => ?_)
  · refine a_iconst (x := -1) X dX3_join_18 (by decide) ?_
    exact a_iret X hF ⟨(Prod.mk.inj (Option.some.inj hm)).1, rfl, (Prod.mk.inj (Option.some.inj hm)).2⟩ (by decide) dX3_join_19
  · refine a_aload_n X dX3_join_10 rfl ?_
    refine a_iload_n X dX3_join_11 rfl ?_
    obtain ⟨r26, q25, hm⟩ := i_b hm
    refine a_callV (k' := 0) (n' := 0) (st := []) X (c_X3_ringAt q25) yv_X3_ringAt ml_X3_54 rfl (Or.inl k21) ⟨by decide, by decide, by decide, by decide, Nat.le_of_ble_eq_true rfl⟩ rfl rfl dX3_join_12 rfl rfl ?_
    show At_ v g 4 h M 0 0 15 [(0, v_R (some a0)), (1, v_I x1), (2, v_I x2), (3, v_R r23)] [v_R r26]
    refine a_ifnonnull (tgt := 20) X dX3_join_15 (by decide) hm (fun c27 hm => ?_) (fun c27 hm => ?_)
    · refine a_aload_n X dX3_join_20 rfl ?_
      refine a_getI X 3 11 rfl k21 (by decide) rfl fl_X3_41 dX3_join_21 ?_
      refine a_if_eq (tgt := 30) X dX3_join_24 (by decide) hm (fun c28 hm => ?_) (fun c28 hm => ?_)
      · refine a_aload_n X dX3_join_30 rfl ?_
        obtain ⟨a29, ea29, hm⟩ := i_b hm
        obtain ⟨k30, hm⟩ := i_c hm
        refine a_getI X 1 0 ea29 k30 (by decide) rfl fl_X3_77 dX3_join_31 ?_
        refine a_iconst (x := 5) X dX3_join_34 (by decide) ?_
        refine a_icmp_eq (tgt := 41) X dX3_join_35 (by decide) hm (fun c31 hm => ?_) (fun c31 hm => ?_)
        · refine a_aload_n X dX3_join_41 rfl ?_
          refine a_iload_n X dX3_join_42 rfl ?_
          obtain ⟨r33, q32, hm⟩ := i_b hm
          refine a_callV (k' := 0) (n' := 0) (st := []) X (c_X1_placeIn q32) yv_X1_placeIn ml_X3_80 ea29 (Or.inl k30) ⟨by decide, by decide, by decide, by decide, Nat.le_of_ble_eq_true rfl⟩ rfl rfl dX3_join_43 rfl rfl ?_
          show At_ v g 4 h M 0 0 46 [(0, v_R (some a0)), (1, v_I x1), (2, v_I x2), (3, v_R r23)] [v_I r33]
          refine a_if_lt (tgt := 52) X dX3_join_46 (by decide) hm (fun c34 hm => ?_) (fun c34 hm => ?_)
          · refine a_aload_n X dX3_join_52 rfl ?_
            refine a_getI X 1 7 ea29 k30 (by decide) rfl fl_X3_83 dX3_join_53 ?_
            refine a_iconst (x := 4) X dX3_join_56 (by decide) ?_
            refine a_icmp_lt (tgt := 63) X dX3_join_57 (by decide) hm (fun c35 hm => ?_) (fun c35 hm => ?_)
            · refine a_aload_n X dX3_join_63 rfl ?_
              refine a_iload_n X dX3_join_64 rfl ?_
              obtain ⟨h37, q36, hm⟩ := i_b hm
              refine a_callV (k' := 0) (n' := 0) (st := []) X (c_X1_standIn q36) yv_X1_standIn ml_X3_86 ea29 (Or.inl k30) ⟨by decide, by decide, by decide, by decide, Nat.le_of_ble_eq_true rfl⟩ rfl rfl dX3_join_65 rfl rfl ?_
              show At_ v g 4 h37 M 0 0 68 [(0, v_R (some a0)), (1, v_I x1), (2, v_I x2), (3, v_R r23)] []
              refine a_iconst (x := 1) X dX3_join_68 (by decide) ?_
              exact a_iret X hF ⟨(Prod.mk.inj (Option.some.inj hm)).1, rfl, (Prod.mk.inj (Option.some.inj hm)).2⟩ (by decide) dX3_join_69
            · refine a_bipush (x := -4) X dX3_join_60 (by decide) ?_
              exact a_iret X hF ⟨(Prod.mk.inj (Option.some.inj hm)).1, rfl, (Prod.mk.inj (Option.some.inj hm)).2⟩ (by decide) dX3_join_62
          · refine a_bipush (x := -5) X dX3_join_49 (by decide) ?_
            exact a_iret X hF ⟨(Prod.mk.inj (Option.some.inj hm)).1, rfl, (Prod.mk.inj (Option.some.inj hm)).2⟩ (by decide) dX3_join_51
        · refine a_bipush (x := -3) X dX3_join_38 (by decide) ?_
          exact a_iret X hF ⟨(Prod.mk.inj (Option.some.inj hm)).1, rfl, (Prod.mk.inj (Option.some.inj hm)).2⟩ (by decide) dX3_join_40
      · refine a_bipush (x := -2) X dX3_join_27 (by decide) ?_
        exact a_iret X hF ⟨(Prod.mk.inj (Option.some.inj hm)).1, rfl, (Prod.mk.inj (Option.some.inj hm)).2⟩ (by decide) dX3_join_29
    · refine a_iconst (x := -1) X dX3_join_18 (by decide) ?_
      exact a_iret X hF ⟨(Prod.mk.inj (Option.some.inj hm)).1, rfl, (Prod.mk.inj (Option.some.inj hm)).2⟩ (by decide) dX3_join_19
theorem c_X3_join {l : Launch} {g : Gvx} {h : Hpx} {M : Msx} {h' : Hpx} {r : Int32} {a0 : Nat} {x1 : Int32} {x2 : Int32} (hm : f_X3_join h a0 x1 x2 = some (h', r)) : Mt_ l g yX3_join cX3_join 4 ((some .int)) rm_X3_join [v_R (some a0), v_I x1, v_I x2] h M (some (v_I r)) h' M := mt_of (by decide) (Nat.le_of_ble_eq_true rfl) (fun v _ X hF => q_X3_join_0 X a0 hF h x1 x2 hm)
theorem yv_X3_join : Yv_ yX3_join cX3_join 4 ((some .int)) 2 3 := ⟨rfl, by decide, ⟨by decide, by decide, by decide +kernel⟩, co_X3_join, im_X3_join, se_X3_join, ini_X3⟩

abbrev rm_X3_namesOfAll : Room := { frames := 1, cells := 0, slots := 0, locals := 21 }
def j_X3_namesOfAll_4 (h : Hpx) (a0 : Nat) (rec_4 : Int32 → Int32 → Int32 → Option (Int32)) (x1 : Int32) (x2 : Int32) (x3 : Int32) : Option (Int32) :=
  (if (16 : Int32) ≤ x3 then
  some x2
  else (if h_k h a0 = 4 then
  (f_X3_readerAt h a0 x3).bind fun r24 =>
  (if r24 = none then
  rec_4 x1 x2 (x3 + (1 : Int32))
  else (if ((x1 >>> (x3 &&& 31)) &&& (1 : Int32)) = 0 then
  rec_4 x1 x2 (x3 + (1 : Int32))
  else r24.bind fun a27 =>
  (if h_k h a27 = 2 then
  rec_4 x1 (x2 ||| (h_I h a27 9)) (x3 + (1 : Int32)) else none))) else none))
set_option maxHeartbeats 4000000 in
theorem q_X3_namesOfAll_4 {v : Evx} {g : Gvx} {M : Msx} {r : Int32} (X : Cx_ v g cX3_namesOfAll 5 RX3 "namesOfAll" ((some .int)) rm_X3_namesOfAll) (h : Hpx) (a0 : Nat) (hF : Fi_ v g rm_X3_namesOfAll (some (v_I r)) h M) (rec_4 : Int32 → Int32 → Int32 → Option (Int32)) (hr_4 : ∀ (x1 : Int32) (x2 : Int32) (x3 : Int32), rec_4 x1 x2 x3 = some r → At_ v g 5 h M 0 0 4 [(0, v_R (some a0)), (1, v_I x1), (2, v_I x2), (3, v_I x3)] []) (x1 : Int32) (x2 : Int32) (x3 : Int32) (hm : j_X3_namesOfAll_4 h a0 rec_4 x1 x2 x3 = some r) : At_ v g 5 h M 0 0 4 [(0, v_R (some a0)), (1, v_I x1), (2, v_I x2), (3, v_I x3)] [] := by
  unfold j_X3_namesOfAll_4 at hm
  refine a_iload_n X dX3_namesOfAll_4 rfl ?_
  refine a_bipush (x := 16) X dX3_namesOfAll_5 (by decide) ?_
  refine a_icmp_ge (tgt := 44) X dX3_namesOfAll_7 (by decide) hm (fun c21 hm => ?_) (fun c21 hm => ?_)
  · refine a_iload_n X dX3_namesOfAll_44 rfl ?_
    exact a_iret X hF ⟨rfl, rfl, Option.some.inj hm⟩ (by decide) dX3_namesOfAll_45
  · refine a_aload_n X dX3_namesOfAll_10 rfl ?_
    refine a_iload_n X dX3_namesOfAll_11 rfl ?_
    obtain ⟨k22, hm⟩ := i_c hm
    obtain ⟨r24, q23, hm⟩ := i_b hm
    refine a_callV (k' := 0) (n' := 0) (st := []) X (c_X3_readerAt q23) yv_X3_readerAt ml_X3_73 rfl (Or.inl k22) ⟨by decide, by decide, by decide, by decide, Nat.le_of_ble_eq_true rfl⟩ rfl rfl dX3_namesOfAll_12 rfl rfl ?_
    show At_ v g 5 h M 0 0 15 [(0, v_R (some a0)), (1, v_I x1), (2, v_I x2), (3, v_I x3)] [v_R r24]
    refine a_astore (lv' := [(0, v_R (some a0)), (1, v_I x1), (2, v_I x2), (3, v_I x3), (4, v_R r24)]) X dX3_namesOfAll_15 (by decide) rfl ?_
    refine a_aload X dX3_namesOfAll_17 rfl ?_
    refine a_ifnull (tgt := 38) X dX3_namesOfAll_19 (by decide) hm (fun c25 hm => ?_) (fun c25 hm => ?_)
    · refine a_iinc (y := x3 + (1 : Int32)) (lv' := [(0, v_R (some a0)), (1, v_I x1), (2, v_I x2), (3, v_I (x3 + (1 : Int32))), (4, v_R r24)]) X dX3_namesOfAll_38 rfl rfl (by decide) rfl ?_
      refine a_goto (tgt := 4) X dX3_namesOfAll_41 (by decide) ?_
      refine a_pick (lv' := [(0, v_R (some a0)), (1, v_I x1), (2, v_I x2), (3, v_I (x3 + (1 : Int32)))]) [0, 1, 2, 3] rfl ?_
      exact hr_4 x1 x2 (x3 + (1 : Int32)) hm
    · refine a_iload_n X dX3_namesOfAll_22 rfl ?_
      refine a_iload_n X dX3_namesOfAll_23 rfl ?_
      refine a_ishr X dX3_namesOfAll_24 ?_
      refine a_iconst (x := 1) X dX3_namesOfAll_25 (by decide) ?_
      refine a_iand X dX3_namesOfAll_26 ?_
      refine a_if_eq (tgt := 38) X dX3_namesOfAll_27 (by decide) hm (fun c26 hm => ?_) (fun c26 hm => ?_)
      · refine a_iinc (y := x3 + (1 : Int32)) (lv' := [(0, v_R (some a0)), (1, v_I x1), (2, v_I x2), (3, v_I (x3 + (1 : Int32))), (4, v_R r24)]) X dX3_namesOfAll_38 rfl rfl (by decide) rfl ?_
        refine a_goto (tgt := 4) X dX3_namesOfAll_41 (by decide) ?_
        refine a_pick (lv' := [(0, v_R (some a0)), (1, v_I x1), (2, v_I x2), (3, v_I (x3 + (1 : Int32)))]) [0, 1, 2, 3] rfl ?_
        exact hr_4 x1 x2 (x3 + (1 : Int32)) hm
      · refine a_iload_n X dX3_namesOfAll_30 rfl ?_
        refine a_aload X dX3_namesOfAll_31 rfl ?_
        obtain ⟨a27, ea27, hm⟩ := i_b hm
        obtain ⟨k28, hm⟩ := i_c hm
        refine a_getI X 1 9 ea27 k28 (by decide) rfl fl_X3_258 dX3_namesOfAll_33 ?_
        refine a_ior X dX3_namesOfAll_36 ?_
        refine a_istore_n (lv' := [(0, v_R (some a0)), (1, v_I x1), (2, v_I (x2 ||| (h_I h a27 9))), (3, v_I x3), (4, v_R r24)]) X dX3_namesOfAll_37 (by decide) rfl ?_
        refine a_iinc (y := x3 + (1 : Int32)) (lv' := [(0, v_R (some a0)), (1, v_I x1), (2, v_I (x2 ||| (h_I h a27 9))), (3, v_I (x3 + (1 : Int32))), (4, v_R r24)]) X dX3_namesOfAll_38 rfl rfl (by decide) rfl ?_
        refine a_goto (tgt := 4) X dX3_namesOfAll_41 (by decide) ?_
        refine a_pick (lv' := [(0, v_R (some a0)), (1, v_I x1), (2, v_I (x2 ||| (h_I h a27 9))), (3, v_I (x3 + (1 : Int32)))]) [0, 1, 2, 3] rfl ?_
        exact hr_4 x1 (x2 ||| (h_I h a27 9)) (x3 + (1 : Int32)) hm
def l_X3_namesOfAll_4 (h : Hpx) (a0 : Nat) (n : Nat) : Int32 → Int32 → Int32 → Option (Int32) := lp_ (fun rec_4 => j_X3_namesOfAll_4 h a0 rec_4) (fun _ _ _ => none) n
theorem ql_X3_namesOfAll_4 {v : Evx} {g : Gvx} {M : Msx} {r : Int32} (X : Cx_ v g cX3_namesOfAll 5 RX3 "namesOfAll" ((some .int)) rm_X3_namesOfAll) (h : Hpx) (a0 : Nat) (hF : Fi_ v g rm_X3_namesOfAll (some (v_I r)) h M) : ∀ (n : Nat) (x1 : Int32) (x2 : Int32) (x3 : Int32), l_X3_namesOfAll_4 h a0 n x1 x2 x3 = some r → At_ v g 5 h M 0 0 4 [(0, v_R (some a0)), (1, v_I x1), (2, v_I x2), (3, v_I x3)] [] := by
  intro n
  induction n with
  | zero => intro x1 x2 x3 hm; cases hm
  | succ n ih =>
    intro x1 x2 x3 hm
    exact q_X3_namesOfAll_4 X h a0 hF (l_X3_namesOfAll_4 h a0 n) ih x1 x2 x3 hm
def f_X3_namesOfAll (h : Hpx) (a0 : Nat) (x1 : Int32) : Option (Int32) :=
  l_X3_namesOfAll_4 h a0 70 x1 (0 : Int32) (0 : Int32)
set_option maxHeartbeats 4000000 in
theorem q_X3_namesOfAll_0 {v : Evx} {g : Gvx} {M : Msx} {r : Int32} (X : Cx_ v g cX3_namesOfAll 5 RX3 "namesOfAll" ((some .int)) rm_X3_namesOfAll) (h : Hpx) (a0 : Nat) (hF : Fi_ v g rm_X3_namesOfAll (some (v_I r)) h M) (x1 : Int32) (hm : f_X3_namesOfAll h a0 x1 = some r) : At_ v g 5 h M 0 0 0 [(0, v_R (some a0)), (1, v_I x1)] [] := by
  unfold f_X3_namesOfAll at hm
  refine a_iconst (x := 0) X dX3_namesOfAll_0 (by decide) ?_
  refine a_istore_n (lv' := [(0, v_R (some a0)), (1, v_I x1), (2, v_I (0 : Int32))]) X dX3_namesOfAll_1 (by decide) rfl ?_
  refine a_iconst (x := 0) X dX3_namesOfAll_2 (by decide) ?_
  refine a_istore_n (lv' := [(0, v_R (some a0)), (1, v_I x1), (2, v_I (0 : Int32)), (3, v_I (0 : Int32))]) X dX3_namesOfAll_3 (by decide) rfl ?_
  exact ql_X3_namesOfAll_4 X h a0 hF 70 x1 (0 : Int32) (0 : Int32) hm
theorem c_X3_namesOfAll {l : Launch} {g : Gvx} {h : Hpx} {M : Msx} {r : Int32} {a0 : Nat} {x1 : Int32} (hm : f_X3_namesOfAll h a0 x1 = some r) : Mt_ l g yX3_namesOfAll cX3_namesOfAll 5 ((some .int)) rm_X3_namesOfAll [v_R (some a0), v_I x1] h M (some (v_I r)) h M := mt_of (by decide) (Nat.le_of_ble_eq_true rfl) (fun v _ X hF => q_X3_namesOfAll_0 X h a0 hF x1 hm)
theorem yv_X3_namesOfAll : Yv_ yX3_namesOfAll cX3_namesOfAll 5 ((some .int)) 1 3 := ⟨rfl, by decide, ⟨by decide, by decide, by decide +kernel⟩, co_X3_namesOfAll, im_X3_namesOfAll, se_X3_namesOfAll, ini_X3⟩

abbrev rm_X3_leadsTo : Room := { frames := 2, cells := 0, slots := 0, locals := 45 }
def j_X3_leadsTo_11 (h : Hpx) (a0 : Nat) (rec_11 : Int32 → Int32 → Int32 → Option (Int32)) (x2 : Int32) (x3 : Int32) (x4 : Int32) : Option (Int32) :=
  (if (16 : Int32) ≤ x4 then
  (if ((x3 >>> (x2 &&& 31)) &&& (1 : Int32)) = 0 then
  some (0 : Int32)
  else some (1 : Int32))
  else (if h_k h a0 = 4 then
  (f_X3_namesOfAll h a0 x3).bind fun r28 =>
  rec_11 x2 (x3 ||| r28) (x4 + (1 : Int32)) else none))
set_option maxHeartbeats 4000000 in
theorem q_X3_leadsTo_11 {v : Evx} {g : Gvx} {M : Msx} {r : Int32} (X : Cx_ v g cX3_leadsTo 5 RX3 "leadsTo" ((some .boolean)) rm_X3_leadsTo) (h : Hpx) (a0 : Nat) (hF : Fi_ v g rm_X3_leadsTo (some (v_I r)) h M) (rec_11 : Int32 → Int32 → Int32 → Option (Int32)) (hr_11 : ∀ (x2 : Int32) (x3 : Int32) (x4 : Int32), rec_11 x2 x3 x4 = some r → At_ v g 5 h M 0 0 11 [(0, v_R (some a0)), (2, v_I x2), (3, v_I x3), (4, v_I x4)] []) (x2 : Int32) (x3 : Int32) (x4 : Int32) (hm : j_X3_leadsTo_11 h a0 rec_11 x2 x3 x4 = some r) : At_ v g 5 h M 0 0 11 [(0, v_R (some a0)), (2, v_I x2), (3, v_I x3), (4, v_I x4)] [] := by
  unfold j_X3_leadsTo_11 at hm
  refine a_iload X dX3_leadsTo_11 rfl ?_
  refine a_bipush (x := 16) X dX3_leadsTo_13 (by decide) ?_
  refine a_icmp_ge (tgt := 32) X dX3_leadsTo_15 (by decide) hm (fun c24 hm => ?_) (fun c24 hm => ?_)
  · refine a_iload_n X dX3_leadsTo_32 rfl ?_
    refine a_iload_n X dX3_leadsTo_33 rfl ?_
    refine a_ishr X dX3_leadsTo_34 ?_
    refine a_iconst (x := 1) X dX3_leadsTo_35 (by decide) ?_
    refine a_iand X dX3_leadsTo_36 ?_
    refine a_if_eq (tgt := 44) X dX3_leadsTo_37 (by decide) hm (fun c25 hm => ?_) (fun c25 hm => ?_)
    · refine a_iconst (x := 0) X dX3_leadsTo_44 (by decide) ?_
      exact a_zret X hF (Or.inl rfl) ⟨rfl, rfl, Option.some.inj hm⟩ (by decide) dX3_leadsTo_45
    · refine a_iconst (x := 1) X dX3_leadsTo_40 (by decide) ?_
      refine a_goto (tgt := 45) X dX3_leadsTo_41 (by decide) ?_
      exact a_zret X hF (Or.inr rfl) ⟨rfl, rfl, Option.some.inj hm⟩ (by decide) dX3_leadsTo_45
  · refine a_iload_n X dX3_leadsTo_18 rfl ?_
    refine a_aload_n X dX3_leadsTo_19 rfl ?_
    refine a_iload_n X dX3_leadsTo_20 rfl ?_
    obtain ⟨k26, hm⟩ := i_c hm
    obtain ⟨r28, q27, hm⟩ := i_b hm
    refine a_callV (k' := 0) (n' := 0) (st := [v_I x3]) X (c_X3_namesOfAll q27) yv_X3_namesOfAll ml_X3_255 rfl (Or.inl k26) ⟨by decide, by decide, by decide, by decide, Nat.le_of_ble_eq_true rfl⟩ rfl rfl dX3_leadsTo_21 rfl rfl ?_
    show At_ v g 5 h M 0 0 24 [(0, v_R (some a0)), (2, v_I x2), (3, v_I x3), (4, v_I x4)] [v_I r28, v_I x3]
    refine a_ior X dX3_leadsTo_24 ?_
    refine a_istore_n (lv' := [(0, v_R (some a0)), (2, v_I x2), (3, v_I (x3 ||| r28)), (4, v_I x4)]) X dX3_leadsTo_25 (by decide) rfl ?_
    refine a_iinc (y := x4 + (1 : Int32)) (lv' := [(0, v_R (some a0)), (2, v_I x2), (3, v_I (x3 ||| r28)), (4, v_I (x4 + (1 : Int32)))]) X dX3_leadsTo_26 rfl rfl (by decide) rfl ?_
    refine a_goto (tgt := 11) X dX3_leadsTo_29 (by decide) ?_
    exact hr_11 x2 (x3 ||| r28) (x4 + (1 : Int32)) hm
def l_X3_leadsTo_11 (h : Hpx) (a0 : Nat) (n : Nat) : Int32 → Int32 → Int32 → Option (Int32) := lp_ (fun rec_11 => j_X3_leadsTo_11 h a0 rec_11) (fun _ _ _ => none) n
theorem ql_X3_leadsTo_11 {v : Evx} {g : Gvx} {M : Msx} {r : Int32} (X : Cx_ v g cX3_leadsTo 5 RX3 "leadsTo" ((some .boolean)) rm_X3_leadsTo) (h : Hpx) (a0 : Nat) (hF : Fi_ v g rm_X3_leadsTo (some (v_I r)) h M) : ∀ (n : Nat) (x2 : Int32) (x3 : Int32) (x4 : Int32), l_X3_leadsTo_11 h a0 n x2 x3 x4 = some r → At_ v g 5 h M 0 0 11 [(0, v_R (some a0)), (2, v_I x2), (3, v_I x3), (4, v_I x4)] [] := by
  intro n
  induction n with
  | zero => intro x2 x3 x4 hm; cases hm
  | succ n ih =>
    intro x2 x3 x4 hm
    exact q_X3_leadsTo_11 X h a0 hF (l_X3_leadsTo_11 h a0 n) ih x2 x3 x4 hm
def f_X3_leadsTo (h : Hpx) (a0 : Nat) (x1 : Int32) (x2 : Int32) : Option (Int32) :=
  (if h_k h a0 = 4 then
  (f_X3_namesOfAll h a0 ((1 : Int32) <<< (x1 &&& 31))).bind fun r23 =>
  l_X3_leadsTo_11 h a0 70 x2 r23 (0 : Int32) else none)
set_option maxHeartbeats 4000000 in
theorem q_X3_leadsTo_0 {v : Evx} {g : Gvx} {M : Msx} {r : Int32} (X : Cx_ v g cX3_leadsTo 5 RX3 "leadsTo" ((some .boolean)) rm_X3_leadsTo) (h : Hpx) (a0 : Nat) (hF : Fi_ v g rm_X3_leadsTo (some (v_I r)) h M) (x1 : Int32) (x2 : Int32) (hm : f_X3_leadsTo h a0 x1 x2 = some r) : At_ v g 5 h M 0 0 0 [(0, v_R (some a0)), (1, v_I x1), (2, v_I x2)] [] := by
  unfold f_X3_leadsTo at hm
  refine a_aload_n X dX3_leadsTo_0 rfl ?_
  refine a_iconst (x := 1) X dX3_leadsTo_1 (by decide) ?_
  refine a_iload_n X dX3_leadsTo_2 rfl ?_
  refine a_ishl X dX3_leadsTo_3 ?_
  obtain ⟨k21, hm⟩ := i_c hm
  obtain ⟨r23, q22, hm⟩ := i_b hm
  refine a_callV (k' := 0) (n' := 0) (st := []) X (c_X3_namesOfAll q22) yv_X3_namesOfAll ml_X3_255 rfl (Or.inl k21) ⟨by decide, by decide, by decide, by decide, Nat.le_of_ble_eq_true rfl⟩ rfl rfl dX3_leadsTo_4 rfl rfl ?_
  show At_ v g 5 h M 0 0 7 [(0, v_R (some a0)), (1, v_I x1), (2, v_I x2)] [v_I r23]
  refine a_istore_n (lv' := [(0, v_R (some a0)), (1, v_I x1), (2, v_I x2), (3, v_I r23)]) X dX3_leadsTo_7 (by decide) rfl ?_
  refine a_iconst (x := 0) X dX3_leadsTo_8 (by decide) ?_
  refine a_istore (lv' := [(0, v_R (some a0)), (1, v_I x1), (2, v_I x2), (3, v_I r23), (4, v_I (0 : Int32))]) X dX3_leadsTo_9 (by decide) rfl ?_
  refine a_pick (lv' := [(0, v_R (some a0)), (2, v_I x2), (3, v_I r23), (4, v_I (0 : Int32))]) [0, 2, 3, 4] rfl ?_
  exact ql_X3_leadsTo_11 X h a0 hF 70 x2 r23 (0 : Int32) hm
theorem c_X3_leadsTo {l : Launch} {g : Gvx} {h : Hpx} {M : Msx} {r : Int32} {a0 : Nat} {x1 : Int32} {x2 : Int32} (hm : f_X3_leadsTo h a0 x1 x2 = some r) : Mt_ l g yX3_leadsTo cX3_leadsTo 5 ((some .boolean)) rm_X3_leadsTo [v_R (some a0), v_I x1, v_I x2] h M (some (v_I r)) h M := mt_of (by decide) (Nat.le_of_ble_eq_true rfl) (fun v _ X hF => q_X3_leadsTo_0 X h a0 hF x1 x2 hm)
theorem yv_X3_leadsTo : Yv_ yX3_leadsTo cX3_leadsTo 5 ((some .boolean)) 2 3 := ⟨rfl, by decide, ⟨by decide, by decide, by decide +kernel⟩, co_X3_leadsTo, im_X3_leadsTo, se_X3_leadsTo, ini_X3⟩

abbrev rm_X3_leastTowards : Room := { frames := 3, cells := 0, slots := 0, locals := 69 }
def j_X3_leastTowards_21 (h : Hpx) (a0 : Nat) (rec_21 : Int32 → Int32 → Int32 → Option (Int32)) (x2 : Int32) (x3 : Int32) (x4 : Int32) : Option (Int32) :=
  (if (16 : Int32) ≤ x4 then
  some (-1 : Int32)
  else (if ((x3 >>> (x4 &&& 31)) &&& (1 : Int32)) = 0 then
  rec_21 x2 x3 (x4 + (1 : Int32))
  else (if h_k h a0 = 4 then
  (f_X3_leadsTo h a0 x4 x2).bind fun r29 =>
  (if r29 = 0 then
  rec_21 x2 x3 (x4 + (1 : Int32))
  else some x4) else none)))
set_option maxHeartbeats 4000000 in
theorem q_X3_leastTowards_21 {v : Evx} {g : Gvx} {M : Msx} {r : Int32} (X : Cx_ v g cX3_leastTowards 5 RX3 "leastTowards" ((some .int)) rm_X3_leastTowards) (h : Hpx) (a0 : Nat) (hF : Fi_ v g rm_X3_leastTowards (some (v_I r)) h M) (rec_21 : Int32 → Int32 → Int32 → Option (Int32)) (hr_21 : ∀ (x2 : Int32) (x3 : Int32) (x4 : Int32), rec_21 x2 x3 x4 = some r → At_ v g 5 h M 0 0 21 [(0, v_R (some a0)), (2, v_I x2), (3, v_I x3), (4, v_I x4)] []) (x2 : Int32) (x3 : Int32) (x4 : Int32) (hm : j_X3_leastTowards_21 h a0 rec_21 x2 x3 x4 = some r) : At_ v g 5 h M 0 0 21 [(0, v_R (some a0)), (2, v_I x2), (3, v_I x3), (4, v_I x4)] [] := by
  unfold j_X3_leastTowards_21 at hm
  refine a_iload X dX3_leastTowards_21 rfl ?_
  refine a_bipush (x := 16) X dX3_leastTowards_23 (by decide) ?_
  refine a_icmp_ge (tgt := 56) X dX3_leastTowards_25 (by decide) hm (fun c25 hm => ?_) (fun c25 hm => ?_)
  · refine a_iconst (x := -1) X dX3_leastTowards_56 (by decide) ?_
    exact a_iret X hF ⟨rfl, rfl, Option.some.inj hm⟩ (by decide) dX3_leastTowards_57
  · refine a_iload_n X dX3_leastTowards_28 rfl ?_
    refine a_iload X dX3_leastTowards_29 rfl ?_
    refine a_ishr X dX3_leastTowards_31 ?_
    refine a_iconst (x := 1) X dX3_leastTowards_32 (by decide) ?_
    refine a_iand X dX3_leastTowards_33 ?_
    refine a_if_eq (tgt := 50) X dX3_leastTowards_34 (by decide) hm (fun c26 hm => ?_) (fun c26 hm => ?_)
    · refine a_iinc (y := x4 + (1 : Int32)) (lv' := [(0, v_R (some a0)), (2, v_I x2), (3, v_I x3), (4, v_I (x4 + (1 : Int32)))]) X dX3_leastTowards_50 rfl rfl (by decide) rfl ?_
      refine a_goto (tgt := 21) X dX3_leastTowards_53 (by decide) ?_
      exact hr_21 x2 x3 (x4 + (1 : Int32)) hm
    · refine a_aload_n X dX3_leastTowards_37 rfl ?_
      refine a_iload X dX3_leastTowards_38 rfl ?_
      refine a_iload_n X dX3_leastTowards_40 rfl ?_
      obtain ⟨k27, hm⟩ := i_c hm
      obtain ⟨r29, q28, hm⟩ := i_b hm
      refine a_callV (k' := 0) (n' := 0) (st := []) X (c_X3_leadsTo q28) yv_X3_leadsTo ml_X3_108 rfl (Or.inl k27) ⟨by decide, by decide, by decide, by decide, Nat.le_of_ble_eq_true rfl⟩ rfl rfl dX3_leastTowards_41 rfl rfl ?_
      show At_ v g 5 h M 0 0 44 [(0, v_R (some a0)), (2, v_I x2), (3, v_I x3), (4, v_I x4)] [v_I r29]
      refine a_if_eq (tgt := 50) X dX3_leastTowards_44 (by decide) hm (fun c30 hm => ?_) (fun c30 hm => ?_)
      · refine a_iinc (y := x4 + (1 : Int32)) (lv' := [(0, v_R (some a0)), (2, v_I x2), (3, v_I x3), (4, v_I (x4 + (1 : Int32)))]) X dX3_leastTowards_50 rfl rfl (by decide) rfl ?_
        refine a_goto (tgt := 21) X dX3_leastTowards_53 (by decide) ?_
        exact hr_21 x2 x3 (x4 + (1 : Int32)) hm
      · refine a_iload X dX3_leastTowards_47 rfl ?_
        exact a_iret X hF ⟨rfl, rfl, Option.some.inj hm⟩ (by decide) dX3_leastTowards_49
def l_X3_leastTowards_21 (h : Hpx) (a0 : Nat) (n : Nat) : Int32 → Int32 → Int32 → Option (Int32) := lp_ (fun rec_21 => j_X3_leastTowards_21 h a0 rec_21) (fun _ _ _ => none) n
theorem ql_X3_leastTowards_21 {v : Evx} {g : Gvx} {M : Msx} {r : Int32} (X : Cx_ v g cX3_leastTowards 5 RX3 "leastTowards" ((some .int)) rm_X3_leastTowards) (h : Hpx) (a0 : Nat) (hF : Fi_ v g rm_X3_leastTowards (some (v_I r)) h M) : ∀ (n : Nat) (x2 : Int32) (x3 : Int32) (x4 : Int32), l_X3_leastTowards_21 h a0 n x2 x3 x4 = some r → At_ v g 5 h M 0 0 21 [(0, v_R (some a0)), (2, v_I x2), (3, v_I x3), (4, v_I x4)] [] := by
  intro n
  induction n with
  | zero => intro x2 x3 x4 hm; cases hm
  | succ n ih =>
    intro x2 x3 x4 hm
    exact q_X3_leastTowards_21 X h a0 hF (l_X3_leastTowards_21 h a0 n) ih x2 x3 x4 hm
def f_X3_leastTowards (h : Hpx) (a0 : Nat) (x1 : Int32) (x2 : Int32) : Option (Int32) :=
  (if h_k h a0 = 4 then
  (f_X3_namesOfAll h a0 ((1 : Int32) <<< (x1 &&& 31))).bind fun r23 =>
  (if ((r23 >>> (x2 &&& 31)) &&& (1 : Int32)) = 0 then
  l_X3_leastTowards_21 h a0 70 x2 r23 (0 : Int32)
  else some (-1 : Int32)) else none)
set_option maxHeartbeats 4000000 in
theorem q_X3_leastTowards_0 {v : Evx} {g : Gvx} {M : Msx} {r : Int32} (X : Cx_ v g cX3_leastTowards 5 RX3 "leastTowards" ((some .int)) rm_X3_leastTowards) (h : Hpx) (a0 : Nat) (hF : Fi_ v g rm_X3_leastTowards (some (v_I r)) h M) (x1 : Int32) (x2 : Int32) (hm : f_X3_leastTowards h a0 x1 x2 = some r) : At_ v g 5 h M 0 0 0 [(0, v_R (some a0)), (1, v_I x1), (2, v_I x2)] [] := by
  unfold f_X3_leastTowards at hm
  refine a_aload_n X dX3_leastTowards_0 rfl ?_
  refine a_iconst (x := 1) X dX3_leastTowards_1 (by decide) ?_
  refine a_iload_n X dX3_leastTowards_2 rfl ?_
  refine a_ishl X dX3_leastTowards_3 ?_
  obtain ⟨k21, hm⟩ := i_c hm
  obtain ⟨r23, q22, hm⟩ := i_b hm
  refine a_callV (k' := 0) (n' := 0) (st := []) X (c_X3_namesOfAll q22) yv_X3_namesOfAll ml_X3_255 rfl (Or.inl k21) ⟨by decide, by decide, by decide, by decide, Nat.le_of_ble_eq_true rfl⟩ rfl rfl dX3_leastTowards_4 rfl rfl ?_
  show At_ v g 5 h M 0 0 7 [(0, v_R (some a0)), (1, v_I x1), (2, v_I x2)] [v_I r23]
  refine a_istore_n (lv' := [(0, v_R (some a0)), (1, v_I x1), (2, v_I x2), (3, v_I r23)]) X dX3_leastTowards_7 (by decide) rfl ?_
  refine a_iload_n X dX3_leastTowards_8 rfl ?_
  refine a_iload_n X dX3_leastTowards_9 rfl ?_
  refine a_ishr X dX3_leastTowards_10 ?_
  refine a_iconst (x := 1) X dX3_leastTowards_11 (by decide) ?_
  refine a_iand X dX3_leastTowards_12 ?_
  refine a_if_eq (tgt := 18) X dX3_leastTowards_13 (by decide) hm (fun c24 hm => ?_) (fun c24 hm => ?_)
  · refine a_iconst (x := 0) X dX3_leastTowards_18 (by decide) ?_
    refine a_istore (lv' := [(0, v_R (some a0)), (1, v_I x1), (2, v_I x2), (3, v_I r23), (4, v_I (0 : Int32))]) X dX3_leastTowards_19 (by decide) rfl ?_
    refine a_pick (lv' := [(0, v_R (some a0)), (2, v_I x2), (3, v_I r23), (4, v_I (0 : Int32))]) [0, 2, 3, 4] rfl ?_
    exact ql_X3_leastTowards_21 X h a0 hF 70 x2 r23 (0 : Int32) hm
  · refine a_iconst (x := -1) X dX3_leastTowards_16 (by decide) ?_
    exact a_iret X hF ⟨rfl, rfl, Option.some.inj hm⟩ (by decide) dX3_leastTowards_17
theorem c_X3_leastTowards {l : Launch} {g : Gvx} {h : Hpx} {M : Msx} {r : Int32} {a0 : Nat} {x1 : Int32} {x2 : Int32} (hm : f_X3_leastTowards h a0 x1 x2 = some r) : Mt_ l g yX3_leastTowards cX3_leastTowards 5 ((some .int)) rm_X3_leastTowards [v_R (some a0), v_I x1, v_I x2] h M (some (v_I r)) h M := mt_of (by decide) (Nat.le_of_ble_eq_true rfl) (fun v _ X hF => q_X3_leastTowards_0 X h a0 hF x1 x2 hm)
theorem yv_X3_leastTowards : Yv_ yX3_leastTowards cX3_leastTowards 5 ((some .int)) 2 3 := ⟨rfl, by decide, ⟨by decide, by decide, by decide +kernel⟩, co_X3_leastTowards, im_X3_leastTowards, se_X3_leastTowards, ini_X3⟩

abbrev rm_X3_keepCircle : Room := { frames := 4, cells := 0, slots := 0, locals := 93 }
def j_X3_keepCircle_29 (a0 : Nat) (rec_29 : Hpx → Int32 → Int32 → Int32 → Option (Hpx)) (h : Hpx) (x1 : Int32) (x3 : Int32) (x4 : Int32) : Option (Hpx) :=
  (if (16 : Int32) ≤ x4 then
  some h
  else (if x3 < 0 then
  some h
  else (if h_k h a0 = 4 then
  (h_R h a0 3).bind fun a36 =>
  (if h_k h a36 = 6 then
  (if in_b x4 (h_n h a36) = true then
  b_d (s_I h a36 x4.toNatClampNeg x3) fun h39 =>
  b_d (s_I h39 a0 8 ((h_I h39 a0 8) + (1 : Int32))) fun h40 =>
  (f_X3_leastTowards h40 a0 x3 x1).bind fun r42 =>
  rec_29 h40 x1 r42 (x4 + (1 : Int32)) else none) else none) else none)))
set_option maxHeartbeats 4000000 in
theorem q_X3_keepCircle_29 {v : Evx} {g : Gvx} {M : Msx} {h' : Hpx} (X : Cx_ v g cX3_keepCircle 5 RX3 "keepCircle" (none) rm_X3_keepCircle) (a0 : Nat) (hF : Fi_ v g rm_X3_keepCircle (none) h' M) (rec_29 : Hpx → Int32 → Int32 → Int32 → Option (Hpx)) (hr_29 : ∀ (h : Hpx) (x1 : Int32) (x3 : Int32) (x4 : Int32), rec_29 h x1 x3 x4 = some h' → At_ v g 5 h M 0 0 29 [(0, v_R (some a0)), (1, v_I x1), (3, v_I x3), (4, v_I x4)] []) (h : Hpx) (x1 : Int32) (x3 : Int32) (x4 : Int32) (hm : j_X3_keepCircle_29 a0 rec_29 h x1 x3 x4 = some h') : At_ v g 5 h M 0 0 29 [(0, v_R (some a0)), (1, v_I x1), (3, v_I x3), (4, v_I x4)] [] := by
  unfold j_X3_keepCircle_29 at hm
  refine a_iload X dX3_keepCircle_29 rfl ?_
  refine a_bipush (x := 16) X dX3_keepCircle_31 (by decide) ?_
  refine a_icmp_ge (tgt := 71) X dX3_keepCircle_33 (by decide) hm (fun c33 hm => ?_) (fun c33 hm => ?_)
  · exact a_vret X hF ⟨Option.some.inj hm, rfl⟩ (by decide) dX3_keepCircle_71
  · refine a_iload_n X dX3_keepCircle_36 rfl ?_
    refine a_if_lt (tgt := 71) X dX3_keepCircle_37 (by decide) hm (fun c34 hm => ?_) (fun c34 hm => ?_)
    · exact a_vret X hF ⟨Option.some.inj hm, rfl⟩ (by decide) dX3_keepCircle_71
    · refine a_aload_n X dX3_keepCircle_40 rfl ?_
      obtain ⟨k35, hm⟩ := i_c hm
      refine a_getR X 3 3 rfl k35 (by decide) rfl fl_X3_25 dX3_keepCircle_41 ?_
      refine a_iload X dX3_keepCircle_44 rfl ?_
      refine a_iload_n X dX3_keepCircle_46 rfl ?_
      obtain ⟨a36, ea36, hm⟩ := i_b hm
      obtain ⟨k37, hm⟩ := i_c hm
      obtain ⟨b38, hm⟩ := i_c hm
      obtain ⟨h39, eh39, hm⟩ := i_d hm
      refine a_iast X ea36 k37 b38 dX3_keepCircle_47 ?_
      rw [← eh39]
      refine a_aload_n X dX3_keepCircle_48 rfl ?_
      refine a_dup X dX3_keepCircle_49 rfl ?_
      refine a_getI X 3 8 rfl (kk_I eh39 k35) (by decide) rfl fl_X3_118 dX3_keepCircle_50 ?_
      refine a_iconst (x := 1) X dX3_keepCircle_53 (by decide) ?_
      refine a_iadd X dX3_keepCircle_54 ?_
      obtain ⟨h40, eh40, hm⟩ := i_d hm
      refine a_putI X 3 8 false rfl (kk_I eh39 k35) (by decide) rfl rfl (fun q => by cases q) rfl rfl fl_X3_118 dX3_keepCircle_55 ?_
      rw [← eh40]
      refine a_aload_n X dX3_keepCircle_58 rfl ?_
      refine a_iload_n X dX3_keepCircle_59 rfl ?_
      refine a_iload_n X dX3_keepCircle_60 rfl ?_
      obtain ⟨r42, q41, hm⟩ := i_b hm
      refine a_callV (k' := 0) (n' := 0) (st := []) X (c_X3_leastTowards q41) yv_X3_leastTowards ml_X3_261 rfl (Or.inl (kk_I eh40 (kk_I eh39 k35))) ⟨by decide, by decide, by decide, by decide, Nat.le_of_ble_eq_true rfl⟩ rfl rfl dX3_keepCircle_61 rfl rfl ?_
      show At_ v g 5 h40 M 0 0 64 [(0, v_R (some a0)), (1, v_I x1), (3, v_I x3), (4, v_I x4)] [v_I r42]
      refine a_istore_n (lv' := [(0, v_R (some a0)), (1, v_I x1), (3, v_I r42), (4, v_I x4)]) X dX3_keepCircle_64 (by decide) rfl ?_
      refine a_iinc (y := x4 + (1 : Int32)) (lv' := [(0, v_R (some a0)), (1, v_I x1), (3, v_I r42), (4, v_I (x4 + (1 : Int32)))]) X dX3_keepCircle_65 rfl rfl (by decide) rfl ?_
      refine a_goto (tgt := 29) X dX3_keepCircle_68 (by decide) ?_
      exact hr_29 h40 x1 r42 (x4 + (1 : Int32)) hm
def l_X3_keepCircle_29 (a0 : Nat) (n : Nat) : Hpx → Int32 → Int32 → Int32 → Option (Hpx) := lp_ (fun rec_29 => j_X3_keepCircle_29 a0 rec_29) (fun _ _ _ _ => none) n
theorem ql_X3_keepCircle_29 {v : Evx} {g : Gvx} {M : Msx} {h' : Hpx} (X : Cx_ v g cX3_keepCircle 5 RX3 "keepCircle" (none) rm_X3_keepCircle) (a0 : Nat) (hF : Fi_ v g rm_X3_keepCircle (none) h' M) : ∀ (n : Nat) (h : Hpx) (x1 : Int32) (x3 : Int32) (x4 : Int32), l_X3_keepCircle_29 a0 n h x1 x3 x4 = some h' → At_ v g 5 h M 0 0 29 [(0, v_R (some a0)), (1, v_I x1), (3, v_I x3), (4, v_I x4)] [] := by
  intro n
  induction n with
  | zero => intro h x1 x3 x4 hm; cases hm
  | succ n ih =>
    intro h x1 x3 x4 hm
    exact q_X3_keepCircle_29 X a0 hF (l_X3_keepCircle_29 a0 n) ih h x1 x3 x4 hm
def f_X3_keepCircle (h : Hpx) (a0 : Nat) (x1 : Int32) (x2 : Int32) : Option (Hpx) :=
  (if h_k h a0 = 4 then
  (h_R h a0 3).bind fun a22 =>
  (if h_k h a22 = 6 then
  (if in_b (0 : Int32) (h_n h a22) = true then
  b_d (s_I h a22 (0 : Int32).toNatClampNeg x1) fun h25 =>
  (h_R h25 a0 3).bind fun a26 =>
  (if h_k h25 a26 = 6 then
  (if in_b (1 : Int32) (h_n h25 a26) = true then
  b_d (s_I h25 a26 (1 : Int32).toNatClampNeg x2) fun h29 =>
  b_d (s_I h29 a0 8 (2 : Int32)) fun h30 =>
  (f_X3_leastTowards h30 a0 x2 x1).bind fun r32 =>
  l_X3_keepCircle_29 a0 70 h30 x1 r32 (2 : Int32) else none) else none) else none) else none) else none)
set_option maxHeartbeats 4000000 in
theorem q_X3_keepCircle_0 {v : Evx} {g : Gvx} {M : Msx} {h' : Hpx} (X : Cx_ v g cX3_keepCircle 5 RX3 "keepCircle" (none) rm_X3_keepCircle) (a0 : Nat) (hF : Fi_ v g rm_X3_keepCircle (none) h' M) (h : Hpx) (x1 : Int32) (x2 : Int32) (hm : f_X3_keepCircle h a0 x1 x2 = some h') : At_ v g 5 h M 0 0 0 [(0, v_R (some a0)), (1, v_I x1), (2, v_I x2)] [] := by
  unfold f_X3_keepCircle at hm
  refine a_aload_n X dX3_keepCircle_0 rfl ?_
  obtain ⟨k21, hm⟩ := i_c hm
  refine a_getR X 3 3 rfl k21 (by decide) rfl fl_X3_25 dX3_keepCircle_1 ?_
  refine a_iconst (x := 0) X dX3_keepCircle_4 (by decide) ?_
  refine a_iload_n X dX3_keepCircle_5 rfl ?_
  obtain ⟨a22, ea22, hm⟩ := i_b hm
  obtain ⟨k23, hm⟩ := i_c hm
  obtain ⟨b24, hm⟩ := i_c hm
  obtain ⟨h25, eh25, hm⟩ := i_d hm
  refine a_iast X ea22 k23 b24 dX3_keepCircle_6 ?_
  rw [← eh25]
  refine a_aload_n X dX3_keepCircle_7 rfl ?_
  refine a_getR X 3 3 rfl (kk_I eh25 k21) (by decide) rfl fl_X3_25 dX3_keepCircle_8 ?_
  refine a_iconst (x := 1) X dX3_keepCircle_11 (by decide) ?_
  refine a_iload_n X dX3_keepCircle_12 rfl ?_
  obtain ⟨a26, ea26, hm⟩ := i_b hm
  obtain ⟨k27, hm⟩ := i_c hm
  obtain ⟨b28, hm⟩ := i_c hm
  obtain ⟨h29, eh29, hm⟩ := i_d hm
  refine a_iast X ea26 k27 b28 dX3_keepCircle_13 ?_
  rw [← eh29]
  refine a_aload_n X dX3_keepCircle_14 rfl ?_
  refine a_iconst (x := 2) X dX3_keepCircle_15 (by decide) ?_
  obtain ⟨h30, eh30, hm⟩ := i_d hm
  refine a_putI X 3 8 false rfl (kk_I eh29 (kk_I eh25 k21)) (by decide) rfl rfl (fun q => by cases q) rfl rfl fl_X3_118 dX3_keepCircle_16 ?_
  rw [← eh30]
  refine a_aload_n X dX3_keepCircle_19 rfl ?_
  refine a_iload_n X dX3_keepCircle_20 rfl ?_
  refine a_iload_n X dX3_keepCircle_21 rfl ?_
  obtain ⟨r32, q31, hm⟩ := i_b hm
  refine a_callV (k' := 0) (n' := 0) (st := []) X (c_X3_leastTowards q31) yv_X3_leastTowards ml_X3_261 rfl (Or.inl (kk_I eh30 (kk_I eh29 (kk_I eh25 k21)))) ⟨by decide, by decide, by decide, by decide, Nat.le_of_ble_eq_true rfl⟩ rfl rfl dX3_keepCircle_22 rfl rfl ?_
  show At_ v g 5 h30 M 0 0 25 [(0, v_R (some a0)), (1, v_I x1), (2, v_I x2)] [v_I r32]
  refine a_istore_n (lv' := [(0, v_R (some a0)), (1, v_I x1), (2, v_I x2), (3, v_I r32)]) X dX3_keepCircle_25 (by decide) rfl ?_
  refine a_iconst (x := 2) X dX3_keepCircle_26 (by decide) ?_
  refine a_istore (lv' := [(0, v_R (some a0)), (1, v_I x1), (2, v_I x2), (3, v_I r32), (4, v_I (2 : Int32))]) X dX3_keepCircle_27 (by decide) rfl ?_
  refine a_pick (lv' := [(0, v_R (some a0)), (1, v_I x1), (3, v_I r32), (4, v_I (2 : Int32))]) [0, 1, 3, 4] rfl ?_
  exact ql_X3_keepCircle_29 X a0 hF 70 h30 x1 r32 (2 : Int32) hm
theorem c_X3_keepCircle {l : Launch} {g : Gvx} {h : Hpx} {M : Msx} {h' : Hpx} {a0 : Nat} {x1 : Int32} {x2 : Int32} (hm : f_X3_keepCircle h a0 x1 x2 = some h') : Mt_ l g yX3_keepCircle cX3_keepCircle 5 (none) rm_X3_keepCircle [v_R (some a0), v_I x1, v_I x2] h M (none) h' M := mt_of (by decide) (Nat.le_of_ble_eq_true rfl) (fun v _ X hF => q_X3_keepCircle_0 X a0 hF h x1 x2 hm)
theorem yv_X3_keepCircle : Yv_ yX3_keepCircle cX3_keepCircle 5 (none) 2 3 := ⟨rfl, by decide, ⟨by decide, by decide, by decide +kernel⟩, co_X3_keepCircle, im_X3_keepCircle, se_X3_keepCircle, ini_X3⟩

abbrev rm_X3_name : Room := { frames := 5, cells := 0, slots := 0, locals := 117 }
def f_X3_name (h : Hpx) (a0 : Nat) (x1 : Int32) (x2 : Int32) : Option (Hpx × Int32) :=
  (if h_k h a0 = 4 then
  (f_X3_readerAt h a0 x1).bind fun r23 =>
  (if r23 = none then
  some (h, (-1 : Int32))
  else (f_X3_readerAt h a0 x2).bind fun r26 =>
  (if r26 = none then
  some (h, (-1 : Int32))
  else (if (h_I h a0 11) = 0 then
  r23.bind fun a29 =>
  (if h_k h a29 = 2 then
  (f_X1_mayName h a29).bind fun r32 =>
  (if r32 = 0 then
  some (h, (-3 : Int32))
  else (h_R h a29 1).bind fun a34 =>
  (if h_k h a34 = 3 then
  (f_X3_placeOf h a0 x2 (h_I h a34 0)).bind fun r37 =>
  (if 0 ≤ r37 then
  (if x1 = x2 then
  some (h, (-5 : Int32))
  else (f_X1_isNaming h a29 x2).bind fun r41 =>
  (if r41 = 0 then
  (if (h_I h a29 8) < (4 : Int32) then
  (f_X3_leadsTo h a0 x2 x1).bind fun r45 =>
  (if r45 = 0 then
  (f_X1_addName h a29 x2).bind fun h48 =>
  some (h48, (1 : Int32))
  else (f_X3_keepCircle h a0 x1 x2).bind fun h50 =>
  some (h50, (-6 : Int32)))
  else some (h, (-4 : Int32)))
  else some (h, (-5 : Int32))))
  else some (h, (-3 : Int32))) else none)) else none)
  else some (h, (-2 : Int32))))) else none)
set_option maxHeartbeats 4000000 in
theorem q_X3_name_0 {v : Evx} {g : Gvx} {M : Msx} {h' : Hpx} {r : Int32} (X : Cx_ v g cX3_name 4 RX3 "name" ((some .int)) rm_X3_name) (a0 : Nat) (hF : Fi_ v g rm_X3_name (some (v_I r)) h' M) (h : Hpx) (x1 : Int32) (x2 : Int32) (hm : f_X3_name h a0 x1 x2 = some (h', r)) : At_ v g 4 h M 0 0 0 [(0, v_R (some a0)), (1, v_I x1), (2, v_I x2)] [] := by
  unfold f_X3_name at hm
  refine a_aload_n X dX3_name_0 rfl ?_
  refine a_iload_n X dX3_name_1 rfl ?_
  obtain ⟨k21, hm⟩ := i_c hm
  obtain ⟨r23, q22, hm⟩ := i_b hm
  refine a_callV (k' := 0) (n' := 0) (st := []) X (c_X3_readerAt q22) yv_X3_readerAt ml_X3_73 rfl (Or.inl k21) ⟨by decide, by decide, by decide, by decide, Nat.le_of_ble_eq_true rfl⟩ rfl rfl dX3_name_2 rfl rfl ?_
  show At_ v g 4 h M 0 0 5 [(0, v_R (some a0)), (1, v_I x1), (2, v_I x2)] [v_R r23]
  refine a_astore_n (lv' := [(0, v_R (some a0)), (1, v_I x1), (2, v_I x2), (3, v_R r23)]) X dX3_name_5 (by decide) rfl ?_
  refine a_aload_n X dX3_name_6 rfl ?_
  refine a_ifnull (tgt := 18) X dX3_name_7 (by decide) hm (fun c24 hm => ?_) (fun c24 hm => ?_)
  · refine a_iconst (x := -1) X dX3_name_18 (by decide) ?_
    exact a_iret X hF ⟨(Prod.mk.inj (Option.some.inj hm)).1, rfl, (Prod.mk.inj (Option.some.inj hm)).2⟩ (by decide) dX3_name_19
  · refine a_aload_n X dX3_name_10 rfl ?_
    refine a_iload_n X dX3_name_11 rfl ?_
    obtain ⟨r26, q25, hm⟩ := i_b hm
    refine a_callV (k' := 0) (n' := 0) (st := []) X (c_X3_readerAt q25) yv_X3_readerAt ml_X3_73 rfl (Or.inl k21) ⟨by decide, by decide, by decide, by decide, Nat.le_of_ble_eq_true rfl⟩ rfl rfl dX3_name_12 rfl rfl ?_
    show At_ v g 4 h M 0 0 15 [(0, v_R (some a0)), (1, v_I x1), (2, v_I x2), (3, v_R r23)] [v_R r26]
    refine a_ifnonnull (tgt := 20) X dX3_name_15 (by decide) hm (fun c27 hm => ?_) (fun c27 hm => ?_)
    · refine a_aload_n X dX3_name_20 rfl ?_
      refine a_getI X 3 11 rfl k21 (by decide) rfl fl_X3_41 dX3_name_21 ?_
      refine a_if_eq (tgt := 30) X dX3_name_24 (by decide) hm (fun c28 hm => ?_) (fun c28 hm => ?_)
      · refine a_aload_n X dX3_name_30 rfl ?_
        obtain ⟨a29, ea29, hm⟩ := i_b hm
        obtain ⟨k30, hm⟩ := i_c hm
        obtain ⟨r32, q31, hm⟩ := i_b hm
        refine a_callV (k' := 0) (n' := 0) (st := []) X (c_X1_mayName q31) yv_X1_mayName ml_X3_90 ea29 (Or.inl k30) ⟨by decide, by decide, by decide, by decide, Nat.le_of_ble_eq_true rfl⟩ rfl rfl dX3_name_31 rfl rfl ?_
        show At_ v g 4 h M 0 0 34 [(0, v_R (some a0)), (1, v_I x1), (2, v_I x2), (3, v_R r23)] [v_I r32]
        refine a_if_eq (tgt := 52) X dX3_name_34 (by decide) hm (fun c33 hm => ?_) (fun c33 hm => ?_)
        · refine a_bipush (x := -3) X dX3_name_52 (by decide) ?_
          exact a_iret X hF ⟨(Prod.mk.inj (Option.some.inj hm)).1, rfl, (Prod.mk.inj (Option.some.inj hm)).2⟩ (by decide) dX3_name_54
        · refine a_aload_n X dX3_name_37 rfl ?_
          refine a_iload_n X dX3_name_38 rfl ?_
          refine a_aload_n X dX3_name_39 rfl ?_
          refine a_getR X 1 1 ea29 k30 (by decide) rfl fl_X3_94 dX3_name_40 ?_
          obtain ⟨a34, ea34, hm⟩ := i_b hm
          obtain ⟨k35, hm⟩ := i_c hm
          refine a_getI X 2 0 ea34 k35 (by decide) rfl fl_X3_98 dX3_name_43 ?_
          obtain ⟨r37, q36, hm⟩ := i_b hm
          refine a_callV (k' := 0) (n' := 0) (st := []) X (c_X3_placeOf q36) yv_X3_placeOf ml_X3_62 rfl (Or.inl k21) ⟨by decide, by decide, by decide, by decide, Nat.le_of_ble_eq_true rfl⟩ rfl rfl dX3_name_46 rfl rfl ?_
          show At_ v g 4 h M 0 0 49 [(0, v_R (some a0)), (1, v_I x1), (2, v_I x2), (3, v_R r23)] [v_I r37]
          refine a_if_ge (tgt := 55) X dX3_name_49 (by decide) hm (fun c38 hm => ?_) (fun c38 hm => ?_)
          · refine a_iload_n X dX3_name_55 rfl ?_
            refine a_iload_n X dX3_name_56 rfl ?_
            refine a_icmp_eq (tgt := 68) X dX3_name_57 (by decide) hm (fun c39 hm => ?_) (fun c39 hm => ?_)
            · refine a_bipush (x := -5) X dX3_name_68 (by decide) ?_
              exact a_iret X hF ⟨(Prod.mk.inj (Option.some.inj hm)).1, rfl, (Prod.mk.inj (Option.some.inj hm)).2⟩ (by decide) dX3_name_70
            · refine a_aload_n X dX3_name_60 rfl ?_
              refine a_iload_n X dX3_name_61 rfl ?_
              obtain ⟨r41, q40, hm⟩ := i_b hm
              refine a_callV (k' := 0) (n' := 0) (st := []) X (c_X1_isNaming q40) yv_X1_isNaming ml_X3_101 ea29 (Or.inl k30) ⟨by decide, by decide, by decide, by decide, Nat.le_of_ble_eq_true rfl⟩ rfl rfl dX3_name_62 rfl rfl ?_
              show At_ v g 4 h M 0 0 65 [(0, v_R (some a0)), (1, v_I x1), (2, v_I x2), (3, v_R r23)] [v_I r41]
              refine a_if_eq (tgt := 71) X dX3_name_65 (by decide) hm (fun c42 hm => ?_) (fun c42 hm => ?_)
              · refine a_aload_n X dX3_name_71 rfl ?_
                refine a_getI X 1 8 ea29 k30 (by decide) rfl fl_X3_105 dX3_name_72 ?_
                refine a_iconst (x := 4) X dX3_name_75 (by decide) ?_
                refine a_icmp_lt (tgt := 82) X dX3_name_76 (by decide) hm (fun c43 hm => ?_) (fun c43 hm => ?_)
                · refine a_aload_n X dX3_name_82 rfl ?_
                  refine a_iload_n X dX3_name_83 rfl ?_
                  refine a_iload_n X dX3_name_84 rfl ?_
                  obtain ⟨r45, q44, hm⟩ := i_b hm
                  refine a_callV (k' := 0) (n' := 0) (st := []) X (c_X3_leadsTo q44) yv_X3_leadsTo ml_X3_108 rfl (Or.inl k21) ⟨by decide, by decide, by decide, by decide, Nat.le_of_ble_eq_true rfl⟩ rfl rfl dX3_name_85 rfl rfl ?_
                  show At_ v g 4 h M 0 0 88 [(0, v_R (some a0)), (1, v_I x1), (2, v_I x2), (3, v_R r23)] [v_I r45]
                  refine a_if_eq (tgt := 100) X dX3_name_88 (by decide) hm (fun c46 hm => ?_) (fun c46 hm => ?_)
                  · refine a_aload_n X dX3_name_100 rfl ?_
                    refine a_iload_n X dX3_name_101 rfl ?_
                    obtain ⟨h48, q47, hm⟩ := i_b hm
                    refine a_callV (k' := 0) (n' := 0) (st := []) X (c_X1_addName q47) yv_X1_addName ml_X3_115 ea29 (Or.inl k30) ⟨by decide, by decide, by decide, by decide, Nat.le_of_ble_eq_true rfl⟩ rfl rfl dX3_name_102 rfl rfl ?_
                    show At_ v g 4 h48 M 0 0 105 [(0, v_R (some a0)), (1, v_I x1), (2, v_I x2), (3, v_R r23)] []
                    refine a_iconst (x := 1) X dX3_name_105 (by decide) ?_
                    exact a_iret X hF ⟨(Prod.mk.inj (Option.some.inj hm)).1, rfl, (Prod.mk.inj (Option.some.inj hm)).2⟩ (by decide) dX3_name_106
                  · refine a_aload_n X dX3_name_91 rfl ?_
                    refine a_iload_n X dX3_name_92 rfl ?_
                    refine a_iload_n X dX3_name_93 rfl ?_
                    obtain ⟨h50, q49, hm⟩ := i_b hm
                    refine a_callV (k' := 0) (n' := 0) (st := []) X (c_X3_keepCircle q49) yv_X3_keepCircle ml_X3_112 rfl (Or.inl k21) ⟨by decide, by decide, by decide, by decide, Nat.le_of_ble_eq_true rfl⟩ rfl rfl dX3_name_94 rfl rfl ?_
                    show At_ v g 4 h50 M 0 0 97 [(0, v_R (some a0)), (1, v_I x1), (2, v_I x2), (3, v_R r23)] []
                    refine a_bipush (x := -6) X dX3_name_97 (by decide) ?_
                    exact a_iret X hF ⟨(Prod.mk.inj (Option.some.inj hm)).1, rfl, (Prod.mk.inj (Option.some.inj hm)).2⟩ (by decide) dX3_name_99
                · refine a_bipush (x := -4) X dX3_name_79 (by decide) ?_
                  exact a_iret X hF ⟨(Prod.mk.inj (Option.some.inj hm)).1, rfl, (Prod.mk.inj (Option.some.inj hm)).2⟩ (by decide) dX3_name_81
              · refine a_bipush (x := -5) X dX3_name_68 (by decide) ?_
                exact a_iret X hF ⟨(Prod.mk.inj (Option.some.inj hm)).1, rfl, (Prod.mk.inj (Option.some.inj hm)).2⟩ (by decide) dX3_name_70
          · refine a_bipush (x := -3) X dX3_name_52 (by decide) ?_
            exact a_iret X hF ⟨(Prod.mk.inj (Option.some.inj hm)).1, rfl, (Prod.mk.inj (Option.some.inj hm)).2⟩ (by decide) dX3_name_54
      · refine a_bipush (x := -2) X dX3_name_27 (by decide) ?_
        exact a_iret X hF ⟨(Prod.mk.inj (Option.some.inj hm)).1, rfl, (Prod.mk.inj (Option.some.inj hm)).2⟩ (by decide) dX3_name_29
    · refine a_iconst (x := -1) X dX3_name_18 (by decide) ?_
      exact a_iret X hF ⟨(Prod.mk.inj (Option.some.inj hm)).1, rfl, (Prod.mk.inj (Option.some.inj hm)).2⟩ (by decide) dX3_name_19
theorem c_X3_name {l : Launch} {g : Gvx} {h : Hpx} {M : Msx} {h' : Hpx} {r : Int32} {a0 : Nat} {x1 : Int32} {x2 : Int32} (hm : f_X3_name h a0 x1 x2 = some (h', r)) : Mt_ l g yX3_name cX3_name 4 ((some .int)) rm_X3_name [v_R (some a0), v_I x1, v_I x2] h M (some (v_I r)) h' M := mt_of (by decide) (Nat.le_of_ble_eq_true rfl) (fun v _ X hF => q_X3_name_0 X a0 hF h x1 x2 hm)
theorem yv_X3_name : Yv_ yX3_name cX3_name 4 ((some .int)) 2 3 := ⟨rfl, by decide, ⟨by decide, by decide, by decide +kernel⟩, co_X3_name, im_X3_name, se_X3_name, ini_X3⟩

abbrev rm_X3_circle : Room := { frames := 0, cells := 0, slots := 0, locals := 0 }
def f_X3_circle (h : Hpx) (a0 : Nat) (x1 : Int32) : Option (Int32) :=
  (if x1 < 0 then
  some (-1 : Int32)
  else (if h_k h a0 = 4 then
  (if (h_I h a0 8) ≤ x1 then
  some (-1 : Int32)
  else (h_R h a0 3).bind fun a24 =>
  (if h_k h a24 = 6 then
  (if (nI (h_n h a24)) ≤ x1 then
  some (-1 : Int32)
  else (if in_b x1 (h_n h a24) = true then
  some (h_I h a24 x1.toNatClampNeg) else none)) else none)) else none))
set_option maxHeartbeats 4000000 in
theorem q_X3_circle_0 {v : Evx} {g : Gvx} {M : Msx} {r : Int32} (X : Cx_ v g cX3_circle 2 RX3 "circle" ((some .int)) rm_X3_circle) (h : Hpx) (a0 : Nat) (hF : Fi_ v g rm_X3_circle (some (v_I r)) h M) (x1 : Int32) (hm : f_X3_circle h a0 x1 = some r) : At_ v g 2 h M 0 0 0 [(0, v_R (some a0)), (1, v_I x1)] [] := by
  unfold f_X3_circle at hm
  refine a_iload_n X dX3_circle_0 rfl ?_
  refine a_if_lt (tgt := 30) X dX3_circle_1 (by decide) hm (fun c21 hm => ?_) (fun c21 hm => ?_)
  · refine a_iconst (x := -1) X dX3_circle_30 (by decide) ?_
    exact a_iret X hF ⟨rfl, rfl, Option.some.inj hm⟩ (by decide) dX3_circle_31
  · refine a_iload_n X dX3_circle_4 rfl ?_
    refine a_aload_n X dX3_circle_5 rfl ?_
    obtain ⟨k22, hm⟩ := i_c hm
    refine a_getI X 3 8 rfl k22 (by decide) rfl fl_X3_118 dX3_circle_6 ?_
    refine a_icmp_ge (tgt := 30) X dX3_circle_9 (by decide) hm (fun c23 hm => ?_) (fun c23 hm => ?_)
    · refine a_iconst (x := -1) X dX3_circle_30 (by decide) ?_
      exact a_iret X hF ⟨rfl, rfl, Option.some.inj hm⟩ (by decide) dX3_circle_31
    · refine a_iload_n X dX3_circle_12 rfl ?_
      refine a_aload_n X dX3_circle_13 rfl ?_
      refine a_getR X 3 3 rfl k22 (by decide) rfl fl_X3_25 dX3_circle_14 ?_
      obtain ⟨a24, ea24, hm⟩ := i_b hm
      obtain ⟨k25, hm⟩ := i_c hm
      refine a_alenI X ea24 k25 dX3_circle_17 ?_
      refine a_icmp_ge (tgt := 30) X dX3_circle_18 (by decide) hm (fun c26 hm => ?_) (fun c26 hm => ?_)
      · refine a_iconst (x := -1) X dX3_circle_30 (by decide) ?_
        exact a_iret X hF ⟨rfl, rfl, Option.some.inj hm⟩ (by decide) dX3_circle_31
      · refine a_aload_n X dX3_circle_21 rfl ?_
        refine a_getR X 3 3 rfl k22 (by decide) rfl fl_X3_25 dX3_circle_22 ?_
        refine a_iload_n X dX3_circle_25 rfl ?_
        obtain ⟨b27, hm⟩ := i_c hm
        refine a_iald X ea24 k25 b27 dX3_circle_26 ?_
        refine a_goto (tgt := 31) X dX3_circle_27 (by decide) ?_
        exact a_iret X hF ⟨rfl, rfl, Option.some.inj hm⟩ (by decide) dX3_circle_31
theorem c_X3_circle {l : Launch} {g : Gvx} {h : Hpx} {M : Msx} {r : Int32} {a0 : Nat} {x1 : Int32} (hm : f_X3_circle h a0 x1 = some r) : Mt_ l g yX3_circle cX3_circle 2 ((some .int)) rm_X3_circle [v_R (some a0), v_I x1] h M (some (v_I r)) h M := mt_of (by decide) (Nat.le_of_ble_eq_true rfl) (fun v _ X hF => q_X3_circle_0 X h a0 hF x1 hm)
theorem yv_X3_circle : Yv_ yX3_circle cX3_circle 2 ((some .int)) 1 3 := ⟨rfl, by decide, ⟨by decide, by decide, by decide +kernel⟩, co_X3_circle, im_X3_circle, se_X3_circle, ini_X3⟩

abbrev rm_X3_begin : Room := { frames := 0, cells := 0, slots := 0, locals := 0 }
def f_X3_begin (h : Hpx) (a0 : Nat) : Option (Hpx × Int32) :=
  (if h_k h a0 = 4 then
  (if (h_I h a0 11) = 0 then
  b_d (s_I h a0 11 (1 : Int32)) fun h23 =>
  some (h23, (1 : Int32))
  else some (h, (-2 : Int32))) else none)
set_option maxHeartbeats 4000000 in
theorem q_X3_begin_0 {v : Evx} {g : Gvx} {M : Msx} {h' : Hpx} {r : Int32} (X : Cx_ v g cX3_begin 1 RX3 "begin" ((some .int)) rm_X3_begin) (a0 : Nat) (hF : Fi_ v g rm_X3_begin (some (v_I r)) h' M) (h : Hpx) (hm : f_X3_begin h a0 = some (h', r)) : At_ v g 1 h M 0 0 0 [(0, v_R (some a0))] [] := by
  unfold f_X3_begin at hm
  refine a_aload_n X dX3_begin_0 rfl ?_
  obtain ⟨k21, hm⟩ := i_c hm
  refine a_getI X 3 11 rfl k21 (by decide) rfl fl_X3_41 dX3_begin_1 ?_
  refine a_if_eq (tgt := 10) X dX3_begin_4 (by decide) hm (fun c22 hm => ?_) (fun c22 hm => ?_)
  · refine a_aload_n X dX3_begin_10 rfl ?_
    refine a_iconst (x := 1) X dX3_begin_11 (by decide) ?_
    obtain ⟨h23, eh23, hm⟩ := i_d hm
    refine a_putI X 3 11 false rfl k21 (by decide) rfl rfl (fun q => by cases q) rfl rfl fl_X3_41 dX3_begin_12 ?_
    rw [← eh23]
    refine a_iconst (x := 1) X dX3_begin_15 (by decide) ?_
    exact a_iret X hF ⟨(Prod.mk.inj (Option.some.inj hm)).1, rfl, (Prod.mk.inj (Option.some.inj hm)).2⟩ (by decide) dX3_begin_16
  · refine a_bipush (x := -2) X dX3_begin_7 (by decide) ?_
    exact a_iret X hF ⟨(Prod.mk.inj (Option.some.inj hm)).1, rfl, (Prod.mk.inj (Option.some.inj hm)).2⟩ (by decide) dX3_begin_9
theorem c_X3_begin {l : Launch} {g : Gvx} {h : Hpx} {M : Msx} {h' : Hpx} {r : Int32} {a0 : Nat} (hm : f_X3_begin h a0 = some (h', r)) : Mt_ l g yX3_begin cX3_begin 1 ((some .int)) rm_X3_begin [v_R (some a0)] h M (some (v_I r)) h' M := mt_of (by decide) (Nat.le_of_ble_eq_true rfl) (fun v _ X hF => q_X3_begin_0 X a0 hF h hm)
theorem yv_X3_begin : Yv_ yX3_begin cX3_begin 1 ((some .int)) 0 3 := ⟨rfl, by decide, ⟨by decide, by decide, by decide +kernel⟩, co_X3_begin, im_X3_begin, se_X3_begin, ini_X3⟩

abbrev rm_X3_made : Room := { frames := 0, cells := 0, slots := 0, locals := 0 }
def f_X3_made (h : Hpx) (a0 : Nat) : Option (Int32) :=
  (if h_k h a0 = 4 then
  some (h_I h a0 6) else none)
set_option maxHeartbeats 4000000 in
theorem q_X3_made_0 {v : Evx} {g : Gvx} {M : Msx} {r : Int32} (X : Cx_ v g cX3_made 1 RX3 "made" ((some .int)) rm_X3_made) (h : Hpx) (a0 : Nat) (hF : Fi_ v g rm_X3_made (some (v_I r)) h M) (hm : f_X3_made h a0 = some r) : At_ v g 1 h M 0 0 0 [(0, v_R (some a0))] [] := by
  unfold f_X3_made at hm
  refine a_aload_n X dX3_made_0 rfl ?_
  obtain ⟨k21, hm⟩ := i_c hm
  refine a_getI X 3 6 rfl k21 (by decide) rfl fl_X3_51 dX3_made_1 ?_
  exact a_iret X hF ⟨rfl, rfl, Option.some.inj hm⟩ (by decide) dX3_made_4
theorem c_X3_made {l : Launch} {g : Gvx} {h : Hpx} {M : Msx} {r : Int32} {a0 : Nat} (hm : f_X3_made h a0 = some r) : Mt_ l g yX3_made cX3_made 1 ((some .int)) rm_X3_made [v_R (some a0)] h M (some (v_I r)) h M := mt_of (by decide) (Nat.le_of_ble_eq_true rfl) (fun v _ X hF => q_X3_made_0 X h a0 hF hm)
theorem yv_X3_made : Yv_ yX3_made cX3_made 1 ((some .int)) 0 3 := ⟨rfl, by decide, ⟨by decide, by decide, by decide +kernel⟩, co_X3_made, im_X3_made, se_X3_made, ini_X3⟩

abbrev rm_X3_holderUpTo : Room := { frames := 1, cells := 0, slots := 0, locals := 21 }
def j_X3_holderUpTo_33 (h : Hpx) (a0 : Nat) (rec_2 : Option Nat → Int32 → Int32 → Option (Int32)) (x1 : Option Nat) (x2 : Int32) (x3 : Int32) (y0 : Int32) : Option (Int32) :=
  (if y0 < 0 then
  rec_2 x1 x2 (x3 + (1 : Int32))
  else (if x2 < y0 then
  rec_2 x1 x2 (x3 + (1 : Int32))
  else some x3))
set_option maxHeartbeats 4000000 in
theorem q_X3_holderUpTo_33 {v : Evx} {g : Gvx} {M : Msx} {r : Int32} (X : Cx_ v g cX3_holderUpTo 6 RX3 "holderUpTo" ((some .int)) rm_X3_holderUpTo) (h : Hpx) (a0 : Nat) (hF : Fi_ v g rm_X3_holderUpTo (some (v_I r)) h M) (rec_2 : Option Nat → Int32 → Int32 → Option (Int32)) (hr_2 : ∀ (x1 : Option Nat) (x2 : Int32) (x3 : Int32), rec_2 x1 x2 x3 = some r → At_ v g 6 h M 0 0 2 [(0, v_R (some a0)), (1, v_R x1), (2, v_I x2), (3, v_I x3)] []) (x1 : Option Nat) (x2 : Int32) (x3 : Int32) (y0 : Int32) (hm : j_X3_holderUpTo_33 h a0 rec_2 x1 x2 x3 y0 = some r) : At_ v g 6 h M 0 0 33 [(0, v_R (some a0)), (1, v_R x1), (2, v_I x2), (3, v_I x3)] [v_I y0] := by
  unfold j_X3_holderUpTo_33 at hm
  refine a_istore (lv' := [(0, v_R (some a0)), (1, v_R x1), (2, v_I x2), (3, v_I x3), (5, v_I y0)]) X dX3_holderUpTo_33 (by decide) rfl ?_
  refine a_iload X dX3_holderUpTo_35 rfl ?_
  refine a_if_lt (tgt := 48) X dX3_holderUpTo_37 (by decide) hm (fun c32 hm => ?_) (fun c32 hm => ?_)
  · refine a_iinc (y := x3 + (1 : Int32)) (lv' := [(0, v_R (some a0)), (1, v_R x1), (2, v_I x2), (3, v_I (x3 + (1 : Int32))), (5, v_I y0)]) X dX3_holderUpTo_48 rfl rfl (by decide) rfl ?_
    refine a_goto (tgt := 2) X dX3_holderUpTo_51 (by decide) ?_
    refine a_pick (lv' := [(0, v_R (some a0)), (1, v_R x1), (2, v_I x2), (3, v_I (x3 + (1 : Int32)))]) [0, 1, 2, 3] rfl ?_
    exact hr_2 x1 x2 (x3 + (1 : Int32)) hm
  · refine a_iload X dX3_holderUpTo_40 rfl ?_
    refine a_iload_n X dX3_holderUpTo_42 rfl ?_
    refine a_icmp_gt (tgt := 48) X dX3_holderUpTo_43 (by decide) hm (fun c33 hm => ?_) (fun c33 hm => ?_)
    · refine a_iinc (y := x3 + (1 : Int32)) (lv' := [(0, v_R (some a0)), (1, v_R x1), (2, v_I x2), (3, v_I (x3 + (1 : Int32))), (5, v_I y0)]) X dX3_holderUpTo_48 rfl rfl (by decide) rfl ?_
      refine a_goto (tgt := 2) X dX3_holderUpTo_51 (by decide) ?_
      refine a_pick (lv' := [(0, v_R (some a0)), (1, v_R x1), (2, v_I x2), (3, v_I (x3 + (1 : Int32)))]) [0, 1, 2, 3] rfl ?_
      exact hr_2 x1 x2 (x3 + (1 : Int32)) hm
    · refine a_iload_n X dX3_holderUpTo_46 rfl ?_
      exact a_iret X hF ⟨rfl, rfl, Option.some.inj hm⟩ (by decide) dX3_holderUpTo_47
def j_X3_holderUpTo_2 (h : Hpx) (a0 : Nat) (rec_2 : Option Nat → Int32 → Int32 → Option (Int32)) (x1 : Option Nat) (x2 : Int32) (x3 : Int32) : Option (Int32) :=
  (if (16 : Int32) ≤ x3 then
  some (-1 : Int32)
  else (if h_k h a0 = 4 then
  (f_X3_readerAt h a0 x3).bind fun r24 =>
  (if r24 = none then
  j_X3_holderUpTo_33 h a0 rec_2 x1 x2 x3 (-1 : Int32)
  else x1.bind fun a26 =>
  (if h_k h a26 = 3 then
  r24.bind fun a28 =>
  (if h_k h a28 = 2 then
  (f_X1_heldPlace h a28 (h_I h a26 0)).bind fun r31 =>
  j_X3_holderUpTo_33 h a0 rec_2 x1 x2 x3 r31 else none) else none)) else none))
set_option maxHeartbeats 4000000 in
theorem q_X3_holderUpTo_2 {v : Evx} {g : Gvx} {M : Msx} {r : Int32} (X : Cx_ v g cX3_holderUpTo 6 RX3 "holderUpTo" ((some .int)) rm_X3_holderUpTo) (h : Hpx) (a0 : Nat) (hF : Fi_ v g rm_X3_holderUpTo (some (v_I r)) h M) (rec_2 : Option Nat → Int32 → Int32 → Option (Int32)) (hr_2 : ∀ (x1 : Option Nat) (x2 : Int32) (x3 : Int32), rec_2 x1 x2 x3 = some r → At_ v g 6 h M 0 0 2 [(0, v_R (some a0)), (1, v_R x1), (2, v_I x2), (3, v_I x3)] []) (x1 : Option Nat) (x2 : Int32) (x3 : Int32) (hm : j_X3_holderUpTo_2 h a0 rec_2 x1 x2 x3 = some r) : At_ v g 6 h M 0 0 2 [(0, v_R (some a0)), (1, v_R x1), (2, v_I x2), (3, v_I x3)] [] := by
  unfold j_X3_holderUpTo_2 at hm
  refine a_iload_n X dX3_holderUpTo_2 rfl ?_
  refine a_bipush (x := 16) X dX3_holderUpTo_3 (by decide) ?_
  refine a_icmp_ge (tgt := 54) X dX3_holderUpTo_5 (by decide) hm (fun c21 hm => ?_) (fun c21 hm => ?_)
  · refine a_iconst (x := -1) X dX3_holderUpTo_54 (by decide) ?_
    exact a_iret X hF ⟨rfl, rfl, Option.some.inj hm⟩ (by decide) dX3_holderUpTo_55
  · refine a_aload_n X dX3_holderUpTo_8 rfl ?_
    refine a_iload_n X dX3_holderUpTo_9 rfl ?_
    obtain ⟨k22, hm⟩ := i_c hm
    obtain ⟨r24, q23, hm⟩ := i_b hm
    refine a_callV (k' := 0) (n' := 0) (st := []) X (c_X3_readerAt q23) yv_X3_readerAt ml_X3_73 rfl (Or.inl k22) ⟨by decide, by decide, by decide, by decide, Nat.le_of_ble_eq_true rfl⟩ rfl rfl dX3_holderUpTo_10 rfl rfl ?_
    show At_ v g 6 h M 0 0 13 [(0, v_R (some a0)), (1, v_R x1), (2, v_I x2), (3, v_I x3)] [v_R r24]
    refine a_astore (lv' := [(0, v_R (some a0)), (1, v_R x1), (2, v_I x2), (3, v_I x3), (4, v_R r24)]) X dX3_holderUpTo_13 (by decide) rfl ?_
    refine a_aload X dX3_holderUpTo_15 rfl ?_
    refine a_ifnonnull (tgt := 24) X dX3_holderUpTo_17 (by decide) hm (fun c25 hm => ?_) (fun c25 hm => ?_)
    · refine a_aload X dX3_holderUpTo_24 rfl ?_
      refine a_aload_n X dX3_holderUpTo_26 rfl ?_
      obtain ⟨a26, ea26, hm⟩ := i_b hm
      obtain ⟨k27, hm⟩ := i_c hm
      refine a_getI X 2 0 ea26 k27 (by decide) rfl fl_X3_98 dX3_holderUpTo_27 ?_
      obtain ⟨a28, ea28, hm⟩ := i_b hm
      obtain ⟨k29, hm⟩ := i_c hm
      obtain ⟨r31, q30, hm⟩ := i_b hm
      refine a_callV (k' := 0) (n' := 0) (st := []) X (c_X1_heldPlace q30) yv_X1_heldPlace ml_X3_271 ea28 (Or.inl k29) ⟨by decide, by decide, by decide, by decide, Nat.le_of_ble_eq_true rfl⟩ rfl rfl dX3_holderUpTo_30 rfl rfl ?_
      show At_ v g 6 h M 0 0 33 [(0, v_R (some a0)), (1, v_R x1), (2, v_I x2), (3, v_I x3), (4, v_R r24)] [v_I r31]
      refine a_pick (lv' := [(0, v_R (some a0)), (1, v_R x1), (2, v_I x2), (3, v_I x3)]) [0, 1, 2, 3] rfl ?_
      exact q_X3_holderUpTo_33 X h a0 hF rec_2 hr_2 x1 x2 x3 r31 hm
    · refine a_iconst (x := -1) X dX3_holderUpTo_20 (by decide) ?_
      refine a_goto (tgt := 33) X dX3_holderUpTo_21 (by decide) ?_
      refine a_pick (lv' := [(0, v_R (some a0)), (1, v_R x1), (2, v_I x2), (3, v_I x3)]) [0, 1, 2, 3] rfl ?_
      exact q_X3_holderUpTo_33 X h a0 hF rec_2 hr_2 x1 x2 x3 (-1 : Int32) hm
def l_X3_holderUpTo_2 (h : Hpx) (a0 : Nat) (n : Nat) : Option Nat → Int32 → Int32 → Option (Int32) := lp_ (fun rec_2 => j_X3_holderUpTo_2 h a0 rec_2) (fun _ _ _ => none) n
theorem ql_X3_holderUpTo_2 {v : Evx} {g : Gvx} {M : Msx} {r : Int32} (X : Cx_ v g cX3_holderUpTo 6 RX3 "holderUpTo" ((some .int)) rm_X3_holderUpTo) (h : Hpx) (a0 : Nat) (hF : Fi_ v g rm_X3_holderUpTo (some (v_I r)) h M) : ∀ (n : Nat) (x1 : Option Nat) (x2 : Int32) (x3 : Int32), l_X3_holderUpTo_2 h a0 n x1 x2 x3 = some r → At_ v g 6 h M 0 0 2 [(0, v_R (some a0)), (1, v_R x1), (2, v_I x2), (3, v_I x3)] [] := by
  intro n
  induction n with
  | zero => intro x1 x2 x3 hm; cases hm
  | succ n ih =>
    intro x1 x2 x3 hm
    exact q_X3_holderUpTo_2 X h a0 hF (l_X3_holderUpTo_2 h a0 n) ih x1 x2 x3 hm
def f_X3_holderUpTo (h : Hpx) (a0 : Nat) (x1 : Option Nat) (x2 : Int32) : Option (Int32) :=
  l_X3_holderUpTo_2 h a0 70 x1 x2 (0 : Int32)
set_option maxHeartbeats 4000000 in
theorem q_X3_holderUpTo_0 {v : Evx} {g : Gvx} {M : Msx} {r : Int32} (X : Cx_ v g cX3_holderUpTo 6 RX3 "holderUpTo" ((some .int)) rm_X3_holderUpTo) (h : Hpx) (a0 : Nat) (hF : Fi_ v g rm_X3_holderUpTo (some (v_I r)) h M) (x1 : Option Nat) (x2 : Int32) (hm : f_X3_holderUpTo h a0 x1 x2 = some r) : At_ v g 6 h M 0 0 0 [(0, v_R (some a0)), (1, v_R x1), (2, v_I x2)] [] := by
  unfold f_X3_holderUpTo at hm
  refine a_iconst (x := 0) X dX3_holderUpTo_0 (by decide) ?_
  refine a_istore_n (lv' := [(0, v_R (some a0)), (1, v_R x1), (2, v_I x2), (3, v_I (0 : Int32))]) X dX3_holderUpTo_1 (by decide) rfl ?_
  exact ql_X3_holderUpTo_2 X h a0 hF 70 x1 x2 (0 : Int32) hm
theorem c_X3_holderUpTo {l : Launch} {g : Gvx} {h : Hpx} {M : Msx} {r : Int32} {a0 : Nat} {x1 : Option Nat} {x2 : Int32} (hm : f_X3_holderUpTo h a0 x1 x2 = some r) : Mt_ l g yX3_holderUpTo cX3_holderUpTo 6 ((some .int)) rm_X3_holderUpTo [v_R (some a0), v_R x1, v_I x2] h M (some (v_I r)) h M := mt_of (by decide) (Nat.le_of_ble_eq_true rfl) (fun v _ X hF => q_X3_holderUpTo_0 X h a0 hF x1 x2 hm)
theorem yv_X3_holderUpTo : Yv_ yX3_holderUpTo cX3_holderUpTo 6 ((some .int)) 2 3 := ⟨rfl, by decide, ⟨by decide, by decide, by decide +kernel⟩, co_X3_holderUpTo, im_X3_holderUpTo, se_X3_holderUpTo, ini_X3⟩

abbrev rm_X3_isHeldUp : Room := { frames := 2, cells := 0, slots := 0, locals := 46 }
def j_X3_isHeldUp_28 (h : Hpx) (a0 : Nat) : Option (Int32) :=
  some (1 : Int32)
set_option maxHeartbeats 4000000 in
theorem q_X3_isHeldUp_28 {v : Evx} {g : Gvx} {M : Msx} {r : Int32} (X : Cx_ v g cX3_isHeldUp 4 RX3 "isHeldUp" ((some .boolean)) rm_X3_isHeldUp) (h : Hpx) (a0 : Nat) (hF : Fi_ v g rm_X3_isHeldUp (some (v_I r)) h M) (hm : j_X3_isHeldUp_28 h a0  = some r) : At_ v g 4 h M 0 0 28 [(0, v_R (some a0))] [] := by
  unfold j_X3_isHeldUp_28 at hm
  refine a_iconst (x := 1) X dX3_isHeldUp_28 (by decide) ?_
  refine a_goto (tgt := 33) X dX3_isHeldUp_29 (by decide) ?_
  exact a_zret X hF (Or.inr rfl) ⟨rfl, rfl, Option.some.inj hm⟩ (by decide) dX3_isHeldUp_33
def f_X3_isHeldUp (h : Hpx) (a0 : Nat) (x1 : Option Nat) (x2 : Int32) : Option (Int32) :=
  x1.bind fun a21 =>
  (if h_k h a21 = 3 then
  (if (x2 - (h_I h a21 1)) < 0 then
  some (0 : Int32)
  else (f_X2_openSlot h a21 (x2 - (h_I h a21 1))).bind fun r25 =>
  (if r25 = none then
  (if h_k h a0 = 4 then
  (f_X3_holderUpTo h a0 x1 (x2 - (h_I h a21 1))).bind fun r29 =>
  (if r29 < 0 then
  some (0 : Int32)
  else j_X3_isHeldUp_28 h a0 ) else none)
  else j_X3_isHeldUp_28 h a0 )) else none)
set_option maxHeartbeats 4000000 in
theorem q_X3_isHeldUp_0 {v : Evx} {g : Gvx} {M : Msx} {r : Int32} (X : Cx_ v g cX3_isHeldUp 4 RX3 "isHeldUp" ((some .boolean)) rm_X3_isHeldUp) (h : Hpx) (a0 : Nat) (hF : Fi_ v g rm_X3_isHeldUp (some (v_I r)) h M) (x1 : Option Nat) (x2 : Int32) (hm : f_X3_isHeldUp h a0 x1 x2 = some r) : At_ v g 4 h M 0 0 0 [(0, v_R (some a0)), (1, v_R x1), (2, v_I x2)] [] := by
  unfold f_X3_isHeldUp at hm
  refine a_iload_n X dX3_isHeldUp_0 rfl ?_
  refine a_aload_n X dX3_isHeldUp_1 rfl ?_
  obtain ⟨a21, ea21, hm⟩ := i_b hm
  obtain ⟨k22, hm⟩ := i_c hm
  refine a_getI X 2 1 ea21 k22 (by decide) rfl fl_X3_169 dX3_isHeldUp_2 ?_
  refine a_isub X dX3_isHeldUp_5 ?_
  refine a_istore_n (lv' := [(0, v_R (some a0)), (1, v_R x1), (2, v_I x2), (3, v_I (x2 - (h_I h a21 1)))]) X dX3_isHeldUp_6 (by decide) rfl ?_
  refine a_iload_n X dX3_isHeldUp_7 rfl ?_
  refine a_if_lt (tgt := 32) X dX3_isHeldUp_8 (by decide) hm (fun c23 hm => ?_) (fun c23 hm => ?_)
  · refine a_iconst (x := 0) X dX3_isHeldUp_32 (by decide) ?_
    exact a_zret X hF (Or.inl rfl) ⟨rfl, rfl, Option.some.inj hm⟩ (by decide) dX3_isHeldUp_33
  · refine a_aload_n X dX3_isHeldUp_11 rfl ?_
    refine a_iload_n X dX3_isHeldUp_12 rfl ?_
    obtain ⟨r25, q24, hm⟩ := i_b hm
    refine a_callV (k' := 0) (n' := 0) (st := []) X (c_X2_openSlot q24) yv_X2_openSlot ml_X3_131 ea21 (Or.inl k22) ⟨by decide, by decide, by decide, by decide, Nat.le_of_ble_eq_true rfl⟩ rfl rfl dX3_isHeldUp_13 rfl rfl ?_
    show At_ v g 4 h M 0 0 16 [(0, v_R (some a0)), (1, v_R x1), (2, v_I x2), (3, v_I (x2 - (h_I h a21 1)))] [v_R r25]
    refine a_ifnonnull (tgt := 28) X dX3_isHeldUp_16 (by decide) hm (fun c26 hm => ?_) (fun c26 hm => ?_)
    · refine a_pick (lv' := [(0, v_R (some a0))]) [0] rfl ?_
      exact q_X3_isHeldUp_28 X h a0 hF  hm
    · refine a_aload_n X dX3_isHeldUp_19 rfl ?_
      refine a_aload_n X dX3_isHeldUp_20 rfl ?_
      refine a_iload_n X dX3_isHeldUp_21 rfl ?_
      obtain ⟨k27, hm⟩ := i_c hm
      obtain ⟨r29, q28, hm⟩ := i_b hm
      refine a_callV (k' := 0) (n' := 0) (st := []) X (c_X3_holderUpTo q28) yv_X3_holderUpTo ml_X3_165 rfl (Or.inl k27) ⟨by decide, by decide, by decide, by decide, Nat.le_of_ble_eq_true rfl⟩ rfl rfl dX3_isHeldUp_22 rfl rfl ?_
      show At_ v g 4 h M 0 0 25 [(0, v_R (some a0)), (1, v_R x1), (2, v_I x2), (3, v_I (x2 - (h_I h a21 1)))] [v_I r29]
      refine a_if_lt (tgt := 32) X dX3_isHeldUp_25 (by decide) hm (fun c30 hm => ?_) (fun c30 hm => ?_)
      · refine a_iconst (x := 0) X dX3_isHeldUp_32 (by decide) ?_
        exact a_zret X hF (Or.inl rfl) ⟨rfl, rfl, Option.some.inj hm⟩ (by decide) dX3_isHeldUp_33
      · refine a_pick (lv' := [(0, v_R (some a0))]) [0] rfl ?_
        exact q_X3_isHeldUp_28 X h a0 hF  hm
theorem c_X3_isHeldUp {l : Launch} {g : Gvx} {h : Hpx} {M : Msx} {r : Int32} {a0 : Nat} {x1 : Option Nat} {x2 : Int32} (hm : f_X3_isHeldUp h a0 x1 x2 = some r) : Mt_ l g yX3_isHeldUp cX3_isHeldUp 4 ((some .boolean)) rm_X3_isHeldUp [v_R (some a0), v_R x1, v_I x2] h M (some (v_I r)) h M := mt_of (by decide) (Nat.le_of_ble_eq_true rfl) (fun v _ X hF => q_X3_isHeldUp_0 X h a0 hF x1 x2 hm)
theorem yv_X3_isHeldUp : Yv_ yX3_isHeldUp cX3_isHeldUp 4 ((some .boolean)) 2 3 := ⟨rfl, by decide, ⟨by decide, by decide, by decide +kernel⟩, co_X3_isHeldUp, im_X3_isHeldUp, se_X3_isHeldUp, ini_X3⟩
