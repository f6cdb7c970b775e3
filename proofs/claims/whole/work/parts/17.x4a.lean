abbrev rm_X4_init : Room := { frames := 1, cells := 35, slots := 12907, locals := 12 }
def f_X4_init (h : Hpx) (a0 : Nat) : Option (Hpx) :=
  b_d (h_z h) fun z21 =>
  b_d (h_new h 6 8) fun h22 =>
  (if h_k h22 a0 = 5 then
  b_d (s_R h22 a0 1 (some z21)) fun h24 =>
  b_d (h_z h24) fun z25 =>
  b_d (h_new h24 6 8) fun h26 =>
  (if h_k h26 a0 = 5 then
  b_d (s_R h26 a0 2 (some z25)) fun h28 =>
  b_d (h_z h28) fun z29 =>
  b_d (h_new h28 6 8) fun h30 =>
  (if h_k h30 a0 = 5 then
  b_d (s_R h30 a0 3 (some z29)) fun h32 =>
  b_d (h_z h32) fun z33 =>
  b_d (h_new h32 7 8) fun h34 =>
  (if h_k h34 a0 = 5 then
  b_d (s_R h34 a0 4 (some z33)) fun h36 =>
  b_d (h_z h36) fun z37 =>
  b_d (h_new h36 8 512) fun h38 =>
  (if h_k h38 a0 = 5 then
  b_d (s_R h38 a0 5 (some z37)) fun h40 =>
  b_d (h_z h40) fun z41 =>
  b_d (h_new h40 7 512) fun h42 =>
  (if h_k h42 a0 = 5 then
  b_d (s_R h42 a0 6 (some z41)) fun h44 =>
  b_d (h_z h44) fun z45 =>
  b_d (h_new h44 6 512) fun h46 =>
  (if h_k h46 a0 = 5 then
  b_d (s_R h46 a0 7 (some z45)) fun h48 =>
  b_d (h_z h48) fun z49 =>
  b_d (h_new h48 6 512) fun h50 =>
  (if h_k h50 a0 = 5 then
  b_d (s_R h50 a0 8 (some z49)) fun h52 =>
  b_d (h_z h52) fun z53 =>
  b_d (h_new h52 7 4096) fun h54 =>
  (if h_k h54 a0 = 5 then
  b_d (s_R h54 a0 9 (some z53)) fun h56 =>
  b_d (h_z h56) fun z57 =>
  b_d (h_new h56 6 16) fun h58 =>
  (if h_k h58 a0 = 5 then
  b_d (s_R h58 a0 11 (some z57)) fun h60 =>
  b_d (h_z h60) fun z61 =>
  b_d (h_new h60 6 64) fun h62 =>
  (if h_k h62 a0 = 5 then
  b_d (s_R h62 a0 12 (some z61)) fun h64 =>
  b_d (h_z h64) fun z65 =>
  b_d (h_new h64 6 64) fun h66 =>
  (if h_k h66 a0 = 5 then
  b_d (s_R h66 a0 13 (some z65)) fun h68 =>
  b_d (h_z h68) fun z69 =>
  b_d (h_new h68 6 16) fun h70 =>
  (if h_k h70 a0 = 5 then
  b_d (s_R h70 a0 14 (some z69)) fun h72 =>
  b_d (h_z h72) fun z73 =>
  b_d (h_new h72 6 64) fun h74 =>
  (if h_k h74 a0 = 5 then
  b_d (s_R h74 a0 15 (some z73)) fun h76 =>
  b_d (h_z h76) fun z77 =>
  b_d (h_new h76 6 16) fun h78 =>
  (if h_k h78 a0 = 5 then
  b_d (s_R h78 a0 16 (some z77)) fun h80 =>
  b_d (h_z h80) fun z81 =>
  b_d (h_new h80 6 16) fun h82 =>
  (if h_k h82 a0 = 5 then
  b_d (s_R h82 a0 17 (some z81)) fun h84 =>
  b_d (h_z h84) fun z85 =>
  b_d (h_new h84 6 16) fun h86 =>
  (if h_k h86 a0 = 5 then
  b_d (s_R h86 a0 18 (some z85)) fun h88 =>
  b_d (h_z h88) fun z89 =>
  b_d (h_new h88 6 16) fun h90 =>
  (if h_k h90 a0 = 5 then
  b_d (s_R h90 a0 19 (some z89)) fun h92 =>
  b_d (h_z h92) fun z93 =>
  b_d (h_new h92 6 16) fun h94 =>
  (if h_k h94 a0 = 5 then
  b_d (s_R h94 a0 20 (some z93)) fun h96 =>
  b_d (h_z h96) fun z97 =>
  b_d (h_new h96 6 16) fun h98 =>
  (if h_k h98 a0 = 5 then
  b_d (s_R h98 a0 21 (some z97)) fun h100 =>
  b_d (h_z h100) fun z101 =>
  b_d (h_new h100 6 16) fun h102 =>
  (if h_k h102 a0 = 5 then
  b_d (s_R h102 a0 22 (some z101)) fun h104 =>
  b_d (h_z h104) fun z105 =>
  b_d (h_new h104 6 16) fun h106 =>
  (if h_k h106 a0 = 5 then
  b_d (s_R h106 a0 23 (some z105)) fun h108 =>
  b_d (h_z h108) fun z109 =>
  b_d (h_new h108 7 16) fun h110 =>
  (if h_k h110 a0 = 5 then
  b_d (s_R h110 a0 24 (some z109)) fun h112 =>
  b_d (h_z h112) fun z113 =>
  b_d (h_new h112 6 16) fun h114 =>
  (if h_k h114 a0 = 5 then
  b_d (s_R h114 a0 25 (some z113)) fun h116 =>
  b_d (h_z h116) fun z117 =>
  b_d (h_new h116 6 16) fun h118 =>
  (if h_k h118 a0 = 5 then
  b_d (s_R h118 a0 26 (some z117)) fun h120 =>
  b_d (h_z h120) fun z121 =>
  b_d (h_new h120 7 128) fun h122 =>
  (if h_k h122 a0 = 5 then
  b_d (s_R h122 a0 27 (some z121)) fun h124 =>
  b_d (h_z h124) fun z125 =>
  b_d (h_new h124 6 16) fun h126 =>
  (if h_k h126 a0 = 5 then
  b_d (s_R h126 a0 28 (some z125)) fun h128 =>
  b_d (h_z h128) fun z129 =>
  b_d (h_new h128 6 512) fun h130 =>
  (if h_k h130 a0 = 5 then
  b_d (s_R h130 a0 29 (some z129)) fun h132 =>
  b_d (h_z h132) fun z133 =>
  b_d (h_new h132 7 512) fun h134 =>
  (if h_k h134 a0 = 5 then
  b_d (s_R h134 a0 30 (some z133)) fun h136 =>
  b_d (h_z h136) fun z137 =>
  b_d (h_new h136 6 512) fun h138 =>
  (if h_k h138 a0 = 5 then
  b_d (s_R h138 a0 31 (some z137)) fun h140 =>
  b_d (h_z h140) fun z141 =>
  b_d (h_new h140 6 512) fun h142 =>
  (if h_k h142 a0 = 5 then
  b_d (s_R h142 a0 32 (some z141)) fun h144 =>
  b_d (h_z h144) fun z145 =>
  b_d (h_new h144 7 4096) fun h146 =>
  (if h_k h146 a0 = 5 then
  b_d (s_R h146 a0 33 (some z145)) fun h148 =>
  b_d (s_I h148 a0 36 (-1 : Int32)) fun h149 =>
  b_d (h_z h149) fun z150 =>
  b_d (h_new h149 6 7) fun h151 =>
  (if h_k h151 a0 = 5 then
  b_d (s_R h151 a0 38 (some z150)) fun h153 =>
  b_d (h_z h153) fun z154 =>
  b_d (h_new h153 6 20) fun h155 =>
  (if h_k h155 a0 = 5 then
  b_d (s_R h155 a0 39 (some z154)) fun h157 =>
  b_d (h_z h157) fun z158 =>
  b_d (h_new h157 8 16) fun h159 =>
  (if h_k h159 a0 = 5 then
  b_d (s_R h159 a0 41 (some z158)) fun h161 =>
  some h161 else none) else none) else none) else none) else none) else none) else none) else none) else none) else none) else none) else none) else none) else none) else none) else none) else none) else none) else none) else none) else none) else none) else none) else none) else none) else none) else none) else none) else none) else none) else none) else none) else none) else none) else none)
set_option maxHeartbeats 4000000 in
theorem q_X4_init_0 {v : Evx} {g : Gvx} {M : Msx} {h' : Hpx} (X : Cx_ v g cX4_init 1 RX4 "<init>" (none) rm_X4_init) (a0 : Nat) (hF : Fi_ v g rm_X4_init (none) h' M) (h : Hpx) (hm : f_X4_init h a0 = some h') : At_ v g 1 h M 0 0 0 [(0, v_R (some a0))] [] := by
  unfold f_X4_init at hm
  refine a_aload_n X dX4_init_0 rfl ?_
  refine a_objInit X ml_X4_1 ⟨by decide, Nat.le_of_ble_eq_true rfl⟩ dX4_init_1 ?_
  refine a_aload_n X dX4_init_4 rfl ?_
  refine a_bipush (x := 8) X dX4_init_5 (by decide) ?_
  obtain ⟨z21, ez21, hm⟩ := i_d hm
  obtain ⟨h22, eh22, hm⟩ := i_d hm
  refine a_newI (N := 8) (k' := 1) (n' := 8) X (by decide) (by decide) (by decide) (by decide) rfl rfl dX4_init_7 ?_
  rw [← eh22]
  rw [← ez21]
  obtain ⟨k23, hm⟩ := i_c hm
  obtain ⟨h24, eh24, hm⟩ := i_d hm
  refine a_putR X 4 1 true rfl k23 (by decide) rfl rfl (fun _ => ⟨rfl, rfl⟩) rfl fl_X4_7 dX4_init_9 ?_
  rw [← eh24]
  refine a_aload_n X dX4_init_12 rfl ?_
  refine a_bipush (x := 8) X dX4_init_13 (by decide) ?_
  obtain ⟨z25, ez25, hm⟩ := i_d hm
  obtain ⟨h26, eh26, hm⟩ := i_d hm
  refine a_newI (N := 8) (k' := 2) (n' := 16) X (by decide) (by decide) (by decide) (by decide) rfl rfl dX4_init_15 ?_
  rw [← eh26]
  rw [← ez25]
  obtain ⟨k27, hm⟩ := i_c hm
  obtain ⟨h28, eh28, hm⟩ := i_d hm
  refine a_putR X 4 2 true rfl k27 (by decide) rfl rfl (fun _ => ⟨rfl, rfl⟩) rfl fl_X4_13 dX4_init_17 ?_
  rw [← eh28]
  refine a_aload_n X dX4_init_20 rfl ?_
  refine a_bipush (x := 8) X dX4_init_21 (by decide) ?_
  obtain ⟨z29, ez29, hm⟩ := i_d hm
  obtain ⟨h30, eh30, hm⟩ := i_d hm
  refine a_newI (N := 8) (k' := 3) (n' := 24) X (by decide) (by decide) (by decide) (by decide) rfl rfl dX4_init_23 ?_
  rw [← eh30]
  rw [← ez29]
  obtain ⟨k31, hm⟩ := i_c hm
  obtain ⟨h32, eh32, hm⟩ := i_d hm
  refine a_putR X 4 3 true rfl k31 (by decide) rfl rfl (fun _ => ⟨rfl, rfl⟩) rfl fl_X4_16 dX4_init_25 ?_
  rw [← eh32]
  refine a_aload_n X dX4_init_28 rfl ?_
  refine a_bipush (x := 8) X dX4_init_29 (by decide) ?_
  obtain ⟨z33, ez33, hm⟩ := i_d hm
  obtain ⟨h34, eh34, hm⟩ := i_d hm
  refine a_newJ (N := 8) (k' := 4) (n' := 32) X (by decide) (by decide) (by decide) (by decide) rfl rfl dX4_init_31 ?_
  rw [← eh34]
  rw [← ez33]
  obtain ⟨k35, hm⟩ := i_c hm
  obtain ⟨h36, eh36, hm⟩ := i_d hm
  refine a_putR X 4 4 true rfl k35 (by decide) rfl rfl (fun _ => ⟨rfl, rfl⟩) rfl fl_X4_19 dX4_init_33 ?_
  rw [← eh36]
  refine a_aload_n X dX4_init_36 rfl ?_
  refine a_sipush (x := 512) X dX4_init_37 (by decide) ?_
  obtain ⟨z37, ez37, hm⟩ := i_d hm
  obtain ⟨h38, eh38, hm⟩ := i_d hm
  refine a_newZ (N := 512) (k' := 5) (n' := 544) X (by decide) (by decide) (by decide) (by decide) rfl rfl dX4_init_40 ?_
  rw [← eh38]
  rw [← ez37]
  obtain ⟨k39, hm⟩ := i_c hm
  obtain ⟨h40, eh40, hm⟩ := i_d hm
  refine a_putR X 4 5 true rfl k39 (by decide) rfl rfl (fun _ => ⟨rfl, rfl⟩) rfl fl_X4_23 dX4_init_42 ?_
  rw [← eh40]
  refine a_aload_n X dX4_init_45 rfl ?_
  refine a_sipush (x := 512) X dX4_init_46 (by decide) ?_
  obtain ⟨z41, ez41, hm⟩ := i_d hm
  obtain ⟨h42, eh42, hm⟩ := i_d hm
  refine a_newJ (N := 512) (k' := 6) (n' := 1056) X (by decide) (by decide) (by decide) (by decide) rfl rfl dX4_init_49 ?_
  rw [← eh42]
  rw [← ez41]
  obtain ⟨k43, hm⟩ := i_c hm
  obtain ⟨h44, eh44, hm⟩ := i_d hm
  refine a_putR X 4 6 true rfl k43 (by decide) rfl rfl (fun _ => ⟨rfl, rfl⟩) rfl fl_X4_27 dX4_init_51 ?_
  rw [← eh44]
  refine a_aload_n X dX4_init_54 rfl ?_
  refine a_sipush (x := 512) X dX4_init_55 (by decide) ?_
  obtain ⟨z45, ez45, hm⟩ := i_d hm
  obtain ⟨h46, eh46, hm⟩ := i_d hm
  refine a_newI (N := 512) (k' := 7) (n' := 1568) X (by decide) (by decide) (by decide) (by decide) rfl rfl dX4_init_58 ?_
  rw [← eh46]
  rw [← ez45]
  obtain ⟨k47, hm⟩ := i_c hm
  obtain ⟨h48, eh48, hm⟩ := i_d hm
  refine a_putR X 4 7 true rfl k47 (by decide) rfl rfl (fun _ => ⟨rfl, rfl⟩) rfl fl_X4_30 dX4_init_60 ?_
  rw [← eh48]
  refine a_aload_n X dX4_init_63 rfl ?_
  refine a_sipush (x := 512) X dX4_init_64 (by decide) ?_
  obtain ⟨z49, ez49, hm⟩ := i_d hm
  obtain ⟨h50, eh50, hm⟩ := i_d hm
  refine a_newI (N := 512) (k' := 8) (n' := 2080) X (by decide) (by decide) (by decide) (by decide) rfl rfl dX4_init_67 ?_
  rw [← eh50]
  rw [← ez49]
  obtain ⟨k51, hm⟩ := i_c hm
  obtain ⟨h52, eh52, hm⟩ := i_d hm
  refine a_putR X 4 8 true rfl k51 (by decide) rfl rfl (fun _ => ⟨rfl, rfl⟩) rfl fl_X4_33 dX4_init_69 ?_
  rw [← eh52]
  refine a_aload_n X dX4_init_72 rfl ?_
  refine a_sipush (x := 4096) X dX4_init_73 (by decide) ?_
  obtain ⟨z53, ez53, hm⟩ := i_d hm
  obtain ⟨h54, eh54, hm⟩ := i_d hm
  refine a_newJ (N := 4096) (k' := 9) (n' := 6176) X (by decide) (by decide) (by decide) (by decide) rfl rfl dX4_init_76 ?_
  rw [← eh54]
  rw [← ez53]
  obtain ⟨k55, hm⟩ := i_c hm
  obtain ⟨h56, eh56, hm⟩ := i_d hm
  refine a_putR X 4 9 true rfl k55 (by decide) rfl rfl (fun _ => ⟨rfl, rfl⟩) rfl fl_X4_36 dX4_init_78 ?_
  rw [← eh56]
  refine a_aload_n X dX4_init_81 rfl ?_
  refine a_bipush (x := 16) X dX4_init_82 (by decide) ?_
  obtain ⟨z57, ez57, hm⟩ := i_d hm
  obtain ⟨h58, eh58, hm⟩ := i_d hm
  refine a_newI (N := 16) (k' := 10) (n' := 6192) X (by decide) (by decide) (by decide) (by decide) rfl rfl dX4_init_84 ?_
  rw [← eh58]
  rw [← ez57]
  obtain ⟨k59, hm⟩ := i_c hm
  obtain ⟨h60, eh60, hm⟩ := i_d hm
  refine a_putR X 4 11 true rfl k59 (by decide) rfl rfl (fun _ => ⟨rfl, rfl⟩) rfl fl_X4_39 dX4_init_86 ?_
  rw [← eh60]
  refine a_aload_n X dX4_init_89 rfl ?_
  refine a_bipush (x := 64) X dX4_init_90 (by decide) ?_
  obtain ⟨z61, ez61, hm⟩ := i_d hm
  obtain ⟨h62, eh62, hm⟩ := i_d hm
  refine a_newI (N := 64) (k' := 11) (n' := 6256) X (by decide) (by decide) (by decide) (by decide) rfl rfl dX4_init_92 ?_
  rw [← eh62]
  rw [← ez61]
  obtain ⟨k63, hm⟩ := i_c hm
  obtain ⟨h64, eh64, hm⟩ := i_d hm
  refine a_putR X 4 12 true rfl k63 (by decide) rfl rfl (fun _ => ⟨rfl, rfl⟩) rfl fl_X4_42 dX4_init_94 ?_
  rw [← eh64]
  refine a_aload_n X dX4_init_97 rfl ?_
  refine a_bipush (x := 64) X dX4_init_98 (by decide) ?_
  obtain ⟨z65, ez65, hm⟩ := i_d hm
  obtain ⟨h66, eh66, hm⟩ := i_d hm
  refine a_newI (N := 64) (k' := 12) (n' := 6320) X (by decide) (by decide) (by decide) (by decide) rfl rfl dX4_init_100 ?_
  rw [← eh66]
  rw [← ez65]
  obtain ⟨k67, hm⟩ := i_c hm
  obtain ⟨h68, eh68, hm⟩ := i_d hm
  refine a_putR X 4 13 true rfl k67 (by decide) rfl rfl (fun _ => ⟨rfl, rfl⟩) rfl fl_X4_45 dX4_init_102 ?_
  rw [← eh68]
  refine a_aload_n X dX4_init_105 rfl ?_
  refine a_bipush (x := 16) X dX4_init_106 (by decide) ?_
  obtain ⟨z69, ez69, hm⟩ := i_d hm
  obtain ⟨h70, eh70, hm⟩ := i_d hm
  refine a_newI (N := 16) (k' := 13) (n' := 6336) X (by decide) (by decide) (by decide) (by decide) rfl rfl dX4_init_108 ?_
  rw [← eh70]
  rw [← ez69]
  obtain ⟨k71, hm⟩ := i_c hm
  obtain ⟨h72, eh72, hm⟩ := i_d hm
  refine a_putR X 4 14 true rfl k71 (by decide) rfl rfl (fun _ => ⟨rfl, rfl⟩) rfl fl_X4_48 dX4_init_110 ?_
  rw [← eh72]
  refine a_aload_n X dX4_init_113 rfl ?_
  refine a_bipush (x := 64) X dX4_init_114 (by decide) ?_
  obtain ⟨z73, ez73, hm⟩ := i_d hm
  obtain ⟨h74, eh74, hm⟩ := i_d hm
  refine a_newI (N := 64) (k' := 14) (n' := 6400) X (by decide) (by decide) (by decide) (by decide) rfl rfl dX4_init_116 ?_
  rw [← eh74]
  rw [← ez73]
  obtain ⟨k75, hm⟩ := i_c hm
  obtain ⟨h76, eh76, hm⟩ := i_d hm
  refine a_putR X 4 15 true rfl k75 (by decide) rfl rfl (fun _ => ⟨rfl, rfl⟩) rfl fl_X4_51 dX4_init_118 ?_
  rw [← eh76]
  refine a_aload_n X dX4_init_121 rfl ?_
  refine a_bipush (x := 16) X dX4_init_122 (by decide) ?_
  obtain ⟨z77, ez77, hm⟩ := i_d hm
  obtain ⟨h78, eh78, hm⟩ := i_d hm
  refine a_newI (N := 16) (k' := 15) (n' := 6416) X (by decide) (by decide) (by decide) (by decide) rfl rfl dX4_init_124 ?_
  rw [← eh78]
  rw [← ez77]
  obtain ⟨k79, hm⟩ := i_c hm
  obtain ⟨h80, eh80, hm⟩ := i_d hm
  refine a_putR X 4 16 true rfl k79 (by decide) rfl rfl (fun _ => ⟨rfl, rfl⟩) rfl fl_X4_54 dX4_init_126 ?_
  rw [← eh80]
  refine a_aload_n X dX4_init_129 rfl ?_
  refine a_bipush (x := 16) X dX4_init_130 (by decide) ?_
  obtain ⟨z81, ez81, hm⟩ := i_d hm
  obtain ⟨h82, eh82, hm⟩ := i_d hm
  refine a_newI (N := 16) (k' := 16) (n' := 6432) X (by decide) (by decide) (by decide) (by decide) rfl rfl dX4_init_132 ?_
  rw [← eh82]
  rw [← ez81]
  obtain ⟨k83, hm⟩ := i_c hm
  obtain ⟨h84, eh84, hm⟩ := i_d hm
  refine a_putR X 4 17 true rfl k83 (by decide) rfl rfl (fun _ => ⟨rfl, rfl⟩) rfl fl_X4_57 dX4_init_134 ?_
  rw [← eh84]
  refine a_aload_n X dX4_init_137 rfl ?_
  refine a_bipush (x := 16) X dX4_init_138 (by decide) ?_
  obtain ⟨z85, ez85, hm⟩ := i_d hm
  obtain ⟨h86, eh86, hm⟩ := i_d hm
  refine a_newI (N := 16) (k' := 17) (n' := 6448) X (by decide) (by decide) (by decide) (by decide) rfl rfl dX4_init_140 ?_
  rw [← eh86]
  rw [← ez85]
  obtain ⟨k87, hm⟩ := i_c hm
  obtain ⟨h88, eh88, hm⟩ := i_d hm
  refine a_putR X 4 18 true rfl k87 (by decide) rfl rfl (fun _ => ⟨rfl, rfl⟩) rfl fl_X4_60 dX4_init_142 ?_
  rw [← eh88]
  refine a_aload_n X dX4_init_145 rfl ?_
  refine a_bipush (x := 16) X dX4_init_146 (by decide) ?_
  obtain ⟨z89, ez89, hm⟩ := i_d hm
  obtain ⟨h90, eh90, hm⟩ := i_d hm
  refine a_newI (N := 16) (k' := 18) (n' := 6464) X (by decide) (by decide) (by decide) (by decide) rfl rfl dX4_init_148 ?_
  rw [← eh90]
  rw [← ez89]
  obtain ⟨k91, hm⟩ := i_c hm
  obtain ⟨h92, eh92, hm⟩ := i_d hm
  refine a_putR X 4 19 true rfl k91 (by decide) rfl rfl (fun _ => ⟨rfl, rfl⟩) rfl fl_X4_63 dX4_init_150 ?_
  rw [← eh92]
  refine a_aload_n X dX4_init_153 rfl ?_
  refine a_bipush (x := 16) X dX4_init_154 (by decide) ?_
  obtain ⟨z93, ez93, hm⟩ := i_d hm
  obtain ⟨h94, eh94, hm⟩ := i_d hm
  refine a_newI (N := 16) (k' := 19) (n' := 6480) X (by decide) (by decide) (by decide) (by decide) rfl rfl dX4_init_156 ?_
  rw [← eh94]
  rw [← ez93]
  obtain ⟨k95, hm⟩ := i_c hm
  obtain ⟨h96, eh96, hm⟩ := i_d hm
  refine a_putR X 4 20 true rfl k95 (by decide) rfl rfl (fun _ => ⟨rfl, rfl⟩) rfl fl_X4_66 dX4_init_158 ?_
  rw [← eh96]
  refine a_aload_n X dX4_init_161 rfl ?_
  refine a_bipush (x := 16) X dX4_init_162 (by decide) ?_
  obtain ⟨z97, ez97, hm⟩ := i_d hm
  obtain ⟨h98, eh98, hm⟩ := i_d hm
  refine a_newI (N := 16) (k' := 20) (n' := 6496) X (by decide) (by decide) (by decide) (by decide) rfl rfl dX4_init_164 ?_
  rw [← eh98]
  rw [← ez97]
  obtain ⟨k99, hm⟩ := i_c hm
  obtain ⟨h100, eh100, hm⟩ := i_d hm
  refine a_putR X 4 21 true rfl k99 (by decide) rfl rfl (fun _ => ⟨rfl, rfl⟩) rfl fl_X4_69 dX4_init_166 ?_
  rw [← eh100]
  refine a_aload_n X dX4_init_169 rfl ?_
  refine a_bipush (x := 16) X dX4_init_170 (by decide) ?_
  obtain ⟨z101, ez101, hm⟩ := i_d hm
  obtain ⟨h102, eh102, hm⟩ := i_d hm
  refine a_newI (N := 16) (k' := 21) (n' := 6512) X (by decide) (by decide) (by decide) (by decide) rfl rfl dX4_init_172 ?_
  rw [← eh102]
  rw [← ez101]
  obtain ⟨k103, hm⟩ := i_c hm
  obtain ⟨h104, eh104, hm⟩ := i_d hm
  refine a_putR X 4 22 true rfl k103 (by decide) rfl rfl (fun _ => ⟨rfl, rfl⟩) rfl fl_X4_72 dX4_init_174 ?_
  rw [← eh104]
  refine a_aload_n X dX4_init_177 rfl ?_
  refine a_bipush (x := 16) X dX4_init_178 (by decide) ?_
  obtain ⟨z105, ez105, hm⟩ := i_d hm
  obtain ⟨h106, eh106, hm⟩ := i_d hm
  refine a_newI (N := 16) (k' := 22) (n' := 6528) X (by decide) (by decide) (by decide) (by decide) rfl rfl dX4_init_180 ?_
  rw [← eh106]
  rw [← ez105]
  obtain ⟨k107, hm⟩ := i_c hm
  obtain ⟨h108, eh108, hm⟩ := i_d hm
  refine a_putR X 4 23 true rfl k107 (by decide) rfl rfl (fun _ => ⟨rfl, rfl⟩) rfl fl_X4_75 dX4_init_182 ?_
  rw [← eh108]
  refine a_aload_n X dX4_init_185 rfl ?_
  refine a_bipush (x := 16) X dX4_init_186 (by decide) ?_
  obtain ⟨z109, ez109, hm⟩ := i_d hm
  obtain ⟨h110, eh110, hm⟩ := i_d hm
  refine a_newJ (N := 16) (k' := 23) (n' := 6544) X (by decide) (by decide) (by decide) (by decide) rfl rfl dX4_init_188 ?_
  rw [← eh110]
  rw [← ez109]
  obtain ⟨k111, hm⟩ := i_c hm
  obtain ⟨h112, eh112, hm⟩ := i_d hm
  refine a_putR X 4 24 true rfl k111 (by decide) rfl rfl (fun _ => ⟨rfl, rfl⟩) rfl fl_X4_78 dX4_init_190 ?_
  rw [← eh112]
  refine a_aload_n X dX4_init_193 rfl ?_
  refine a_bipush (x := 16) X dX4_init_194 (by decide) ?_
  obtain ⟨z113, ez113, hm⟩ := i_d hm
  obtain ⟨h114, eh114, hm⟩ := i_d hm
  refine a_newI (N := 16) (k' := 24) (n' := 6560) X (by decide) (by decide) (by decide) (by decide) rfl rfl dX4_init_196 ?_
  rw [← eh114]
  rw [← ez113]
  obtain ⟨k115, hm⟩ := i_c hm
  obtain ⟨h116, eh116, hm⟩ := i_d hm
  refine a_putR X 4 25 true rfl k115 (by decide) rfl rfl (fun _ => ⟨rfl, rfl⟩) rfl fl_X4_81 dX4_init_198 ?_
  rw [← eh116]
  refine a_aload_n X dX4_init_201 rfl ?_
  refine a_bipush (x := 16) X dX4_init_202 (by decide) ?_
  obtain ⟨z117, ez117, hm⟩ := i_d hm
  obtain ⟨h118, eh118, hm⟩ := i_d hm
  refine a_newI (N := 16) (k' := 25) (n' := 6576) X (by decide) (by decide) (by decide) (by decide) rfl rfl dX4_init_204 ?_
  rw [← eh118]
  rw [← ez117]
  obtain ⟨k119, hm⟩ := i_c hm
  obtain ⟨h120, eh120, hm⟩ := i_d hm
  refine a_putR X 4 26 true rfl k119 (by decide) rfl rfl (fun _ => ⟨rfl, rfl⟩) rfl fl_X4_84 dX4_init_206 ?_
  rw [← eh120]
  refine a_aload_n X dX4_init_209 rfl ?_
  refine a_sipush (x := 128) X dX4_init_210 (by decide) ?_
  obtain ⟨z121, ez121, hm⟩ := i_d hm
  obtain ⟨h122, eh122, hm⟩ := i_d hm
  refine a_newJ (N := 128) (k' := 26) (n' := 6704) X (by decide) (by decide) (by decide) (by decide) rfl rfl dX4_init_213 ?_
  rw [← eh122]
  rw [← ez121]
  obtain ⟨k123, hm⟩ := i_c hm
  obtain ⟨h124, eh124, hm⟩ := i_d hm
  refine a_putR X 4 27 true rfl k123 (by decide) rfl rfl (fun _ => ⟨rfl, rfl⟩) rfl fl_X4_87 dX4_init_215 ?_
  rw [← eh124]
  refine a_aload_n X dX4_init_218 rfl ?_
  refine a_bipush (x := 16) X dX4_init_219 (by decide) ?_
  obtain ⟨z125, ez125, hm⟩ := i_d hm
  obtain ⟨h126, eh126, hm⟩ := i_d hm
  refine a_newI (N := 16) (k' := 27) (n' := 6720) X (by decide) (by decide) (by decide) (by decide) rfl rfl dX4_init_221 ?_
  rw [← eh126]
  rw [← ez125]
  obtain ⟨k127, hm⟩ := i_c hm
  obtain ⟨h128, eh128, hm⟩ := i_d hm
  refine a_putR X 4 28 true rfl k127 (by decide) rfl rfl (fun _ => ⟨rfl, rfl⟩) rfl fl_X4_90 dX4_init_223 ?_
  rw [← eh128]
  refine a_aload_n X dX4_init_226 rfl ?_
  refine a_sipush (x := 512) X dX4_init_227 (by decide) ?_
  obtain ⟨z129, ez129, hm⟩ := i_d hm
  obtain ⟨h130, eh130, hm⟩ := i_d hm
  refine a_newI (N := 512) (k' := 28) (n' := 7232) X (by decide) (by decide) (by decide) (by decide) rfl rfl dX4_init_230 ?_
  rw [← eh130]
  rw [← ez129]
  obtain ⟨k131, hm⟩ := i_c hm
  obtain ⟨h132, eh132, hm⟩ := i_d hm
  refine a_putR X 4 29 true rfl k131 (by decide) rfl rfl (fun _ => ⟨rfl, rfl⟩) rfl fl_X4_93 dX4_init_232 ?_
  rw [← eh132]
  refine a_aload_n X dX4_init_235 rfl ?_
  refine a_sipush (x := 512) X dX4_init_236 (by decide) ?_
  obtain ⟨z133, ez133, hm⟩ := i_d hm
  obtain ⟨h134, eh134, hm⟩ := i_d hm
  refine a_newJ (N := 512) (k' := 29) (n' := 7744) X (by decide) (by decide) (by decide) (by decide) rfl rfl dX4_init_239 ?_
  rw [← eh134]
  rw [← ez133]
  obtain ⟨k135, hm⟩ := i_c hm
  obtain ⟨h136, eh136, hm⟩ := i_d hm
  refine a_putR X 4 30 true rfl k135 (by decide) rfl rfl (fun _ => ⟨rfl, rfl⟩) rfl fl_X4_96 dX4_init_241 ?_
  rw [← eh136]
  refine a_aload_n X dX4_init_244 rfl ?_
  refine a_sipush (x := 512) X dX4_init_245 (by decide) ?_
  obtain ⟨z137, ez137, hm⟩ := i_d hm
  obtain ⟨h138, eh138, hm⟩ := i_d hm
  refine a_newI (N := 512) (k' := 30) (n' := 8256) X (by decide) (by decide) (by decide) (by decide) rfl rfl dX4_init_248 ?_
  rw [← eh138]
  rw [← ez137]
  obtain ⟨k139, hm⟩ := i_c hm
  obtain ⟨h140, eh140, hm⟩ := i_d hm
  refine a_putR X 4 31 true rfl k139 (by decide) rfl rfl (fun _ => ⟨rfl, rfl⟩) rfl fl_X4_99 dX4_init_250 ?_
  rw [← eh140]
  refine a_aload_n X dX4_init_253 rfl ?_
  refine a_sipush (x := 512) X dX4_init_254 (by decide) ?_
  obtain ⟨z141, ez141, hm⟩ := i_d hm
  obtain ⟨h142, eh142, hm⟩ := i_d hm
  refine a_newI (N := 512) (k' := 31) (n' := 8768) X (by decide) (by decide) (by decide) (by decide) rfl rfl dX4_init_257 ?_
  rw [← eh142]
  rw [← ez141]
  obtain ⟨k143, hm⟩ := i_c hm
  obtain ⟨h144, eh144, hm⟩ := i_d hm
  refine a_putR X 4 32 true rfl k143 (by decide) rfl rfl (fun _ => ⟨rfl, rfl⟩) rfl fl_X4_102 dX4_init_259 ?_
  rw [← eh144]
  refine a_aload_n X dX4_init_262 rfl ?_
  refine a_sipush (x := 4096) X dX4_init_263 (by decide) ?_
  obtain ⟨z145, ez145, hm⟩ := i_d hm
  obtain ⟨h146, eh146, hm⟩ := i_d hm
  refine a_newJ (N := 4096) (k' := 32) (n' := 12864) X (by decide) (by decide) (by decide) (by decide) rfl rfl dX4_init_266 ?_
  rw [← eh146]
  rw [← ez145]
  obtain ⟨k147, hm⟩ := i_c hm
  obtain ⟨h148, eh148, hm⟩ := i_d hm
  refine a_putR X 4 33 true rfl k147 (by decide) rfl rfl (fun _ => ⟨rfl, rfl⟩) rfl fl_X4_105 dX4_init_268 ?_
  rw [← eh148]
  refine a_aload_n X dX4_init_271 rfl ?_
  refine a_iconst (x := -1) X dX4_init_272 (by decide) ?_
  obtain ⟨h149, eh149, hm⟩ := i_d hm
  refine a_putI X 4 36 false rfl (kk_R eh148 k147) (by decide) rfl rfl (fun q => by cases q) rfl rfl fl_X4_108 dX4_init_273 ?_
  rw [← eh149]
  refine a_aload_n X dX4_init_276 rfl ?_
  refine a_bipush (x := 7) X dX4_init_277 (by decide) ?_
  obtain ⟨z150, ez150, hm⟩ := i_d hm
  obtain ⟨h151, eh151, hm⟩ := i_d hm
  refine a_newI (N := 7) (k' := 33) (n' := 12871) X (by decide) (by decide) (by decide) (by decide) rfl rfl dX4_init_279 ?_
  rw [← eh151]
  rw [← ez150]
  obtain ⟨k152, hm⟩ := i_c hm
  obtain ⟨h153, eh153, hm⟩ := i_d hm
  refine a_putR X 4 38 true rfl k152 (by decide) rfl rfl (fun _ => ⟨rfl, rfl⟩) rfl fl_X4_112 dX4_init_281 ?_
  rw [← eh153]
  refine a_aload_n X dX4_init_284 rfl ?_
  refine a_bipush (x := 20) X dX4_init_285 (by decide) ?_
  obtain ⟨z154, ez154, hm⟩ := i_d hm
  obtain ⟨h155, eh155, hm⟩ := i_d hm
  refine a_newI (N := 20) (k' := 34) (n' := 12891) X (by decide) (by decide) (by decide) (by decide) rfl rfl dX4_init_287 ?_
  rw [← eh155]
  rw [← ez154]
  obtain ⟨k156, hm⟩ := i_c hm
  obtain ⟨h157, eh157, hm⟩ := i_d hm
  refine a_putR X 4 39 true rfl k156 (by decide) rfl rfl (fun _ => ⟨rfl, rfl⟩) rfl fl_X4_115 dX4_init_289 ?_
  rw [← eh157]
  refine a_aload_n X dX4_init_292 rfl ?_
  refine a_bipush (x := 16) X dX4_init_293 (by decide) ?_
  obtain ⟨z158, ez158, hm⟩ := i_d hm
  obtain ⟨h159, eh159, hm⟩ := i_d hm
  refine a_newZ (N := 16) (k' := 35) (n' := 12907) X (by decide) (by decide) (by decide) (by decide) rfl rfl dX4_init_295 ?_
  rw [← eh159]
  rw [← ez158]
  obtain ⟨k160, hm⟩ := i_c hm
  obtain ⟨h161, eh161, hm⟩ := i_d hm
  refine a_putR X 4 41 true rfl k160 (by decide) rfl rfl (fun _ => ⟨rfl, rfl⟩) rfl fl_X4_118 dX4_init_297 ?_
  rw [← eh161]
  exact a_vret X hF ⟨Option.some.inj hm, rfl⟩ (by decide) dX4_init_300
theorem c_X4_init {l : Launch} {g : Gvx} {h : Hpx} {M : Msx} {h' : Hpx} {a0 : Nat} (hm : f_X4_init h a0 = some h') : Mt_ l g yX4_init cX4_init 1 (none) rm_X4_init [v_R (some a0)] h M (none) h' M := mt_of (by decide) (Nat.le_of_ble_eq_true rfl) (fun v _ X hF => q_X4_init_0 X a0 hF h hm)
theorem yi_X4_init : Yi_ yX4_init cX4_init 1 0 := ⟨rfl, ⟨by decide, by decide, by decide +kernel⟩, co_X4_init, im_X4_init, ini_X4⟩

abbrev rm_X4_find : Room := { frames := 0, cells := 0, slots := 0, locals := 0 }
def f_X4_find (M : Msx) (x1 : Int32) : Option (Msx × Int32) :=
  (if in_b (0 : Int32) 7 = true then
  b_d (n_I M 38 (0 : Int32).toNatClampNeg x1) fun M22 =>
  (if in_b x1 7 = true then
  b_d (n_I M22 38 x1.toNatClampNeg ((m_I M22 38 x1.toNatClampNeg) + (1 : Int32))) fun M24 =>
  some (M24, (-12 : Int32)) else none) else none)
set_option maxHeartbeats 4000000 in
theorem q_X4_find_0 {v : Evx} {g : Gvx} {h : Hpx} {M' : Msx} {r : Int32} (X : Cx_ v g cX4_find 2 RX4 "find" ((some .int)) rm_X4_find) (hMR : MR_ h) (hF : Fi_ v g rm_X4_find (some (v_I r)) h M') (M : Msx) (x1 : Int32) (hm : f_X4_find M x1 = some (M', r)) : At_ v g 2 h M 0 0 0 [(0, v_R (some 5)), (1, v_I x1)] [] := by
  unfold f_X4_find at hm
  refine a_aload_n X dX4_find_0 rfl ?_
  refine a_mgetA X hMR 38 (by decide) rfl rfl fl_X4_112 dX4_find_1 ?_
  refine a_iconst (x := 0) X dX4_find_4 (by decide) ?_
  refine a_iload_n X dX4_find_5 rfl ?_
  obtain ⟨b21, hm⟩ := i_c hm
  obtain ⟨M22, eM22, hm⟩ := i_d hm
  refine a_mastI X hMR 38 (by decide) rfl rfl rfl b21 dX4_find_6 ?_
  rw [← eM22]
  refine a_aload_n X dX4_find_7 rfl ?_
  refine a_mgetA X hMR 38 (by decide) rfl rfl fl_X4_112 dX4_find_8 ?_
  refine a_iload_n X dX4_find_11 rfl ?_
  refine a_dup2 X dX4_find_12 rfl rfl ?_
  obtain ⟨b23, hm⟩ := i_c hm
  refine a_maldI X hMR 38 (by decide) rfl rfl rfl b23 dX4_find_13 ?_
  refine a_iconst (x := 1) X dX4_find_14 (by decide) ?_
  refine a_iadd X dX4_find_15 ?_
  obtain ⟨M24, eM24, hm⟩ := i_d hm
  refine a_mastI X hMR 38 (by decide) rfl rfl rfl b23 dX4_find_16 ?_
  rw [← eM24]
  refine a_bipush (x := -12) X dX4_find_17 (by decide) ?_
  exact a_iret X hF ⟨rfl, (Prod.mk.inj (Option.some.inj hm)).1, (Prod.mk.inj (Option.some.inj hm)).2⟩ (by decide) dX4_find_19
theorem c_X4_find {l : Launch} {g : Gvx} {h : Hpx} {M : Msx} {M' : Msx} {r : Int32} {x1 : Int32} (hMR : MR_ h) (hm : f_X4_find M x1 = some (M', r)) : Mt_ l g yX4_find cX4_find 2 ((some .int)) rm_X4_find [v_R (some 5), v_I x1] h M (some (v_I r)) h M' := mt_of (by decide) (Nat.le_of_ble_eq_true rfl) (fun v _ X hF => q_X4_find_0 X hMR hF M x1 hm)
theorem yv_X4_find : Yv_ yX4_find cX4_find 2 ((some .int)) 1 4 := ⟨rfl, by decide, ⟨by decide, by decide, by decide +kernel⟩, co_X4_find, im_X4_find, se_X4_find, ini_X4⟩

abbrev rm_X4_isRing : Room := { frames := 0, cells := 0, slots := 0, locals := 0 }
def f_X4_isRing (M : Msx) (x1 : Int32) : Option (Int32) :=
  (if x1 < 0 then
  some (0 : Int32)
  else (if (m_I M 0 0) ≤ x1 then
  some (0 : Int32)
  else some (1 : Int32)))
set_option maxHeartbeats 4000000 in
theorem q_X4_isRing_0 {v : Evx} {g : Gvx} {h : Hpx} {r : Int32} (X : Cx_ v g cX4_isRing 2 RX4 "isRing" ((some .boolean)) rm_X4_isRing) (hMR : MR_ h) (M : Msx) (hF : Fi_ v g rm_X4_isRing (some (v_I r)) h M) (x1 : Int32) (hm : f_X4_isRing M x1 = some r) : At_ v g 2 h M 0 0 0 [(0, v_R (some 5)), (1, v_I x1)] [] := by
  unfold f_X4_isRing at hm
  refine a_iload_n X dX4_isRing_0 rfl ?_
  refine a_if_lt (tgt := 16) X dX4_isRing_1 (by decide) hm (fun c21 hm => ?_) (fun c21 hm => ?_)
  · refine a_iconst (x := 0) X dX4_isRing_16 (by decide) ?_
    exact a_zret X hF (Or.inl rfl) ⟨rfl, rfl, Option.some.inj hm⟩ (by decide) dX4_isRing_17
  · refine a_iload_n X dX4_isRing_4 rfl ?_
    refine a_aload_n X dX4_isRing_5 rfl ?_
    refine a_mgetI X hMR 0 (by decide) rfl fl_X4_121 dX4_isRing_6 ?_
    refine a_icmp_ge (tgt := 16) X dX4_isRing_9 (by decide) hm (fun c22 hm => ?_) (fun c22 hm => ?_)
    · refine a_iconst (x := 0) X dX4_isRing_16 (by decide) ?_
      exact a_zret X hF (Or.inl rfl) ⟨rfl, rfl, Option.some.inj hm⟩ (by decide) dX4_isRing_17
    · refine a_iconst (x := 1) X dX4_isRing_12 (by decide) ?_
      refine a_goto (tgt := 17) X dX4_isRing_13 (by decide) ?_
      exact a_zret X hF (Or.inr rfl) ⟨rfl, rfl, Option.some.inj hm⟩ (by decide) dX4_isRing_17
theorem c_X4_isRing {l : Launch} {g : Gvx} {h : Hpx} {M : Msx} {r : Int32} {x1 : Int32} (hMR : MR_ h) (hm : f_X4_isRing M x1 = some r) : Mt_ l g yX4_isRing cX4_isRing 2 ((some .boolean)) rm_X4_isRing [v_R (some 5), v_I x1] h M (some (v_I r)) h M := mt_of (by decide) (Nat.le_of_ble_eq_true rfl) (fun v _ X hF => q_X4_isRing_0 X hMR M hF x1 hm)
theorem yv_X4_isRing : Yv_ yX4_isRing cX4_isRing 2 ((some .boolean)) 1 4 := ⟨rfl, by decide, ⟨by decide, by decide, by decide +kernel⟩, co_X4_isRing, im_X4_isRing, se_X4_isRing, ini_X4⟩

abbrev rm_X4_isReader : Room := { frames := 0, cells := 0, slots := 0, locals := 0 }
def f_X4_isReader (M : Msx) (x1 : Int32) : Option (Int32) :=
  (if x1 < 0 then
  some (0 : Int32)
  else (if (m_I M 10 0) ≤ x1 then
  some (0 : Int32)
  else some (1 : Int32)))
set_option maxHeartbeats 4000000 in
theorem q_X4_isReader_0 {v : Evx} {g : Gvx} {h : Hpx} {r : Int32} (X : Cx_ v g cX4_isReader 2 RX4 "isReader" ((some .boolean)) rm_X4_isReader) (hMR : MR_ h) (M : Msx) (hF : Fi_ v g rm_X4_isReader (some (v_I r)) h M) (x1 : Int32) (hm : f_X4_isReader M x1 = some r) : At_ v g 2 h M 0 0 0 [(0, v_R (some 5)), (1, v_I x1)] [] := by
  unfold f_X4_isReader at hm
  refine a_iload_n X dX4_isReader_0 rfl ?_
  refine a_if_lt (tgt := 16) X dX4_isReader_1 (by decide) hm (fun c21 hm => ?_) (fun c21 hm => ?_)
  · refine a_iconst (x := 0) X dX4_isReader_16 (by decide) ?_
    exact a_zret X hF (Or.inl rfl) ⟨rfl, rfl, Option.some.inj hm⟩ (by decide) dX4_isReader_17
  · refine a_iload_n X dX4_isReader_4 rfl ?_
    refine a_aload_n X dX4_isReader_5 rfl ?_
    refine a_mgetI X hMR 10 (by decide) rfl fl_X4_124 dX4_isReader_6 ?_
    refine a_icmp_ge (tgt := 16) X dX4_isReader_9 (by decide) hm (fun c22 hm => ?_) (fun c22 hm => ?_)
    · refine a_iconst (x := 0) X dX4_isReader_16 (by decide) ?_
      exact a_zret X hF (Or.inl rfl) ⟨rfl, rfl, Option.some.inj hm⟩ (by decide) dX4_isReader_17
    · refine a_iconst (x := 1) X dX4_isReader_12 (by decide) ?_
      refine a_goto (tgt := 17) X dX4_isReader_13 (by decide) ?_
      exact a_zret X hF (Or.inr rfl) ⟨rfl, rfl, Option.some.inj hm⟩ (by decide) dX4_isReader_17
theorem c_X4_isReader {l : Launch} {g : Gvx} {h : Hpx} {M : Msx} {r : Int32} {x1 : Int32} (hMR : MR_ h) (hm : f_X4_isReader M x1 = some r) : Mt_ l g yX4_isReader cX4_isReader 2 ((some .boolean)) rm_X4_isReader [v_R (some 5), v_I x1] h M (some (v_I r)) h M := mt_of (by decide) (Nat.le_of_ble_eq_true rfl) (fun v _ X hF => q_X4_isReader_0 X hMR M hF x1 hm)
theorem yv_X4_isReader : Yv_ yX4_isReader cX4_isReader 2 ((some .boolean)) 1 4 := ⟨rfl, by decide, ⟨by decide, by decide, by decide +kernel⟩, co_X4_isReader, im_X4_isReader, se_X4_isReader, ini_X4⟩

abbrev rm_X4_index : Room := { frames := 0, cells := 0, slots := 0, locals := 0 }
def j_X4_index_25 (M : Msx) (rec_25 : Int32 → Int32 → Int32 → Int32 → Option (Int32)) (x1 : Int32) (x2 : Int32) (x3 : Int32) (x4 : Int32) : Option (Int32) :=
  (if in_b x1 16 = true then
  (if (m_I M 14 x1.toNatClampNeg) ≤ x4 then
  some x3
  else (if in_b (((4 : Int32) * x1) + x4) 64 = true then
  (if (m_I M 12 (((4 : Int32) * x1) + x4).toNatClampNeg) = x2 then
  rec_25 x1 x2 x4 (x4 + (1 : Int32))
  else rec_25 x1 x2 x3 (x4 + (1 : Int32))) else none)) else none)
set_option maxHeartbeats 4000000 in
theorem q_X4_index_25 {v : Evx} {g : Gvx} {h : Hpx} {r : Int32} (X : Cx_ v g cX4_index 5 RX4 "index" ((some .int)) rm_X4_index) (hMR : MR_ h) (M : Msx) (hF : Fi_ v g rm_X4_index (some (v_I r)) h M) (rec_25 : Int32 → Int32 → Int32 → Int32 → Option (Int32)) (hr_25 : ∀ (x1 : Int32) (x2 : Int32) (x3 : Int32) (x4 : Int32), rec_25 x1 x2 x3 x4 = some r → At_ v g 5 h M 0 0 25 [(0, v_R (some 5)), (1, v_I x1), (2, v_I x2), (3, v_I x3), (4, v_I x4)] []) (x1 : Int32) (x2 : Int32) (x3 : Int32) (x4 : Int32) (hm : j_X4_index_25 M rec_25 x1 x2 x3 x4 = some r) : At_ v g 5 h M 0 0 25 [(0, v_R (some 5)), (1, v_I x1), (2, v_I x2), (3, v_I x3), (4, v_I x4)] [] := by
  unfold j_X4_index_25 at hm
  refine a_iload X dX4_index_25 rfl ?_
  refine a_aload_n X dX4_index_27 rfl ?_
  refine a_mgetA X hMR 14 (by decide) rfl rfl fl_X4_48 dX4_index_28 ?_
  refine a_iload_n X dX4_index_31 rfl ?_
  obtain ⟨b24, hm⟩ := i_c hm
  refine a_maldI X hMR 14 (by decide) rfl rfl rfl b24 dX4_index_32 ?_
  refine a_icmp_ge (tgt := 64) X dX4_index_33 (by decide) hm (fun c25 hm => ?_) (fun c25 hm => ?_)
  · refine a_iload_n X dX4_index_64 rfl ?_
    exact a_iret X hF ⟨rfl, rfl, Option.some.inj hm⟩ (by decide) dX4_index_65
  · refine a_aload_n X dX4_index_36 rfl ?_
    refine a_mgetA X hMR 12 (by decide) rfl rfl fl_X4_42 dX4_index_37 ?_
    refine a_iconst (x := 4) X dX4_index_40 (by decide) ?_
    refine a_iload_n X dX4_index_41 rfl ?_
    refine a_imul X dX4_index_42 ?_
    refine a_iload X dX4_index_43 rfl ?_
    refine a_iadd X dX4_index_45 ?_
    obtain ⟨b26, hm⟩ := i_c hm
    refine a_maldI X hMR 12 (by decide) rfl rfl rfl b26 dX4_index_46 ?_
    refine a_iload_n X dX4_index_47 rfl ?_
    refine a_icmp_ne (tgt := 56) X dX4_index_48 (by decide) hm (fun c27 hm => ?_) (fun c27 hm => ?_)
    · refine a_iload_n X dX4_index_56 rfl ?_
      refine a_istore_n (lv' := [(0, v_R (some 5)), (1, v_I x1), (2, v_I x2), (3, v_I x3), (4, v_I x4)]) X dX4_index_57 (by decide) rfl ?_
      refine a_iinc (y := x4 + (1 : Int32)) (lv' := [(0, v_R (some 5)), (1, v_I x1), (2, v_I x2), (3, v_I x3), (4, v_I (x4 + (1 : Int32)))]) X dX4_index_58 rfl rfl (by decide) rfl ?_
      refine a_goto (tgt := 25) X dX4_index_61 (by decide) ?_
      exact hr_25 x1 x2 x3 (x4 + (1 : Int32)) hm
    · refine a_iload X dX4_index_51 rfl ?_
      refine a_goto (tgt := 57) X dX4_index_53 (by decide) ?_
      refine a_istore_n (lv' := [(0, v_R (some 5)), (1, v_I x1), (2, v_I x2), (3, v_I x4), (4, v_I x4)]) X dX4_index_57 (by decide) rfl ?_
      refine a_iinc (y := x4 + (1 : Int32)) (lv' := [(0, v_R (some 5)), (1, v_I x1), (2, v_I x2), (3, v_I x4), (4, v_I (x4 + (1 : Int32)))]) X dX4_index_58 rfl rfl (by decide) rfl ?_
      refine a_goto (tgt := 25) X dX4_index_61 (by decide) ?_
      exact hr_25 x1 x2 x4 (x4 + (1 : Int32)) hm
def l_X4_index_25 (M : Msx) (n : Nat) : Int32 → Int32 → Int32 → Int32 → Option (Int32) := lp_ (fun rec_25 => j_X4_index_25 M rec_25) (fun _ _ _ _ => none) n
theorem ql_X4_index_25 {v : Evx} {g : Gvx} {h : Hpx} {r : Int32} (X : Cx_ v g cX4_index 5 RX4 "index" ((some .int)) rm_X4_index) (hMR : MR_ h) (M : Msx) (hF : Fi_ v g rm_X4_index (some (v_I r)) h M) : ∀ (n : Nat) (x1 : Int32) (x2 : Int32) (x3 : Int32) (x4 : Int32), l_X4_index_25 M n x1 x2 x3 x4 = some r → At_ v g 5 h M 0 0 25 [(0, v_R (some 5)), (1, v_I x1), (2, v_I x2), (3, v_I x3), (4, v_I x4)] [] := by
  intro n
  induction n with
  | zero => intro x1 x2 x3 x4 hm; cases hm
  | succ n ih =>
    intro x1 x2 x3 x4 hm
    exact q_X4_index_25 X hMR M hF (l_X4_index_25 M n) ih x1 x2 x3 x4 hm
def f_X4_index (M : Msx) (x1 : Int32) (x2 : Int32) : Option (Int32) :=
  (if in_b x1 16 = true then
  (if (m_I M 11 x1.toNatClampNeg) = (1 : Int32) then
  some (-1 : Int32)
  else (if (m_I M 11 x1.toNatClampNeg) = (4 : Int32) then
  some (-1 : Int32)
  else l_X4_index_25 M 70 x1 x2 (-1 : Int32) (0 : Int32))) else none)
set_option maxHeartbeats 4000000 in
theorem q_X4_index_0 {v : Evx} {g : Gvx} {h : Hpx} {r : Int32} (X : Cx_ v g cX4_index 5 RX4 "index" ((some .int)) rm_X4_index) (hMR : MR_ h) (M : Msx) (hF : Fi_ v g rm_X4_index (some (v_I r)) h M) (x1 : Int32) (x2 : Int32) (hm : f_X4_index M x1 x2 = some r) : At_ v g 5 h M 0 0 0 [(0, v_R (some 5)), (1, v_I x1), (2, v_I x2)] [] := by
  unfold f_X4_index at hm
  refine a_iconst (x := -1) X dX4_index_0 (by decide) ?_
  refine a_istore_n (lv' := [(0, v_R (some 5)), (1, v_I x1), (2, v_I x2), (3, v_I (-1 : Int32))]) X dX4_index_1 (by decide) rfl ?_
  refine a_aload_n X dX4_index_2 rfl ?_
  refine a_mgetA X hMR 11 (by decide) rfl rfl fl_X4_39 dX4_index_3 ?_
  refine a_iload_n X dX4_index_6 rfl ?_
  obtain ⟨b21, hm⟩ := i_c hm
  refine a_maldI X hMR 11 (by decide) rfl rfl rfl b21 dX4_index_7 ?_
  refine a_iconst (x := 1) X dX4_index_8 (by decide) ?_
  refine a_icmp_eq (tgt := 64) X dX4_index_9 (by decide) hm (fun c22 hm => ?_) (fun c22 hm => ?_)
  · refine a_iload_n X dX4_index_64 rfl ?_
    exact a_iret X hF ⟨rfl, rfl, Option.some.inj hm⟩ (by decide) dX4_index_65
  · refine a_aload_n X dX4_index_12 rfl ?_
    refine a_mgetA X hMR 11 (by decide) rfl rfl fl_X4_39 dX4_index_13 ?_
    refine a_iload_n X dX4_index_16 rfl ?_
    refine a_maldI X hMR 11 (by decide) rfl rfl rfl b21 dX4_index_17 ?_
    refine a_iconst (x := 4) X dX4_index_18 (by decide) ?_
    refine a_icmp_eq (tgt := 64) X dX4_index_19 (by decide) hm (fun c23 hm => ?_) (fun c23 hm => ?_)
    · refine a_iload_n X dX4_index_64 rfl ?_
      exact a_iret X hF ⟨rfl, rfl, Option.some.inj hm⟩ (by decide) dX4_index_65
    · refine a_iconst (x := 0) X dX4_index_22 (by decide) ?_
      refine a_istore (lv' := [(0, v_R (some 5)), (1, v_I x1), (2, v_I x2), (3, v_I (-1 : Int32)), (4, v_I (0 : Int32))]) X dX4_index_23 (by decide) rfl ?_
      exact ql_X4_index_25 X hMR M hF 70 x1 x2 (-1 : Int32) (0 : Int32) hm
theorem c_X4_index {l : Launch} {g : Gvx} {h : Hpx} {M : Msx} {r : Int32} {x1 : Int32} {x2 : Int32} (hMR : MR_ h) (hm : f_X4_index M x1 x2 = some r) : Mt_ l g yX4_index cX4_index 5 ((some .int)) rm_X4_index [v_R (some 5), v_I x1, v_I x2] h M (some (v_I r)) h M := mt_of (by decide) (Nat.le_of_ble_eq_true rfl) (fun v _ X hF => q_X4_index_0 X hMR M hF x1 x2 hm)
theorem yv_X4_index : Yv_ yX4_index cX4_index 5 ((some .int)) 2 4 := ⟨rfl, by decide, ⟨by decide, by decide, by decide +kernel⟩, co_X4_index, im_X4_index, se_X4_index, ini_X4⟩

abbrev rm_X4_placeIn : Room := { frames := 1, cells := 0, slots := 0, locals := 24 }
def f_X4_placeIn (M : Msx) (x1 : Int32) (x2 : Int32) : Option (Int32) :=
  (f_X4_index M x1 x2).bind fun r22 =>
  (if 0 ≤ r22 then
  (if in_b (((4 : Int32) * x1) + r22) 64 = true then
  some (m_I M 13 (((4 : Int32) * x1) + r22).toNatClampNeg) else none)
  else some (-1 : Int32))
set_option maxHeartbeats 4000000 in
theorem q_X4_placeIn_0 {v : Evx} {g : Gvx} {h : Hpx} {r : Int32} (X : Cx_ v g cX4_placeIn 4 RX4 "placeIn" ((some .int)) rm_X4_placeIn) (hMR : MR_ h) (M : Msx) (hF : Fi_ v g rm_X4_placeIn (some (v_I r)) h M) (x1 : Int32) (x2 : Int32) (hm : f_X4_placeIn M x1 x2 = some r) : At_ v g 4 h M 0 0 0 [(0, v_R (some 5)), (1, v_I x1), (2, v_I x2)] [] := by
  unfold f_X4_placeIn at hm
  refine a_aload_n X dX4_placeIn_0 rfl ?_
  refine a_iload_n X dX4_placeIn_1 rfl ?_
  refine a_iload_n X dX4_placeIn_2 rfl ?_
  obtain ⟨r22, q21, hm⟩ := i_b hm
  refine a_callV (k' := 0) (n' := 0) (st := []) X (c_X4_index hMR q21) yv_X4_index ml_X4_127 rfl (Or.inr (mr5_ hMR)) ⟨by decide, by decide, by decide, by decide, Nat.le_of_ble_eq_true rfl⟩ rfl rfl dX4_placeIn_3 rfl rfl ?_
  show At_ v g 4 h M 0 0 6 [(0, v_R (some 5)), (1, v_I x1), (2, v_I x2)] [v_I r22]
  refine a_istore_n (lv' := [(0, v_R (some 5)), (1, v_I x1), (2, v_I x2), (3, v_I r22)]) X dX4_placeIn_6 (by decide) rfl ?_
  refine a_iload_n X dX4_placeIn_7 rfl ?_
  refine a_if_ge (tgt := 15) X dX4_placeIn_8 (by decide) hm (fun c23 hm => ?_) (fun c23 hm => ?_)
  · refine a_aload_n X dX4_placeIn_15 rfl ?_
    refine a_mgetA X hMR 13 (by decide) rfl rfl fl_X4_45 dX4_placeIn_16 ?_
    refine a_iconst (x := 4) X dX4_placeIn_19 (by decide) ?_
    refine a_iload_n X dX4_placeIn_20 rfl ?_
    refine a_imul X dX4_placeIn_21 ?_
    refine a_iload_n X dX4_placeIn_22 rfl ?_
    refine a_iadd X dX4_placeIn_23 ?_
    obtain ⟨b24, hm⟩ := i_c hm
    refine a_maldI X hMR 13 (by decide) rfl rfl rfl b24 dX4_placeIn_24 ?_
    exact a_iret X hF ⟨rfl, rfl, Option.some.inj hm⟩ (by decide) dX4_placeIn_25
  · refine a_iconst (x := -1) X dX4_placeIn_11 (by decide) ?_
    refine a_goto (tgt := 25) X dX4_placeIn_12 (by decide) ?_
    exact a_iret X hF ⟨rfl, rfl, Option.some.inj hm⟩ (by decide) dX4_placeIn_25
theorem c_X4_placeIn {l : Launch} {g : Gvx} {h : Hpx} {M : Msx} {r : Int32} {x1 : Int32} {x2 : Int32} (hMR : MR_ h) (hm : f_X4_placeIn M x1 x2 = some r) : Mt_ l g yX4_placeIn cX4_placeIn 4 ((some .int)) rm_X4_placeIn [v_R (some 5), v_I x1, v_I x2] h M (some (v_I r)) h M := mt_of (by decide) (Nat.le_of_ble_eq_true rfl) (fun v _ X hF => q_X4_placeIn_0 X hMR M hF x1 x2 hm)
theorem yv_X4_placeIn : Yv_ yX4_placeIn cX4_placeIn 4 ((some .int)) 2 4 := ⟨rfl, by decide, ⟨by decide, by decide, by decide +kernel⟩, co_X4_placeIn, im_X4_placeIn, se_X4_placeIn, ini_X4⟩

abbrev rm_X4_ring : Room := { frames := 1, cells := 0, slots := 0, locals := 21 }
def j_X4_ring_51 (M : Msx) (x1 : Int32) : Option (Msx × Int32) :=
  (if (m_I M 34 0) = 0 then
  (if (m_I M 0 0) = (8 : Int32) then
  some (M, (-4 : Int32))
  else (if in_b (m_I M 0 0) 8 = true then
  b_d (n_I M 1 (m_I M 0 0).toNatClampNeg x1) fun M35 =>
  b_d (n_I M35 35 0 ((m_I M35 35 0) + ((1 : Int32) + x1))) fun M36 =>
  b_d (n_I M36 0 0 ((m_I M36 0 0) + (1 : Int32))) fun M37 =>
  some (M37, ((m_I M37 0 0) - (1 : Int32))) else none))
  else some (M, (-2 : Int32)))
set_option maxHeartbeats 4000000 in
theorem q_X4_ring_51 {v : Evx} {g : Gvx} {h : Hpx} {M' : Msx} {r : Int32} (X : Cx_ v g cX4_ring 2 RX4 "ring" ((some .int)) rm_X4_ring) (hMR : MR_ h) (hF : Fi_ v g rm_X4_ring (some (v_I r)) h M') (M : Msx) (x1 : Int32) (hm : j_X4_ring_51 M x1 = some (M', r)) : At_ v g 2 h M 0 0 51 [(0, v_R (some 5)), (1, v_I x1)] [] := by
  unfold j_X4_ring_51 at hm
  refine a_aload_n X dX4_ring_51 rfl ?_
  refine a_mgetI X hMR 34 (by decide) rfl fl_X4_135 dX4_ring_52 ?_
  refine a_if_eq (tgt := 61) X dX4_ring_55 (by decide) hm (fun c32 hm => ?_) (fun c32 hm => ?_)
  · refine a_aload_n X dX4_ring_61 rfl ?_
    refine a_mgetI X hMR 0 (by decide) rfl fl_X4_121 dX4_ring_62 ?_
    refine a_bipush (x := 8) X dX4_ring_65 (by decide) ?_
    refine a_icmp_ne (tgt := 73) X dX4_ring_67 (by decide) hm (fun c33 hm => ?_) (fun c33 hm => ?_)
    · refine a_aload_n X dX4_ring_73 rfl ?_
      refine a_mgetA X hMR 1 (by decide) rfl rfl fl_X4_7 dX4_ring_74 ?_
      refine a_aload_n X dX4_ring_77 rfl ?_
      refine a_mgetI X hMR 0 (by decide) rfl fl_X4_121 dX4_ring_78 ?_
      refine a_iload_n X dX4_ring_81 rfl ?_
      obtain ⟨b34, hm⟩ := i_c hm
      obtain ⟨M35, eM35, hm⟩ := i_d hm
      refine a_mastI X hMR 1 (by decide) rfl rfl rfl b34 dX4_ring_82 ?_
      rw [← eM35]
      refine a_aload_n X dX4_ring_83 rfl ?_
      refine a_dup X dX4_ring_84 rfl ?_
      refine a_mgetI X hMR 35 (by decide) rfl fl_X4_139 dX4_ring_85 ?_
      refine a_iconst (x := 1) X dX4_ring_88 (by decide) ?_
      refine a_iload_n X dX4_ring_89 rfl ?_
      refine a_iadd X dX4_ring_90 ?_
      refine a_iadd X dX4_ring_91 ?_
      obtain ⟨M36, eM36, hm⟩ := i_d hm
      refine a_mputI X hMR 35 (by decide) rfl rfl rfl rfl fl_X4_139 dX4_ring_92 ?_
      rw [← eM36]
      refine a_aload_n X dX4_ring_95 rfl ?_
      refine a_dup X dX4_ring_96 rfl ?_
      refine a_mgetI X hMR 0 (by decide) rfl fl_X4_121 dX4_ring_97 ?_
      refine a_iconst (x := 1) X dX4_ring_100 (by decide) ?_
      refine a_iadd X dX4_ring_101 ?_
      obtain ⟨M37, eM37, hm⟩ := i_d hm
      refine a_mputI X hMR 0 (by decide) rfl rfl rfl rfl fl_X4_121 dX4_ring_102 ?_
      rw [← eM37]
      refine a_aload_n X dX4_ring_105 rfl ?_
      refine a_mgetI X hMR 0 (by decide) rfl fl_X4_121 dX4_ring_106 ?_
      refine a_iconst (x := 1) X dX4_ring_109 (by decide) ?_
      refine a_isub X dX4_ring_110 ?_
      exact a_iret X hF ⟨rfl, (Prod.mk.inj (Option.some.inj hm)).1, (Prod.mk.inj (Option.some.inj hm)).2⟩ (by decide) dX4_ring_111
    · refine a_bipush (x := -4) X dX4_ring_70 (by decide) ?_
      exact a_iret X hF ⟨rfl, (Prod.mk.inj (Option.some.inj hm)).1, (Prod.mk.inj (Option.some.inj hm)).2⟩ (by decide) dX4_ring_72
  · refine a_bipush (x := -2) X dX4_ring_58 (by decide) ?_
    exact a_iret X hF ⟨rfl, (Prod.mk.inj (Option.some.inj hm)).1, (Prod.mk.inj (Option.some.inj hm)).2⟩ (by decide) dX4_ring_60
def f_X4_ring (M : Msx) (x1 : Int32) : Option (Msx × Int32) :=
  (if 0 ≤ x1 then
  (if x1 = (1 : Int32) then
  j_X4_ring_51 M x1
  else (if x1 = (2 : Int32) then
  j_X4_ring_51 M x1
  else (if x1 = (4 : Int32) then
  j_X4_ring_51 M x1
  else (if x1 = (8 : Int32) then
  j_X4_ring_51 M x1
  else (if x1 = (16 : Int32) then
  j_X4_ring_51 M x1
  else (if x1 = (32 : Int32) then
  j_X4_ring_51 M x1
  else (if x1 = (64 : Int32) then
  j_X4_ring_51 M x1
  else some (M, (-1 : Int32)))))))))
  else c_l (f_X4_find M (3 : Int32)) fun M30 r31 =>
  some (M30, r31))
set_option maxHeartbeats 4000000 in
theorem q_X4_ring_0 {v : Evx} {g : Gvx} {h : Hpx} {M' : Msx} {r : Int32} (X : Cx_ v g cX4_ring 2 RX4 "ring" ((some .int)) rm_X4_ring) (hMR : MR_ h) (hF : Fi_ v g rm_X4_ring (some (v_I r)) h M') (M : Msx) (x1 : Int32) (hm : f_X4_ring M x1 = some (M', r)) : At_ v g 2 h M 0 0 0 [(0, v_R (some 5)), (1, v_I x1)] [] := by
  unfold f_X4_ring at hm
  refine a_iload_n X dX4_ring_0 rfl ?_
  refine a_if_ge (tgt := 10) X dX4_ring_1 (by decide) hm (fun c21 hm => ?_) (fun c21 hm => ?_)
  · refine a_iload_n X dX4_ring_10 rfl ?_
    refine a_iconst (x := 1) X dX4_ring_11 (by decide) ?_
    refine a_icmp_eq (tgt := 51) X dX4_ring_12 (by decide) hm (fun c22 hm => ?_) (fun c22 hm => ?_)
    · exact q_X4_ring_51 X hMR hF M x1 hm
    · refine a_iload_n X dX4_ring_15 rfl ?_
      refine a_iconst (x := 2) X dX4_ring_16 (by decide) ?_
      refine a_icmp_eq (tgt := 51) X dX4_ring_17 (by decide) hm (fun c23 hm => ?_) (fun c23 hm => ?_)
      · exact q_X4_ring_51 X hMR hF M x1 hm
      · refine a_iload_n X dX4_ring_20 rfl ?_
        refine a_iconst (x := 4) X dX4_ring_21 (by decide) ?_
        refine a_icmp_eq (tgt := 51) X dX4_ring_22 (by decide) hm (fun c24 hm => ?_) (fun c24 hm => ?_)
        · exact q_X4_ring_51 X hMR hF M x1 hm
        · refine a_iload_n X dX4_ring_25 rfl ?_
          refine a_bipush (x := 8) X dX4_ring_26 (by decide) ?_
          refine a_icmp_eq (tgt := 51) X dX4_ring_28 (by decide) hm (fun c25 hm => ?_) (fun c25 hm => ?_)
          · exact q_X4_ring_51 X hMR hF M x1 hm
          · refine a_iload_n X dX4_ring_31 rfl ?_
            refine a_bipush (x := 16) X dX4_ring_32 (by decide) ?_
            refine a_icmp_eq (tgt := 51) X dX4_ring_34 (by decide) hm (fun c26 hm => ?_) (fun c26 hm => ?_)
            · exact q_X4_ring_51 X hMR hF M x1 hm
            · refine a_iload_n X dX4_ring_37 rfl ?_
              refine a_bipush (x := 32) X dX4_ring_38 (by decide) ?_
              refine a_icmp_eq (tgt := 51) X dX4_ring_40 (by decide) hm (fun c27 hm => ?_) (fun c27 hm => ?_)
              · exact q_X4_ring_51 X hMR hF M x1 hm
              · refine a_iload_n X dX4_ring_43 rfl ?_
                refine a_bipush (x := 64) X dX4_ring_44 (by decide) ?_
                refine a_icmp_eq (tgt := 51) X dX4_ring_46 (by decide) hm (fun c28 hm => ?_) (fun c28 hm => ?_)
                · exact q_X4_ring_51 X hMR hF M x1 hm
                · refine a_iconst (x := -1) X dX4_ring_49 (by decide) ?_
                  exact a_iret X hF ⟨rfl, (Prod.mk.inj (Option.some.inj hm)).1, (Prod.mk.inj (Option.some.inj hm)).2⟩ (by decide) dX4_ring_50
  · refine a_aload_n X dX4_ring_4 rfl ?_
    refine a_iconst (x := 3) X dX4_ring_5 (by decide) ?_
    obtain ⟨M30, r31, q29, hm⟩ := i_l hm
    refine a_callV (k' := 0) (n' := 0) (st := []) X (c_X4_find hMR q29) yv_X4_find ml_X4_131 rfl (Or.inr (mr5_ hMR)) ⟨by decide, by decide, by decide, by decide, Nat.le_of_ble_eq_true rfl⟩ rfl rfl dX4_ring_6 rfl rfl ?_
    show At_ v g 2 h M30 0 0 9 [(0, v_R (some 5)), (1, v_I x1)] [v_I r31]
    exact a_iret X hF ⟨rfl, (Prod.mk.inj (Option.some.inj hm)).1, (Prod.mk.inj (Option.some.inj hm)).2⟩ (by decide) dX4_ring_9
theorem c_X4_ring {l : Launch} {g : Gvx} {h : Hpx} {M : Msx} {M' : Msx} {r : Int32} {x1 : Int32} (hMR : MR_ h) (hm : f_X4_ring M x1 = some (M', r)) : Mt_ l g yX4_ring cX4_ring 2 ((some .int)) rm_X4_ring [v_R (some 5), v_I x1] h M (some (v_I r)) h M' := mt_of (by decide) (Nat.le_of_ble_eq_true rfl) (fun v _ X hF => q_X4_ring_0 X hMR hF M x1 hm)
theorem yv_X4_ring : Yv_ yX4_ring cX4_ring 2 ((some .int)) 1 4 := ⟨rfl, by decide, ⟨by decide, by decide, by decide +kernel⟩, co_X4_ring, im_X4_ring, se_X4_ring, ini_X4⟩

abbrev rm_X4_isNumbered : Room := { frames := 1, cells := 0, slots := 0, locals := 21 }
def j_X4_isNumbered_32 (M : Msx) (x2 : Int32) (x3 : Int32) : Option (Int32) :=
  (f_X4_isRing M x3).bind fun r33 =>
  (if r33 = 0 then
  some (0 : Int32)
  else (if x3 = x2 then
  some (0 : Int32)
  else some (1 : Int32)))
set_option maxHeartbeats 4000000 in
theorem q_X4_isNumbered_32 {v : Evx} {g : Gvx} {h : Hpx} {r : Int32} (X : Cx_ v g cX4_isNumbered 4 RX4 "isNumbered" ((some .boolean)) rm_X4_isNumbered) (hMR : MR_ h) (M : Msx) (hF : Fi_ v g rm_X4_isNumbered (some (v_I r)) h M) (x2 : Int32) (x3 : Int32) (hm : j_X4_isNumbered_32 M x2 x3 = some r) : At_ v g 4 h M 0 0 32 [(0, v_R (some 5)), (2, v_I x2), (3, v_I x3)] [] := by
  unfold j_X4_isNumbered_32 at hm
  refine a_aload_n X dX4_isNumbered_32 rfl ?_
  refine a_iload_n X dX4_isNumbered_33 rfl ?_
  obtain ⟨r33, q32, hm⟩ := i_b hm
  refine a_callV (k' := 0) (n' := 0) (st := []) X (c_X4_isRing hMR q32) yv_X4_isRing ml_X4_142 rfl (Or.inr (mr5_ hMR)) ⟨by decide, by decide, by decide, by decide, Nat.le_of_ble_eq_true rfl⟩ rfl rfl dX4_isNumbered_34 rfl rfl ?_
  show At_ v g 4 h M 0 0 37 [(0, v_R (some 5)), (2, v_I x2), (3, v_I x3)] [v_I r33]
  refine a_if_eq (tgt := 49) X dX4_isNumbered_37 (by decide) hm (fun c34 hm => ?_) (fun c34 hm => ?_)
  · refine a_iconst (x := 0) X dX4_isNumbered_49 (by decide) ?_
    exact a_zret X hF (Or.inl rfl) ⟨rfl, rfl, Option.some.inj hm⟩ (by decide) dX4_isNumbered_50
  · refine a_iload_n X dX4_isNumbered_40 rfl ?_
    refine a_iload_n X dX4_isNumbered_41 rfl ?_
    refine a_icmp_eq (tgt := 49) X dX4_isNumbered_42 (by decide) hm (fun c35 hm => ?_) (fun c35 hm => ?_)
    · refine a_iconst (x := 0) X dX4_isNumbered_49 (by decide) ?_
      exact a_zret X hF (Or.inl rfl) ⟨rfl, rfl, Option.some.inj hm⟩ (by decide) dX4_isNumbered_50
    · refine a_iconst (x := 1) X dX4_isNumbered_45 (by decide) ?_
      refine a_goto (tgt := 50) X dX4_isNumbered_46 (by decide) ?_
      exact a_zret X hF (Or.inr rfl) ⟨rfl, rfl, Option.some.inj hm⟩ (by decide) dX4_isNumbered_50
def j_X4_isNumbered_65 (M : Msx) : Option (Int32) :=
  some (1 : Int32)
set_option maxHeartbeats 4000000 in
theorem q_X4_isNumbered_65 {v : Evx} {g : Gvx} {h : Hpx} {r : Int32} (X : Cx_ v g cX4_isNumbered 4 RX4 "isNumbered" ((some .boolean)) rm_X4_isNumbered) (hMR : MR_ h) (M : Msx) (hF : Fi_ v g rm_X4_isNumbered (some (v_I r)) h M) (hm : j_X4_isNumbered_65 M  = some r) : At_ v g 4 h M 0 0 65 [(0, v_R (some 5))] [] := by
  unfold j_X4_isNumbered_65 at hm
  refine a_iconst (x := 1) X dX4_isNumbered_65 (by decide) ?_
  refine a_goto (tgt := 70) X dX4_isNumbered_66 (by decide) ?_
  exact a_zret X hF (Or.inr rfl) ⟨rfl, rfl, Option.some.inj hm⟩ (by decide) dX4_isNumbered_70
def f_X4_isNumbered (M : Msx) (x1 : Int32) (x2 : Int32) (x3 : Int32) : Option (Int32) :=
  (if x1 < (1 : Int32) then
  some (0 : Int32)
  else (if (7 : Int32) < x1 then
  some (0 : Int32)
  else (f_X4_isRing M x2).bind fun r24 =>
  (if r24 = 0 then
  some (0 : Int32)
  else (if x1 = (5 : Int32) then
  j_X4_isNumbered_32 M x2 x3
  else (if x1 = (7 : Int32) then
  j_X4_isNumbered_32 M x2 x3
  else (if x1 = (6 : Int32) then
  (f_X4_isReader M x3).bind fun r30 =>
  (if r30 = 0 then
  some (0 : Int32)
  else j_X4_isNumbered_65 M )
  else j_X4_isNumbered_65 M ))))))
set_option maxHeartbeats 4000000 in
theorem q_X4_isNumbered_0 {v : Evx} {g : Gvx} {h : Hpx} {r : Int32} (X : Cx_ v g cX4_isNumbered 4 RX4 "isNumbered" ((some .boolean)) rm_X4_isNumbered) (hMR : MR_ h) (M : Msx) (hF : Fi_ v g rm_X4_isNumbered (some (v_I r)) h M) (x1 : Int32) (x2 : Int32) (x3 : Int32) (hm : f_X4_isNumbered M x1 x2 x3 = some r) : At_ v g 4 h M 0 0 0 [(0, v_R (some 5)), (1, v_I x1), (2, v_I x2), (3, v_I x3)] [] := by
  unfold f_X4_isNumbered at hm
  refine a_iload_n X dX4_isNumbered_0 rfl ?_
  refine a_iconst (x := 1) X dX4_isNumbered_1 (by decide) ?_
  refine a_icmp_lt (tgt := 19) X dX4_isNumbered_2 (by decide) hm (fun c21 hm => ?_) (fun c21 hm => ?_)
  · refine a_iconst (x := 0) X dX4_isNumbered_19 (by decide) ?_
    exact a_zret X hF (Or.inl rfl) ⟨rfl, rfl, Option.some.inj hm⟩ (by decide) dX4_isNumbered_20
  · refine a_iload_n X dX4_isNumbered_5 rfl ?_
    refine a_bipush (x := 7) X dX4_isNumbered_6 (by decide) ?_
    refine a_icmp_gt (tgt := 19) X dX4_isNumbered_8 (by decide) hm (fun c22 hm => ?_) (fun c22 hm => ?_)
    · refine a_iconst (x := 0) X dX4_isNumbered_19 (by decide) ?_
      exact a_zret X hF (Or.inl rfl) ⟨rfl, rfl, Option.some.inj hm⟩ (by decide) dX4_isNumbered_20
    · refine a_aload_n X dX4_isNumbered_11 rfl ?_
      refine a_iload_n X dX4_isNumbered_12 rfl ?_
      obtain ⟨r24, q23, hm⟩ := i_b hm
      refine a_callV (k' := 0) (n' := 0) (st := []) X (c_X4_isRing hMR q23) yv_X4_isRing ml_X4_142 rfl (Or.inr (mr5_ hMR)) ⟨by decide, by decide, by decide, by decide, Nat.le_of_ble_eq_true rfl⟩ rfl rfl dX4_isNumbered_13 rfl rfl ?_
      show At_ v g 4 h M 0 0 16 [(0, v_R (some 5)), (1, v_I x1), (2, v_I x2), (3, v_I x3)] [v_I r24]
      refine a_if_ne (tgt := 21) X dX4_isNumbered_16 (by decide) hm (fun c25 hm => ?_) (fun c25 hm => ?_)
      · refine a_iload_n X dX4_isNumbered_21 rfl ?_
        refine a_iconst (x := 5) X dX4_isNumbered_22 (by decide) ?_
        refine a_icmp_eq (tgt := 32) X dX4_isNumbered_23 (by decide) hm (fun c26 hm => ?_) (fun c26 hm => ?_)
        · refine a_pick (lv' := [(0, v_R (some 5)), (2, v_I x2), (3, v_I x3)]) [0, 2, 3] rfl ?_
          exact q_X4_isNumbered_32 X hMR M hF x2 x3 hm
        · refine a_iload_n X dX4_isNumbered_26 rfl ?_
          refine a_bipush (x := 7) X dX4_isNumbered_27 (by decide) ?_
          refine a_icmp_ne (tgt := 51) X dX4_isNumbered_29 (by decide) hm (fun c27 hm => ?_) (fun c27 hm => ?_)
          · refine a_iload_n X dX4_isNumbered_51 rfl ?_
            refine a_bipush (x := 6) X dX4_isNumbered_52 (by decide) ?_
            refine a_icmp_ne (tgt := 65) X dX4_isNumbered_54 (by decide) hm (fun c28 hm => ?_) (fun c28 hm => ?_)
            · refine a_pick (lv' := [(0, v_R (some 5))]) [0] rfl ?_
              exact q_X4_isNumbered_65 X hMR M hF  hm
            · refine a_aload_n X dX4_isNumbered_57 rfl ?_
              refine a_iload_n X dX4_isNumbered_58 rfl ?_
              obtain ⟨r30, q29, hm⟩ := i_b hm
              refine a_callV (k' := 0) (n' := 0) (st := []) X (c_X4_isReader hMR q29) yv_X4_isReader ml_X4_146 rfl (Or.inr (mr5_ hMR)) ⟨by decide, by decide, by decide, by decide, Nat.le_of_ble_eq_true rfl⟩ rfl rfl dX4_isNumbered_59 rfl rfl ?_
              show At_ v g 4 h M 0 0 62 [(0, v_R (some 5)), (1, v_I x1), (2, v_I x2), (3, v_I x3)] [v_I r30]
              refine a_if_eq (tgt := 69) X dX4_isNumbered_62 (by decide) hm (fun c31 hm => ?_) (fun c31 hm => ?_)
              · refine a_iconst (x := 0) X dX4_isNumbered_69 (by decide) ?_
                exact a_zret X hF (Or.inl rfl) ⟨rfl, rfl, Option.some.inj hm⟩ (by decide) dX4_isNumbered_70
              · refine a_pick (lv' := [(0, v_R (some 5))]) [0] rfl ?_
                exact q_X4_isNumbered_65 X hMR M hF  hm
          · refine a_pick (lv' := [(0, v_R (some 5)), (2, v_I x2), (3, v_I x3)]) [0, 2, 3] rfl ?_
            exact q_X4_isNumbered_32 X hMR M hF x2 x3 hm
      · refine a_iconst (x := 0) X dX4_isNumbered_19 (by decide) ?_
        exact a_zret X hF (Or.inl rfl) ⟨rfl, rfl, Option.some.inj hm⟩ (by decide) dX4_isNumbered_20
theorem c_X4_isNumbered {l : Launch} {g : Gvx} {h : Hpx} {M : Msx} {r : Int32} {x1 : Int32} {x2 : Int32} {x3 : Int32} (hMR : MR_ h) (hm : f_X4_isNumbered M x1 x2 x3 = some r) : Mt_ l g yX4_isNumbered cX4_isNumbered 4 ((some .boolean)) rm_X4_isNumbered [v_R (some 5), v_I x1, v_I x2, v_I x3] h M (some (v_I r)) h M := mt_of (by decide) (Nat.le_of_ble_eq_true rfl) (fun v _ X hF => q_X4_isNumbered_0 X hMR M hF x1 x2 x3 hm)
theorem yv_X4_isNumbered : Yv_ yX4_isNumbered cX4_isNumbered 4 ((some .boolean)) 3 4 := ⟨rfl, by decide, ⟨by decide, by decide, by decide +kernel⟩, co_X4_isNumbered, im_X4_isNumbered, se_X4_isNumbered, ini_X4⟩

abbrev rm_X4_reader : Room := { frames := 2, cells := 0, slots := 0, locals := 44 }
def j_X4_reader_143 (M : Msx) (x1 : Int32) (x3 : Int32) (x4 : Int32) : Option (Msx × Int32) :=
  (if in_b x4 16 = true then
  b_d (n_I M 17 x4.toNatClampNeg x3) fun M47 =>
  (if in_b x4 16 = true then
  b_d (n_I M47 19 x4.toNatClampNeg (-1 : Int32)) fun M49 =>
  (if in_b x4 16 = true then
  b_d (n_I M49 20 x4.toNatClampNeg (-1 : Int32)) fun M51 =>
  (if x1 = (4 : Int32) then
  b_d (n_I M51 35 0 ((m_I M51 35 0) + (33 : Int32))) fun M54 =>
  some (M54, x4)
  else b_d (n_I M51 35 0 ((m_I M51 35 0) + (1 : Int32))) fun M53 =>
  some (M53, x4)) else none) else none) else none)
set_option maxHeartbeats 4000000 in
theorem q_X4_reader_143 {v : Evx} {g : Gvx} {h : Hpx} {M' : Msx} {r : Int32} (X : Cx_ v g cX4_reader 5 RX4 "reader" ((some .int)) rm_X4_reader) (hMR : MR_ h) (hF : Fi_ v g rm_X4_reader (some (v_I r)) h M') (M : Msx) (x1 : Int32) (x3 : Int32) (x4 : Int32) (hm : j_X4_reader_143 M x1 x3 x4 = some (M', r)) : At_ v g 5 h M 0 0 143 [(0, v_R (some 5)), (1, v_I x1), (3, v_I x3), (4, v_I x4)] [] := by
  unfold j_X4_reader_143 at hm
  refine a_aload_n X dX4_reader_143 rfl ?_
  refine a_mgetA X hMR 17 (by decide) rfl rfl fl_X4_57 dX4_reader_144 ?_
  refine a_iload X dX4_reader_147 rfl ?_
  refine a_iload_n X dX4_reader_149 rfl ?_
  obtain ⟨b46, hm⟩ := i_c hm
  obtain ⟨M47, eM47, hm⟩ := i_d hm
  refine a_mastI X hMR 17 (by decide) rfl rfl rfl b46 dX4_reader_150 ?_
  rw [← eM47]
  refine a_aload_n X dX4_reader_151 rfl ?_
  refine a_mgetA X hMR 19 (by decide) rfl rfl fl_X4_63 dX4_reader_152 ?_
  refine a_iload X dX4_reader_155 rfl ?_
  refine a_iconst (x := -1) X dX4_reader_157 (by decide) ?_
  obtain ⟨b48, hm⟩ := i_c hm
  obtain ⟨M49, eM49, hm⟩ := i_d hm
  refine a_mastI X hMR 19 (by decide) rfl rfl rfl b48 dX4_reader_158 ?_
  rw [← eM49]
  refine a_aload_n X dX4_reader_159 rfl ?_
  refine a_mgetA X hMR 20 (by decide) rfl rfl fl_X4_66 dX4_reader_160 ?_
  refine a_iload X dX4_reader_163 rfl ?_
  refine a_iconst (x := -1) X dX4_reader_165 (by decide) ?_
  obtain ⟨b50, hm⟩ := i_c hm
  obtain ⟨M51, eM51, hm⟩ := i_d hm
  refine a_mastI X hMR 20 (by decide) rfl rfl rfl b50 dX4_reader_166 ?_
  rw [← eM51]
  refine a_aload_n X dX4_reader_167 rfl ?_
  refine a_dup X dX4_reader_168 rfl ?_
  refine a_mgetI X hMR 35 (by decide) rfl fl_X4_139 dX4_reader_169 ?_
  refine a_iload_n X dX4_reader_172 rfl ?_
  refine a_iconst (x := 4) X dX4_reader_173 (by decide) ?_
  refine a_icmp_ne (tgt := 182) X dX4_reader_174 (by decide) hm (fun c52 hm => ?_) (fun c52 hm => ?_)
  · refine a_iconst (x := 1) X dX4_reader_182 (by decide) ?_
    refine a_iadd X dX4_reader_183 ?_
    obtain ⟨M53, eM53, hm⟩ := i_d hm
    refine a_mputI X hMR 35 (by decide) rfl rfl rfl rfl fl_X4_139 dX4_reader_184 ?_
    rw [← eM53]
    refine a_iload X dX4_reader_187 rfl ?_
    exact a_iret X hF ⟨rfl, (Prod.mk.inj (Option.some.inj hm)).1, (Prod.mk.inj (Option.some.inj hm)).2⟩ (by decide) dX4_reader_189
  · refine a_bipush (x := 33) X dX4_reader_177 (by decide) ?_
    refine a_goto (tgt := 183) X dX4_reader_179 (by decide) ?_
    refine a_iadd X dX4_reader_183 ?_
    obtain ⟨M54, eM54, hm⟩ := i_d hm
    refine a_mputI X hMR 35 (by decide) rfl rfl rfl rfl fl_X4_139 dX4_reader_184 ?_
    rw [← eM54]
    refine a_iload X dX4_reader_187 rfl ?_
    exact a_iret X hF ⟨rfl, (Prod.mk.inj (Option.some.inj hm)).1, (Prod.mk.inj (Option.some.inj hm)).2⟩ (by decide) dX4_reader_189
def j_X4_reader_119 (M : Msx) (x1 : Int32) (x3 : Int32) (x4 : Int32) : Option (Msx × Int32) :=
  (if x1 = (6 : Int32) then
  (if in_b ((4 : Int32) * x4) 64 = true then
  b_d (n_I M 15 ((4 : Int32) * x4).toNatClampNeg x3) fun M43 =>
  (if in_b x4 16 = true then
  b_d (n_I M43 16 x4.toNatClampNeg (1 : Int32)) fun M45 =>
  j_X4_reader_143 M45 x1 x3 x4 else none) else none)
  else j_X4_reader_143 M x1 x3 x4)
set_option maxHeartbeats 4000000 in
theorem q_X4_reader_119 {v : Evx} {g : Gvx} {h : Hpx} {M' : Msx} {r : Int32} (X : Cx_ v g cX4_reader 5 RX4 "reader" ((some .int)) rm_X4_reader) (hMR : MR_ h) (hF : Fi_ v g rm_X4_reader (some (v_I r)) h M') (M : Msx) (x1 : Int32) (x3 : Int32) (x4 : Int32) (hm : j_X4_reader_119 M x1 x3 x4 = some (M', r)) : At_ v g 5 h M 0 0 119 [(0, v_R (some 5)), (1, v_I x1), (3, v_I x3), (4, v_I x4)] [] := by
  unfold j_X4_reader_119 at hm
  refine a_iload_n X dX4_reader_119 rfl ?_
  refine a_bipush (x := 6) X dX4_reader_120 (by decide) ?_
  refine a_icmp_ne (tgt := 143) X dX4_reader_122 (by decide) hm (fun c41 hm => ?_) (fun c41 hm => ?_)
  · exact q_X4_reader_143 X hMR hF M x1 x3 x4 hm
  · refine a_aload_n X dX4_reader_125 rfl ?_
    refine a_mgetA X hMR 15 (by decide) rfl rfl fl_X4_51 dX4_reader_126 ?_
    refine a_iconst (x := 4) X dX4_reader_129 (by decide) ?_
    refine a_iload X dX4_reader_130 rfl ?_
    refine a_imul X dX4_reader_132 ?_
    refine a_iload_n X dX4_reader_133 rfl ?_
    obtain ⟨b42, hm⟩ := i_c hm
    obtain ⟨M43, eM43, hm⟩ := i_d hm
    refine a_mastI X hMR 15 (by decide) rfl rfl rfl b42 dX4_reader_134 ?_
    rw [← eM43]
    refine a_aload_n X dX4_reader_135 rfl ?_
    refine a_mgetA X hMR 16 (by decide) rfl rfl fl_X4_54 dX4_reader_136 ?_
    refine a_iload X dX4_reader_139 rfl ?_
    refine a_iconst (x := 1) X dX4_reader_141 (by decide) ?_
    obtain ⟨b44, hm⟩ := i_c hm
    obtain ⟨M45, eM45, hm⟩ := i_d hm
    refine a_mastI X hMR 16 (by decide) rfl rfl rfl b44 dX4_reader_142 ?_
    rw [← eM45]
    exact q_X4_reader_143 X hMR hF M45 x1 x3 x4 hm
def j_X4_reader_40 (M : Msx) (x1 : Int32) (x2 : Int32) (x3 : Int32) : Option (Msx × Int32) :=
  (if (m_I M 10 0) = (16 : Int32) then
  some (M, (-4 : Int32))
  else b_d (n_I M 10 0 ((m_I M 10 0) + (1 : Int32))) fun M30 =>
  (if in_b (m_I M 10 0) 16 = true then
  b_d (n_I M30 11 (m_I M 10 0).toNatClampNeg x1) fun M32 =>
  (if in_b ((4 : Int32) * (m_I M 10 0)) 64 = true then
  b_d (n_I M32 12 ((4 : Int32) * (m_I M 10 0)).toNatClampNeg x2) fun M34 =>
  (if in_b (m_I M 10 0) 16 = true then
  b_d (n_I M34 14 (m_I M 10 0).toNatClampNeg (1 : Int32)) fun M36 =>
  (if x1 = (5 : Int32) then
  (if in_b (((4 : Int32) * (m_I M 10 0)) + (1 : Int32)) 64 = true then
  b_d (n_I M36 12 (((4 : Int32) * (m_I M 10 0)) + (1 : Int32)).toNatClampNeg x3) fun M39 =>
  b_d (n_I M39 14 (m_I M 10 0).toNatClampNeg (2 : Int32)) fun M40 =>
  j_X4_reader_119 M40 x1 x3 (m_I M 10 0) else none)
  else j_X4_reader_119 M36 x1 x3 (m_I M 10 0)) else none) else none) else none))
set_option maxHeartbeats 4000000 in
theorem q_X4_reader_40 {v : Evx} {g : Gvx} {h : Hpx} {M' : Msx} {r : Int32} (X : Cx_ v g cX4_reader 5 RX4 "reader" ((some .int)) rm_X4_reader) (hMR : MR_ h) (hF : Fi_ v g rm_X4_reader (some (v_I r)) h M') (M : Msx) (x1 : Int32) (x2 : Int32) (x3 : Int32) (hm : j_X4_reader_40 M x1 x2 x3 = some (M', r)) : At_ v g 5 h M 0 0 40 [(0, v_R (some 5)), (1, v_I x1), (2, v_I x2), (3, v_I x3)] [] := by
  unfold j_X4_reader_40 at hm
  refine a_aload_n X dX4_reader_40 rfl ?_
  refine a_mgetI X hMR 10 (by decide) rfl fl_X4_124 dX4_reader_41 ?_
  refine a_bipush (x := 16) X dX4_reader_44 (by decide) ?_
  refine a_icmp_ne (tgt := 52) X dX4_reader_46 (by decide) hm (fun c29 hm => ?_) (fun c29 hm => ?_)
  · refine a_aload_n X dX4_reader_52 rfl ?_
    refine a_mgetI X hMR 10 (by decide) rfl fl_X4_124 dX4_reader_53 ?_
    refine a_istore (lv' := [(0, v_R (some 5)), (1, v_I x1), (2, v_I x2), (3, v_I x3), (4, v_I (m_I M 10 0))]) X dX4_reader_56 (by decide) rfl ?_
    refine a_aload_n X dX4_reader_58 rfl ?_
    refine a_dup X dX4_reader_59 rfl ?_
    refine a_mgetI X hMR 10 (by decide) rfl fl_X4_124 dX4_reader_60 ?_
    refine a_iconst (x := 1) X dX4_reader_63 (by decide) ?_
    refine a_iadd X dX4_reader_64 ?_
    obtain ⟨M30, eM30, hm⟩ := i_d hm
    refine a_mputI X hMR 10 (by decide) rfl rfl rfl rfl fl_X4_124 dX4_reader_65 ?_
    rw [← eM30]
    refine a_aload_n X dX4_reader_68 rfl ?_
    refine a_mgetA X hMR 11 (by decide) rfl rfl fl_X4_39 dX4_reader_69 ?_
    refine a_iload X dX4_reader_72 rfl ?_
    refine a_iload_n X dX4_reader_74 rfl ?_
    obtain ⟨b31, hm⟩ := i_c hm
    obtain ⟨M32, eM32, hm⟩ := i_d hm
    refine a_mastI X hMR 11 (by decide) rfl rfl rfl b31 dX4_reader_75 ?_
    rw [← eM32]
    refine a_aload_n X dX4_reader_76 rfl ?_
    refine a_mgetA X hMR 12 (by decide) rfl rfl fl_X4_42 dX4_reader_77 ?_
    refine a_iconst (x := 4) X dX4_reader_80 (by decide) ?_
    refine a_iload X dX4_reader_81 rfl ?_
    refine a_imul X dX4_reader_83 ?_
    refine a_iload_n X dX4_reader_84 rfl ?_
    obtain ⟨b33, hm⟩ := i_c hm
    obtain ⟨M34, eM34, hm⟩ := i_d hm
    refine a_mastI X hMR 12 (by decide) rfl rfl rfl b33 dX4_reader_85 ?_
    rw [← eM34]
    refine a_aload_n X dX4_reader_86 rfl ?_
    refine a_mgetA X hMR 14 (by decide) rfl rfl fl_X4_48 dX4_reader_87 ?_
    refine a_iload X dX4_reader_90 rfl ?_
    refine a_iconst (x := 1) X dX4_reader_92 (by decide) ?_
    obtain ⟨b35, hm⟩ := i_c hm
    obtain ⟨M36, eM36, hm⟩ := i_d hm
    refine a_mastI X hMR 14 (by decide) rfl rfl rfl b35 dX4_reader_93 ?_
    rw [← eM36]
    refine a_iload_n X dX4_reader_94 rfl ?_
    refine a_iconst (x := 5) X dX4_reader_95 (by decide) ?_
    refine a_icmp_ne (tgt := 119) X dX4_reader_96 (by decide) hm (fun c37 hm => ?_) (fun c37 hm => ?_)
    · refine a_pick (lv' := [(0, v_R (some 5)), (1, v_I x1), (3, v_I x3), (4, v_I (m_I M 10 0))]) [0, 1, 3, 4] rfl ?_
      exact q_X4_reader_119 X hMR hF M36 x1 x3 (m_I M 10 0) hm
    · refine a_aload_n X dX4_reader_99 rfl ?_
      refine a_mgetA X hMR 12 (by decide) rfl rfl fl_X4_42 dX4_reader_100 ?_
      refine a_iconst (x := 4) X dX4_reader_103 (by decide) ?_
      refine a_iload X dX4_reader_104 rfl ?_
      refine a_imul X dX4_reader_106 ?_
      refine a_iconst (x := 1) X dX4_reader_107 (by decide) ?_
      refine a_iadd X dX4_reader_108 ?_
      refine a_iload_n X dX4_reader_109 rfl ?_
      obtain ⟨b38, hm⟩ := i_c hm
      obtain ⟨M39, eM39, hm⟩ := i_d hm
      refine a_mastI X hMR 12 (by decide) rfl rfl rfl b38 dX4_reader_110 ?_
      rw [← eM39]
      refine a_aload_n X dX4_reader_111 rfl ?_
      refine a_mgetA X hMR 14 (by decide) rfl rfl fl_X4_48 dX4_reader_112 ?_
      refine a_iload X dX4_reader_115 rfl ?_
      refine a_iconst (x := 2) X dX4_reader_117 (by decide) ?_
      obtain ⟨M40, eM40, hm⟩ := i_d hm
      refine a_mastI X hMR 14 (by decide) rfl rfl rfl b35 dX4_reader_118 ?_
      rw [← eM40]
      refine a_pick (lv' := [(0, v_R (some 5)), (1, v_I x1), (3, v_I x3), (4, v_I (m_I M 10 0))]) [0, 1, 3, 4] rfl ?_
      exact q_X4_reader_119 X hMR hF M40 x1 x3 (m_I M 10 0) hm
  · refine a_bipush (x := -4) X dX4_reader_49 (by decide) ?_
    exact a_iret X hF ⟨rfl, (Prod.mk.inj (Option.some.inj hm)).1, (Prod.mk.inj (Option.some.inj hm)).2⟩ (by decide) dX4_reader_51
def f_X4_reader (M : Msx) (x1 : Int32) (x2 : Int32) (x3 : Int32) : Option (Msx × Int32) :=
  (f_X4_isNumbered M x1 x2 x3).bind fun r22 =>
  (if r22 = 0 then
  some (M, (-1 : Int32))
  else (if (m_I M 34 0) = 0 then
  (if x1 = (6 : Int32) then
  (f_X4_index M x3 x2).bind fun r27 =>
  (if 0 ≤ r27 then
  j_X4_reader_40 M x1 x2 x3
  else some (M, (-3 : Int32)))
  else j_X4_reader_40 M x1 x2 x3)
  else some (M, (-2 : Int32))))
set_option maxHeartbeats 4000000 in
theorem q_X4_reader_0 {v : Evx} {g : Gvx} {h : Hpx} {M' : Msx} {r : Int32} (X : Cx_ v g cX4_reader 5 RX4 "reader" ((some .int)) rm_X4_reader) (hMR : MR_ h) (hF : Fi_ v g rm_X4_reader (some (v_I r)) h M') (M : Msx) (x1 : Int32) (x2 : Int32) (x3 : Int32) (hm : f_X4_reader M x1 x2 x3 = some (M', r)) : At_ v g 5 h M 0 0 0 [(0, v_R (some 5)), (1, v_I x1), (2, v_I x2), (3, v_I x3)] [] := by
  unfold f_X4_reader at hm
  refine a_aload_n X dX4_reader_0 rfl ?_
  refine a_iload_n X dX4_reader_1 rfl ?_
  refine a_iload_n X dX4_reader_2 rfl ?_
  refine a_iload_n X dX4_reader_3 rfl ?_
  obtain ⟨r22, q21, hm⟩ := i_b hm
  refine a_callV (k' := 0) (n' := 0) (st := []) X (c_X4_isNumbered hMR q21) yv_X4_isNumbered ml_X4_149 rfl (Or.inr (mr5_ hMR)) ⟨by decide, by decide, by decide, by decide, Nat.le_of_ble_eq_true rfl⟩ rfl rfl dX4_reader_4 rfl rfl ?_
  show At_ v g 5 h M 0 0 7 [(0, v_R (some 5)), (1, v_I x1), (2, v_I x2), (3, v_I x3)] [v_I r22]
  refine a_if_ne (tgt := 12) X dX4_reader_7 (by decide) hm (fun c23 hm => ?_) (fun c23 hm => ?_)
  · refine a_aload_n X dX4_reader_12 rfl ?_
    refine a_mgetI X hMR 34 (by decide) rfl fl_X4_135 dX4_reader_13 ?_
    refine a_if_eq (tgt := 22) X dX4_reader_16 (by decide) hm (fun c24 hm => ?_) (fun c24 hm => ?_)
    · refine a_iload_n X dX4_reader_22 rfl ?_
      refine a_bipush (x := 6) X dX4_reader_23 (by decide) ?_
      refine a_icmp_ne (tgt := 40) X dX4_reader_25 (by decide) hm (fun c25 hm => ?_) (fun c25 hm => ?_)
      · exact q_X4_reader_40 X hMR hF M x1 x2 x3 hm
      · refine a_aload_n X dX4_reader_28 rfl ?_
        refine a_iload_n X dX4_reader_29 rfl ?_
        refine a_iload_n X dX4_reader_30 rfl ?_
        obtain ⟨r27, q26, hm⟩ := i_b hm
        refine a_callV (k' := 0) (n' := 0) (st := []) X (c_X4_index hMR q26) yv_X4_index ml_X4_127 rfl (Or.inr (mr5_ hMR)) ⟨by decide, by decide, by decide, by decide, Nat.le_of_ble_eq_true rfl⟩ rfl rfl dX4_reader_31 rfl rfl ?_
        show At_ v g 5 h M 0 0 34 [(0, v_R (some 5)), (1, v_I x1), (2, v_I x2), (3, v_I x3)] [v_I r27]
        refine a_if_ge (tgt := 40) X dX4_reader_34 (by decide) hm (fun c28 hm => ?_) (fun c28 hm => ?_)
        · exact q_X4_reader_40 X hMR hF M x1 x2 x3 hm
        · refine a_bipush (x := -3) X dX4_reader_37 (by decide) ?_
          exact a_iret X hF ⟨rfl, (Prod.mk.inj (Option.some.inj hm)).1, (Prod.mk.inj (Option.some.inj hm)).2⟩ (by decide) dX4_reader_39
    · refine a_bipush (x := -2) X dX4_reader_19 (by decide) ?_
      exact a_iret X hF ⟨rfl, (Prod.mk.inj (Option.some.inj hm)).1, (Prod.mk.inj (Option.some.inj hm)).2⟩ (by decide) dX4_reader_21
  · refine a_iconst (x := -1) X dX4_reader_10 (by decide) ?_
    exact a_iret X hF ⟨rfl, (Prod.mk.inj (Option.some.inj hm)).1, (Prod.mk.inj (Option.some.inj hm)).2⟩ (by decide) dX4_reader_11
theorem c_X4_reader {l : Launch} {g : Gvx} {h : Hpx} {M : Msx} {M' : Msx} {r : Int32} {x1 : Int32} {x2 : Int32} {x3 : Int32} (hMR : MR_ h) (hm : f_X4_reader M x1 x2 x3 = some (M', r)) : Mt_ l g yX4_reader cX4_reader 5 ((some .int)) rm_X4_reader [v_R (some 5), v_I x1, v_I x2, v_I x3] h M (some (v_I r)) h M' := mt_of (by decide) (Nat.le_of_ble_eq_true rfl) (fun v _ X hF => q_X4_reader_0 X hMR hF M x1 x2 x3 hm)
theorem yv_X4_reader : Yv_ yX4_reader cX4_reader 5 ((some .int)) 3 4 := ⟨rfl, by decide, ⟨by decide, by decide, by decide +kernel⟩, co_X4_reader, im_X4_reader, se_X4_reader, ini_X4⟩

abbrev rm_X4_join : Room := { frames := 1, cells := 0, slots := 0, locals := 24 }
def f_X4_join (M : Msx) (x1 : Int32) (x2 : Int32) : Option (Msx × Int32) :=
  (f_X4_isReader M x1).bind fun r22 =>
  (if r22 = 0 then
  some (M, (-1 : Int32))
  else (f_X4_isRing M x2).bind fun r25 =>
  (if r25 = 0 then
  some (M, (-1 : Int32))
  else (if (m_I M 34 0) = 0 then
  (if in_b x1 16 = true then
  (if (m_I M 11 x1.toNatClampNeg) = (5 : Int32) then
  (f_X4_index M x1 x2).bind fun r31 =>
  (if r31 < 0 then
  (if in_b x1 16 = true then
  (if (m_I M 14 x1.toNatClampNeg) = (4 : Int32) then
  some (M, (-4 : Int32))
  else (if in_b (((4 : Int32) * x1) + (m_I M 14 x1.toNatClampNeg)) 64 = true then
  b_d (n_I M 12 (((4 : Int32) * x1) + (m_I M 14 x1.toNatClampNeg)).toNatClampNeg x2) fun M36 =>
  b_d (n_I M36 14 x1.toNatClampNeg ((m_I M36 14 x1.toNatClampNeg) + (1 : Int32))) fun M37 =>
  some (M37, (1 : Int32)) else none)) else none)
  else some (M, (-5 : Int32)))
  else some (M, (-3 : Int32))) else none)
  else some (M, (-2 : Int32)))))
set_option maxHeartbeats 4000000 in
theorem q_X4_join_0 {v : Evx} {g : Gvx} {h : Hpx} {M' : Msx} {r : Int32} (X : Cx_ v g cX4_join 3 RX4 "join" ((some .int)) rm_X4_join) (hMR : MR_ h) (hF : Fi_ v g rm_X4_join (some (v_I r)) h M') (M : Msx) (x1 : Int32) (x2 : Int32) (hm : f_X4_join M x1 x2 = some (M', r)) : At_ v g 3 h M 0 0 0 [(0, v_R (some 5)), (1, v_I x1), (2, v_I x2)] [] := by
  unfold f_X4_join at hm
  refine a_aload_n X dX4_join_0 rfl ?_
  refine a_iload_n X dX4_join_1 rfl ?_
  obtain ⟨r22, q21, hm⟩ := i_b hm
  refine a_callV (k' := 0) (n' := 0) (st := []) X (c_X4_isReader hMR q21) yv_X4_isReader ml_X4_146 rfl (Or.inr (mr5_ hMR)) ⟨by decide, by decide, by decide, by decide, Nat.le_of_ble_eq_true rfl⟩ rfl rfl dX4_join_2 rfl rfl ?_
  show At_ v g 3 h M 0 0 5 [(0, v_R (some 5)), (1, v_I x1), (2, v_I x2)] [v_I r22]
  refine a_if_eq (tgt := 16) X dX4_join_5 (by decide) hm (fun c23 hm => ?_) (fun c23 hm => ?_)
  · refine a_iconst (x := -1) X dX4_join_16 (by decide) ?_
    exact a_iret X hF ⟨rfl, (Prod.mk.inj (Option.some.inj hm)).1, (Prod.mk.inj (Option.some.inj hm)).2⟩ (by decide) dX4_join_17
  · refine a_aload_n X dX4_join_8 rfl ?_
    refine a_iload_n X dX4_join_9 rfl ?_
    obtain ⟨r25, q24, hm⟩ := i_b hm
    refine a_callV (k' := 0) (n' := 0) (st := []) X (c_X4_isRing hMR q24) yv_X4_isRing ml_X4_142 rfl (Or.inr (mr5_ hMR)) ⟨by decide, by decide, by decide, by decide, Nat.le_of_ble_eq_true rfl⟩ rfl rfl dX4_join_10 rfl rfl ?_
    show At_ v g 3 h M 0 0 13 [(0, v_R (some 5)), (1, v_I x1), (2, v_I x2)] [v_I r25]
    refine a_if_ne (tgt := 18) X dX4_join_13 (by decide) hm (fun c26 hm => ?_) (fun c26 hm => ?_)
    · refine a_aload_n X dX4_join_18 rfl ?_
      refine a_mgetI X hMR 34 (by decide) rfl fl_X4_135 dX4_join_19 ?_
      refine a_if_eq (tgt := 28) X dX4_join_22 (by decide) hm (fun c27 hm => ?_) (fun c27 hm => ?_)
      · refine a_aload_n X dX4_join_28 rfl ?_
        refine a_mgetA X hMR 11 (by decide) rfl rfl fl_X4_39 dX4_join_29 ?_
        refine a_iload_n X dX4_join_32 rfl ?_
        obtain ⟨b28, hm⟩ := i_c hm
        refine a_maldI X hMR 11 (by decide) rfl rfl rfl b28 dX4_join_33 ?_
        refine a_iconst (x := 5) X dX4_join_34 (by decide) ?_
        refine a_icmp_eq (tgt := 41) X dX4_join_35 (by decide) hm (fun c29 hm => ?_) (fun c29 hm => ?_)
        · refine a_aload_n X dX4_join_41 rfl ?_
          refine a_iload_n X dX4_join_42 rfl ?_
          refine a_iload_n X dX4_join_43 rfl ?_
          obtain ⟨r31, q30, hm⟩ := i_b hm
          refine a_callV (k' := 0) (n' := 0) (st := []) X (c_X4_index hMR q30) yv_X4_index ml_X4_127 rfl (Or.inr (mr5_ hMR)) ⟨by decide, by decide, by decide, by decide, Nat.le_of_ble_eq_true rfl⟩ rfl rfl dX4_join_44 rfl rfl ?_
          show At_ v g 3 h M 0 0 47 [(0, v_R (some 5)), (1, v_I x1), (2, v_I x2)] [v_I r31]
          refine a_if_lt (tgt := 53) X dX4_join_47 (by decide) hm (fun c32 hm => ?_) (fun c32 hm => ?_)
          · refine a_aload_n X dX4_join_53 rfl ?_
            refine a_mgetA X hMR 14 (by decide) rfl rfl fl_X4_48 dX4_join_54 ?_
            refine a_iload_n X dX4_join_57 rfl ?_
            obtain ⟨b33, hm⟩ := i_c hm
            refine a_maldI X hMR 14 (by decide) rfl rfl rfl b33 dX4_join_58 ?_
            refine a_iconst (x := 4) X dX4_join_59 (by decide) ?_
            refine a_icmp_ne (tgt := 66) X dX4_join_60 (by decide) hm (fun c34 hm => ?_) (fun c34 hm => ?_)
            · refine a_aload_n X dX4_join_66 rfl ?_
              refine a_mgetA X hMR 12 (by decide) rfl rfl fl_X4_42 dX4_join_67 ?_
              refine a_iconst (x := 4) X dX4_join_70 (by decide) ?_
              refine a_iload_n X dX4_join_71 rfl ?_
              refine a_imul X dX4_join_72 ?_
              refine a_aload_n X dX4_join_73 rfl ?_
              refine a_mgetA X hMR 14 (by decide) rfl rfl fl_X4_48 dX4_join_74 ?_
              refine a_iload_n X dX4_join_77 rfl ?_
              refine a_maldI X hMR 14 (by decide) rfl rfl rfl b33 dX4_join_78 ?_
              refine a_iadd X dX4_join_79 ?_
              refine a_iload_n X dX4_join_80 rfl ?_
              obtain ⟨b35, hm⟩ := i_c hm
              obtain ⟨M36, eM36, hm⟩ := i_d hm
              refine a_mastI X hMR 12 (by decide) rfl rfl rfl b35 dX4_join_81 ?_
              rw [← eM36]
              refine a_aload_n X dX4_join_82 rfl ?_
              refine a_mgetA X hMR 14 (by decide) rfl rfl fl_X4_48 dX4_join_83 ?_
              refine a_iload_n X dX4_join_86 rfl ?_
              refine a_dup2 X dX4_join_87 rfl rfl ?_
              refine a_maldI X hMR 14 (by decide) rfl rfl rfl b33 dX4_join_88 ?_
              refine a_iconst (x := 1) X dX4_join_89 (by decide) ?_
              refine a_iadd X dX4_join_90 ?_
              obtain ⟨M37, eM37, hm⟩ := i_d hm
              refine a_mastI X hMR 14 (by decide) rfl rfl rfl b33 dX4_join_91 ?_
              rw [← eM37]
              refine a_iconst (x := 1) X dX4_join_92 (by decide) ?_
              exact a_iret X hF ⟨rfl, (Prod.mk.inj (Option.some.inj hm)).1, (Prod.mk.inj (Option.some.inj hm)).2⟩ (by decide) dX4_join_93
            · refine a_bipush (x := -4) X dX4_join_63 (by decide) ?_
              exact a_iret X hF ⟨rfl, (Prod.mk.inj (Option.some.inj hm)).1, (Prod.mk.inj (Option.some.inj hm)).2⟩ (by decide) dX4_join_65
          · refine a_bipush (x := -5) X dX4_join_50 (by decide) ?_
            exact a_iret X hF ⟨rfl, (Prod.mk.inj (Option.some.inj hm)).1, (Prod.mk.inj (Option.some.inj hm)).2⟩ (by decide) dX4_join_52
        · refine a_bipush (x := -3) X dX4_join_38 (by decide) ?_
          exact a_iret X hF ⟨rfl, (Prod.mk.inj (Option.some.inj hm)).1, (Prod.mk.inj (Option.some.inj hm)).2⟩ (by decide) dX4_join_40
      · refine a_bipush (x := -2) X dX4_join_25 (by decide) ?_
        exact a_iret X hF ⟨rfl, (Prod.mk.inj (Option.some.inj hm)).1, (Prod.mk.inj (Option.some.inj hm)).2⟩ (by decide) dX4_join_27
    · refine a_iconst (x := -1) X dX4_join_16 (by decide) ?_
      exact a_iret X hF ⟨rfl, (Prod.mk.inj (Option.some.inj hm)).1, (Prod.mk.inj (Option.some.inj hm)).2⟩ (by decide) dX4_join_17
theorem c_X4_join {l : Launch} {g : Gvx} {h : Hpx} {M : Msx} {M' : Msx} {r : Int32} {x1 : Int32} {x2 : Int32} (hMR : MR_ h) (hm : f_X4_join M x1 x2 = some (M', r)) : Mt_ l g yX4_join cX4_join 3 ((some .int)) rm_X4_join [v_R (some 5), v_I x1, v_I x2] h M (some (v_I r)) h M' := mt_of (by decide) (Nat.le_of_ble_eq_true rfl) (fun v _ X hF => q_X4_join_0 X hMR hF M x1 x2 hm)
theorem yv_X4_join : Yv_ yX4_join cX4_join 3 ((some .int)) 2 4 := ⟨rfl, by decide, ⟨by decide, by decide, by decide +kernel⟩, co_X4_join, im_X4_join, se_X4_join, ini_X4⟩

abbrev rm_X4_doesName : Room := { frames := 0, cells := 0, slots := 0, locals := 0 }
def j_X4_doesName_35 (M : Msx) (rec_5 : Int32 → Int32 → Int32 → Int32 → Option (Int32)) (x1 : Int32) (x2 : Int32) (x4 : Int32) : Option (Int32) :=
  rec_5 x1 x2 (1 : Int32) (x4 + (1 : Int32))
set_option maxHeartbeats 4000000 in
theorem q_X4_doesName_35 {v : Evx} {g : Gvx} {h : Hpx} {r : Int32} (X : Cx_ v g cX4_doesName 5 RX4 "doesName" ((some .boolean)) rm_X4_doesName) (hMR : MR_ h) (M : Msx) (hF : Fi_ v g rm_X4_doesName (some (v_I r)) h M) (rec_5 : Int32 → Int32 → Int32 → Int32 → Option (Int32)) (hr_5 : ∀ (x1 : Int32) (x2 : Int32) (x3 : Int32) (x4 : Int32), rec_5 x1 x2 x3 x4 = some r → At_ v g 5 h M 0 0 5 [(0, v_R (some 5)), (1, v_I x1), (2, v_I x2), (3, v_I x3), (4, v_I x4)] []) (x1 : Int32) (x2 : Int32) (x4 : Int32) (hm : j_X4_doesName_35 M rec_5 x1 x2 x4 = some r) : At_ v g 5 h M 0 0 35 [(0, v_R (some 5)), (1, v_I x1), (2, v_I x2), (4, v_I x4)] [] := by
  unfold j_X4_doesName_35 at hm
  refine a_iconst (x := 1) X dX4_doesName_35 (by decide) ?_
  refine a_goto (tgt := 40) X dX4_doesName_36 (by decide) ?_
  refine a_istore_n (lv' := [(0, v_R (some 5)), (1, v_I x1), (2, v_I x2), (3, v_I (1 : Int32)), (4, v_I x4)]) X dX4_doesName_40 (by decide) rfl ?_
  refine a_iinc (y := x4 + (1 : Int32)) (lv' := [(0, v_R (some 5)), (1, v_I x1), (2, v_I x2), (3, v_I (1 : Int32)), (4, v_I (x4 + (1 : Int32)))]) X dX4_doesName_41 rfl rfl (by decide) rfl ?_
  refine a_goto (tgt := 5) X dX4_doesName_44 (by decide) ?_
  exact hr_5 x1 x2 (1 : Int32) (x4 + (1 : Int32)) hm
def j_X4_doesName_5 (M : Msx) (rec_5 : Int32 → Int32 → Int32 → Int32 → Option (Int32)) (x1 : Int32) (x2 : Int32) (x3 : Int32) (x4 : Int32) : Option (Int32) :=
  (if in_b x1 16 = true then
  (if (m_I M 16 x1.toNatClampNeg) ≤ x4 then
  (if x3 = 0 ∨ x3 = 1 then
  some x3 else none)
  else (if x3 = 0 then
  (if in_b (((4 : Int32) * x1) + x4) 64 = true then
  (if (m_I M 15 (((4 : Int32) * x1) + x4).toNatClampNeg) = x2 then
  j_X4_doesName_35 M rec_5 x1 x2 x4
  else rec_5 x1 x2 (0 : Int32) (x4 + (1 : Int32))) else none)
  else j_X4_doesName_35 M rec_5 x1 x2 x4)) else none)
set_option maxHeartbeats 4000000 in
theorem q_X4_doesName_5 {v : Evx} {g : Gvx} {h : Hpx} {r : Int32} (X : Cx_ v g cX4_doesName 5 RX4 "doesName" ((some .boolean)) rm_X4_doesName) (hMR : MR_ h) (M : Msx) (hF : Fi_ v g rm_X4_doesName (some (v_I r)) h M) (rec_5 : Int32 → Int32 → Int32 → Int32 → Option (Int32)) (hr_5 : ∀ (x1 : Int32) (x2 : Int32) (x3 : Int32) (x4 : Int32), rec_5 x1 x2 x3 x4 = some r → At_ v g 5 h M 0 0 5 [(0, v_R (some 5)), (1, v_I x1), (2, v_I x2), (3, v_I x3), (4, v_I x4)] []) (x1 : Int32) (x2 : Int32) (x3 : Int32) (x4 : Int32) (hm : j_X4_doesName_5 M rec_5 x1 x2 x3 x4 = some r) : At_ v g 5 h M 0 0 5 [(0, v_R (some 5)), (1, v_I x1), (2, v_I x2), (3, v_I x3), (4, v_I x4)] [] := by
  unfold j_X4_doesName_5 at hm
  refine a_iload X dX4_doesName_5 rfl ?_
  refine a_aload_n X dX4_doesName_7 rfl ?_
  refine a_mgetA X hMR 16 (by decide) rfl rfl fl_X4_54 dX4_doesName_8 ?_
  refine a_iload_n X dX4_doesName_11 rfl ?_
  obtain ⟨b21, hm⟩ := i_c hm
  refine a_maldI X hMR 16 (by decide) rfl rfl rfl b21 dX4_doesName_12 ?_
  refine a_icmp_ge (tgt := 47) X dX4_doesName_13 (by decide) hm (fun c22 hm => ?_) (fun c22 hm => ?_)
  · refine a_iload_n X dX4_doesName_47 rfl ?_
    obtain ⟨b23, hm⟩ := i_c hm
    exact a_zret X hF b23 ⟨rfl, rfl, Option.some.inj hm⟩ (by decide) dX4_doesName_48
  · refine a_iload_n X dX4_doesName_16 rfl ?_
    refine a_if_ne (tgt := 35) X dX4_doesName_17 (by decide) hm (fun c24 hm => ?_) (fun c24 hm => ?_)
    · refine a_pick (lv' := [(0, v_R (some 5)), (1, v_I x1), (2, v_I x2), (4, v_I x4)]) [0, 1, 2, 4] rfl ?_
      exact q_X4_doesName_35 X hMR M hF rec_5 hr_5 x1 x2 x4 hm
    · refine a_aload_n X dX4_doesName_20 rfl ?_
      refine a_mgetA X hMR 15 (by decide) rfl rfl fl_X4_51 dX4_doesName_21 ?_
      refine a_iconst (x := 4) X dX4_doesName_24 (by decide) ?_
      refine a_iload_n X dX4_doesName_25 rfl ?_
      refine a_imul X dX4_doesName_26 ?_
      refine a_iload X dX4_doesName_27 rfl ?_
      refine a_iadd X dX4_doesName_29 ?_
      obtain ⟨b25, hm⟩ := i_c hm
      refine a_maldI X hMR 15 (by decide) rfl rfl rfl b25 dX4_doesName_30 ?_
      refine a_iload_n X dX4_doesName_31 rfl ?_
      refine a_icmp_ne (tgt := 39) X dX4_doesName_32 (by decide) hm (fun c26 hm => ?_) (fun c26 hm => ?_)
      · refine a_iconst (x := 0) X dX4_doesName_39 (by decide) ?_
        refine a_istore_n (lv' := [(0, v_R (some 5)), (1, v_I x1), (2, v_I x2), (3, v_I (0 : Int32)), (4, v_I x4)]) X dX4_doesName_40 (by decide) rfl ?_
        refine a_iinc (y := x4 + (1 : Int32)) (lv' := [(0, v_R (some 5)), (1, v_I x1), (2, v_I x2), (3, v_I (0 : Int32)), (4, v_I (x4 + (1 : Int32)))]) X dX4_doesName_41 rfl rfl (by decide) rfl ?_
        refine a_goto (tgt := 5) X dX4_doesName_44 (by decide) ?_
        exact hr_5 x1 x2 (0 : Int32) (x4 + (1 : Int32)) hm
      · refine a_pick (lv' := [(0, v_R (some 5)), (1, v_I x1), (2, v_I x2), (4, v_I x4)]) [0, 1, 2, 4] rfl ?_
        exact q_X4_doesName_35 X hMR M hF rec_5 hr_5 x1 x2 x4 hm
def l_X4_doesName_5 (M : Msx) (n : Nat) : Int32 → Int32 → Int32 → Int32 → Option (Int32) := lp_ (fun rec_5 => j_X4_doesName_5 M rec_5) (fun _ _ _ _ => none) n
theorem ql_X4_doesName_5 {v : Evx} {g : Gvx} {h : Hpx} {r : Int32} (X : Cx_ v g cX4_doesName 5 RX4 "doesName" ((some .boolean)) rm_X4_doesName) (hMR : MR_ h) (M : Msx) (hF : Fi_ v g rm_X4_doesName (some (v_I r)) h M) : ∀ (n : Nat) (x1 : Int32) (x2 : Int32) (x3 : Int32) (x4 : Int32), l_X4_doesName_5 M n x1 x2 x3 x4 = some r → At_ v g 5 h M 0 0 5 [(0, v_R (some 5)), (1, v_I x1), (2, v_I x2), (3, v_I x3), (4, v_I x4)] [] := by
  intro n
  induction n with
  | zero => intro x1 x2 x3 x4 hm; cases hm
  | succ n ih =>
    intro x1 x2 x3 x4 hm
    exact q_X4_doesName_5 X hMR M hF (l_X4_doesName_5 M n) ih x1 x2 x3 x4 hm
def f_X4_doesName (M : Msx) (x1 : Int32) (x2 : Int32) : Option (Int32) :=
  l_X4_doesName_5 M 70 x1 x2 (0 : Int32) (0 : Int32)
set_option maxHeartbeats 4000000 in
theorem q_X4_doesName_0 {v : Evx} {g : Gvx} {h : Hpx} {r : Int32} (X : Cx_ v g cX4_doesName 5 RX4 "doesName" ((some .boolean)) rm_X4_doesName) (hMR : MR_ h) (M : Msx) (hF : Fi_ v g rm_X4_doesName (some (v_I r)) h M) (x1 : Int32) (x2 : Int32) (hm : f_X4_doesName M x1 x2 = some r) : At_ v g 5 h M 0 0 0 [(0, v_R (some 5)), (1, v_I x1), (2, v_I x2)] [] := by
  unfold f_X4_doesName at hm
  refine a_iconst (x := 0) X dX4_doesName_0 (by decide) ?_
  refine a_istore_n (lv' := [(0, v_R (some 5)), (1, v_I x1), (2, v_I x2), (3, v_I (0 : Int32))]) X dX4_doesName_1 (by decide) rfl ?_
  refine a_iconst (x := 0) X dX4_doesName_2 (by decide) ?_
  refine a_istore (lv' := [(0, v_R (some 5)), (1, v_I x1), (2, v_I x2), (3, v_I (0 : Int32)), (4, v_I (0 : Int32))]) X dX4_doesName_3 (by decide) rfl ?_
  exact ql_X4_doesName_5 X hMR M hF 70 x1 x2 (0 : Int32) (0 : Int32) hm
theorem c_X4_doesName {l : Launch} {g : Gvx} {h : Hpx} {M : Msx} {r : Int32} {x1 : Int32} {x2 : Int32} (hMR : MR_ h) (hm : f_X4_doesName M x1 x2 = some r) : Mt_ l g yX4_doesName cX4_doesName 5 ((some .boolean)) rm_X4_doesName [v_R (some 5), v_I x1, v_I x2] h M (some (v_I r)) h M := mt_of (by decide) (Nat.le_of_ble_eq_true rfl) (fun v _ X hF => q_X4_doesName_0 X hMR M hF x1 x2 hm)
theorem yv_X4_doesName : Yv_ yX4_doesName cX4_doesName 5 ((some .boolean)) 2 4 := ⟨rfl, by decide, ⟨by decide, by decide, by decide +kernel⟩, co_X4_doesName, im_X4_doesName, se_X4_doesName, ini_X4⟩

abbrev rm_X4_reach : Room := { frames := 0, cells := 0, slots := 0, locals := 0 }
def j_X4_reach_96 (rec_23 : Msx → Int32 → Int32 → Option (Msx)) (rec_31 : Msx → Int32 → Int32 → Int32 → Option (Msx)) (rec_42 : Msx → Int32 → Int32 → Int32 → Int32 → Option (Msx)) (M : Msx) (x1 : Int32) (x2 : Int32) (x3 : Int32) (x4 : Int32) (y1 : Int32) : Option (Msx) :=
  (if in_b y1 16 = true then
  b_d (n_I M 41 y1.toNatClampNeg (1 : Int32)) fun M36 =>
  rec_42 M36 x1 x2 x3 (x4 + (1 : Int32)) else none)
set_option maxHeartbeats 4000000 in
theorem q_X4_reach_96 {v : Evx} {g : Gvx} {h : Hpx} {M' : Msx} (X : Cx_ v g cX4_reach 6 RX4 "reach" (none) rm_X4_reach) (hMR : MR_ h) (hF : Fi_ v g rm_X4_reach (none) h M') (rec_23 : Msx → Int32 → Int32 → Option (Msx)) (hr_23 : ∀ (M : Msx) (x1 : Int32) (x2 : Int32), rec_23 M x1 x2 = some M' → At_ v g 6 h M 0 0 23 [(0, v_R (some 5)), (1, v_I x1), (2, v_I x2)] []) (rec_31 : Msx → Int32 → Int32 → Int32 → Option (Msx)) (hr_31 : ∀ (M : Msx) (x1 : Int32) (x2 : Int32) (x3 : Int32), rec_31 M x1 x2 x3 = some M' → At_ v g 6 h M 0 0 31 [(0, v_R (some 5)), (1, v_I x1), (2, v_I x2), (3, v_I x3)] []) (rec_42 : Msx → Int32 → Int32 → Int32 → Int32 → Option (Msx)) (hr_42 : ∀ (M : Msx) (x1 : Int32) (x2 : Int32) (x3 : Int32) (x4 : Int32), rec_42 M x1 x2 x3 x4 = some M' → At_ v g 6 h M 0 0 42 [(0, v_R (some 5)), (1, v_I x1), (2, v_I x2), (3, v_I x3), (4, v_I x4)] []) (M : Msx) (x1 : Int32) (x2 : Int32) (x3 : Int32) (x4 : Int32) (y1 : Int32) (hm : j_X4_reach_96 rec_23 rec_31 rec_42 M x1 x2 x3 x4 y1 = some M') : At_ v g 6 h M 0 0 96 [(0, v_R (some 5)), (1, v_I x1), (2, v_I x2), (3, v_I x3), (4, v_I x4)] [v_I y1, v_R (some 40)] := by
  unfold j_X4_reach_96 at hm
  refine a_iconst (x := 1) X dX4_reach_96 (by decide) ?_
  refine a_goto (tgt := 101) X dX4_reach_97 (by decide) ?_
  obtain ⟨b35, hm⟩ := i_c hm
  obtain ⟨M36, eM36, hm⟩ := i_d hm
  refine a_mastZ X hMR 41 (by decide) rfl rfl rfl b35 (Or.inr rfl) dX4_reach_101 ?_
  rw [← eM36]
  refine a_iinc (y := x4 + (1 : Int32)) (lv' := [(0, v_R (some 5)), (1, v_I x1), (2, v_I x2), (3, v_I x3), (4, v_I (x4 + (1 : Int32)))]) X dX4_reach_102 rfl rfl (by decide) rfl ?_
  refine a_goto (tgt := 42) X dX4_reach_105 (by decide) ?_
  exact hr_42 M36 x1 x2 x3 (x4 + (1 : Int32)) hm
def j_X4_reach_42 (rec_23 : Msx → Int32 → Int32 → Option (Msx)) (rec_31 : Msx → Int32 → Int32 → Int32 → Option (Msx)) (rec_42 : Msx → Int32 → Int32 → Int32 → Int32 → Option (Msx)) (M : Msx) (x1 : Int32) (x2 : Int32) (x3 : Int32) (x4 : Int32) : Option (Msx) :=
  (if in_b x3 16 = true then
  (if (m_I M 16 x3.toNatClampNeg) ≤ x4 then
  rec_31 M x1 x2 (x3 + (1 : Int32))
  else (if in_b (((4 : Int32) * x3) + x4) 64 = true then
  (if in_b x3 16 = true then
  (if (m_I M 41 x3.toNatClampNeg) = 0 then
  (if (m_I M 15 (((4 : Int32) * x3) + x4).toNatClampNeg) = x1 then
  j_X4_reach_96 rec_23 rec_31 rec_42 M x1 x2 x3 x4 x3
  else (if in_b (m_I M 15 (((4 : Int32) * x3) + x4).toNatClampNeg) 16 = true then
  (if (m_I M 41 (m_I M 15 (((4 : Int32) * x3) + x4).toNatClampNeg).toNatClampNeg) = 0 then
  b_d (n_I M 41 x3.toNatClampNeg (0 : Int32)) fun M34 =>
  rec_42 M34 x1 x2 x3 (x4 + (1 : Int32))
  else j_X4_reach_96 rec_23 rec_31 rec_42 M x1 x2 x3 x4 x3) else none))
  else j_X4_reach_96 rec_23 rec_31 rec_42 M x1 x2 x3 x4 x3) else none) else none)) else none)
set_option maxHeartbeats 4000000 in
theorem q_X4_reach_42 {v : Evx} {g : Gvx} {h : Hpx} {M' : Msx} (X : Cx_ v g cX4_reach 6 RX4 "reach" (none) rm_X4_reach) (hMR : MR_ h) (hF : Fi_ v g rm_X4_reach (none) h M') (rec_23 : Msx → Int32 → Int32 → Option (Msx)) (hr_23 : ∀ (M : Msx) (x1 : Int32) (x2 : Int32), rec_23 M x1 x2 = some M' → At_ v g 6 h M 0 0 23 [(0, v_R (some 5)), (1, v_I x1), (2, v_I x2)] []) (rec_31 : Msx → Int32 → Int32 → Int32 → Option (Msx)) (hr_31 : ∀ (M : Msx) (x1 : Int32) (x2 : Int32) (x3 : Int32), rec_31 M x1 x2 x3 = some M' → At_ v g 6 h M 0 0 31 [(0, v_R (some 5)), (1, v_I x1), (2, v_I x2), (3, v_I x3)] []) (rec_42 : Msx → Int32 → Int32 → Int32 → Int32 → Option (Msx)) (hr_42 : ∀ (M : Msx) (x1 : Int32) (x2 : Int32) (x3 : Int32) (x4 : Int32), rec_42 M x1 x2 x3 x4 = some M' → At_ v g 6 h M 0 0 42 [(0, v_R (some 5)), (1, v_I x1), (2, v_I x2), (3, v_I x3), (4, v_I x4)] []) (M : Msx) (x1 : Int32) (x2 : Int32) (x3 : Int32) (x4 : Int32) (hm : j_X4_reach_42 rec_23 rec_31 rec_42 M x1 x2 x3 x4 = some M') : At_ v g 6 h M 0 0 42 [(0, v_R (some 5)), (1, v_I x1), (2, v_I x2), (3, v_I x3), (4, v_I x4)] [] := by
  unfold j_X4_reach_42 at hm
  refine a_iload X dX4_reach_42 rfl ?_
  refine a_aload_n X dX4_reach_44 rfl ?_
  refine a_mgetA X hMR 16 (by decide) rfl rfl fl_X4_54 dX4_reach_45 ?_
  refine a_iload_n X dX4_reach_48 rfl ?_
  obtain ⟨b26, hm⟩ := i_c hm
  refine a_maldI X hMR 16 (by decide) rfl rfl rfl b26 dX4_reach_49 ?_
  refine a_icmp_ge (tgt := 108) X dX4_reach_50 (by decide) hm (fun c27 hm => ?_) (fun c27 hm => ?_)
  · refine a_iinc (y := x3 + (1 : Int32)) (lv' := [(0, v_R (some 5)), (1, v_I x1), (2, v_I x2), (3, v_I (x3 + (1 : Int32))), (4, v_I x4)]) X dX4_reach_108 rfl rfl (by decide) rfl ?_
    refine a_goto (tgt := 31) X dX4_reach_111 (by decide) ?_
    refine a_pick (lv' := [(0, v_R (some 5)), (1, v_I x1), (2, v_I x2), (3, v_I (x3 + (1 : Int32)))]) [0, 1, 2, 3] rfl ?_
    exact hr_31 M x1 x2 (x3 + (1 : Int32)) hm
  · refine a_aload_n X dX4_reach_53 rfl ?_
    refine a_mgetA X hMR 15 (by decide) rfl rfl fl_X4_51 dX4_reach_54 ?_
    refine a_iconst (x := 4) X dX4_reach_57 (by decide) ?_
    refine a_iload_n X dX4_reach_58 rfl ?_
    refine a_imul X dX4_reach_59 ?_
    refine a_iload X dX4_reach_60 rfl ?_
    refine a_iadd X dX4_reach_62 ?_
    obtain ⟨b28, hm⟩ := i_c hm
    refine a_maldI X hMR 15 (by decide) rfl rfl rfl b28 dX4_reach_63 ?_
    refine a_istore (lv' := [(0, v_R (some 5)), (1, v_I x1), (2, v_I x2), (3, v_I x3), (4, v_I x4), (5, v_I (m_I M 15 (((4 : Int32) * x3) + x4).toNatClampNeg))]) X dX4_reach_64 (by decide) rfl ?_
    refine a_aload_n X dX4_reach_66 rfl ?_
    refine a_mgetA X hMR 41 (by decide) rfl rfl fl_X4_118 dX4_reach_67 ?_
    refine a_iload_n X dX4_reach_70 rfl ?_
    refine a_aload_n X dX4_reach_71 rfl ?_
    refine a_mgetA X hMR 41 (by decide) rfl rfl fl_X4_118 dX4_reach_72 ?_
    refine a_iload_n X dX4_reach_75 rfl ?_
    obtain ⟨b29, hm⟩ := i_c hm
    refine a_maldZ X hMR 41 (by decide) rfl rfl rfl b29 dX4_reach_76 ?_
    refine a_if_ne (tgt := 96) X dX4_reach_77 (by decide) hm (fun c30 hm => ?_) (fun c30 hm => ?_)
    · refine a_pick (lv' := [(0, v_R (some 5)), (1, v_I x1), (2, v_I x2), (3, v_I x3), (4, v_I x4)]) [0, 1, 2, 3, 4] rfl ?_
      exact q_X4_reach_96 X hMR hF rec_23 hr_23 rec_31 hr_31 rec_42 hr_42 M x1 x2 x3 x4 x3 hm
    · refine a_iload X dX4_reach_80 rfl ?_
      refine a_iload_n X dX4_reach_82 rfl ?_
      refine a_icmp_eq (tgt := 96) X dX4_reach_83 (by decide) hm (fun c31 hm => ?_) (fun c31 hm => ?_)
      · refine a_pick (lv' := [(0, v_R (some 5)), (1, v_I x1), (2, v_I x2), (3, v_I x3), (4, v_I x4)]) [0, 1, 2, 3, 4] rfl ?_
        exact q_X4_reach_96 X hMR hF rec_23 hr_23 rec_31 hr_31 rec_42 hr_42 M x1 x2 x3 x4 x3 hm
      · refine a_aload_n X dX4_reach_86 rfl ?_
        refine a_mgetA X hMR 41 (by decide) rfl rfl fl_X4_118 dX4_reach_87 ?_
        refine a_iload X dX4_reach_90 rfl ?_
        obtain ⟨b32, hm⟩ := i_c hm
        refine a_maldZ X hMR 41 (by decide) rfl rfl rfl b32 dX4_reach_92 ?_
        refine a_if_eq (tgt := 100) X dX4_reach_93 (by decide) hm (fun c33 hm => ?_) (fun c33 hm => ?_)
        · refine a_iconst (x := 0) X dX4_reach_100 (by decide) ?_
          obtain ⟨M34, eM34, hm⟩ := i_d hm
          refine a_mastZ X hMR 41 (by decide) rfl rfl rfl b29 (Or.inl rfl) dX4_reach_101 ?_
          rw [← eM34]
          refine a_iinc (y := x4 + (1 : Int32)) (lv' := [(0, v_R (some 5)), (1, v_I x1), (2, v_I x2), (3, v_I x3), (4, v_I (x4 + (1 : Int32))), (5, v_I (m_I M 15 (((4 : Int32) * x3) + x4).toNatClampNeg))]) X dX4_reach_102 rfl rfl (by decide) rfl ?_
          refine a_goto (tgt := 42) X dX4_reach_105 (by decide) ?_
          refine a_pick (lv' := [(0, v_R (some 5)), (1, v_I x1), (2, v_I x2), (3, v_I x3), (4, v_I (x4 + (1 : Int32)))]) [0, 1, 2, 3, 4] rfl ?_
          exact hr_42 M34 x1 x2 x3 (x4 + (1 : Int32)) hm
        · refine a_pick (lv' := [(0, v_R (some 5)), (1, v_I x1), (2, v_I x2), (3, v_I x3), (4, v_I x4)]) [0, 1, 2, 3, 4] rfl ?_
          exact q_X4_reach_96 X hMR hF rec_23 hr_23 rec_31 hr_31 rec_42 hr_42 M x1 x2 x3 x4 x3 hm
def l_X4_reach_42 (rec_23 : Msx → Int32 → Int32 → Option (Msx)) (rec_31 : Msx → Int32 → Int32 → Int32 → Option (Msx)) (n : Nat) : Msx → Int32 → Int32 → Int32 → Int32 → Option (Msx) := lp_ (fun rec_42 => j_X4_reach_42 rec_23 rec_31 rec_42) (fun _ _ _ _ _ => none) n
theorem ql_X4_reach_42 {v : Evx} {g : Gvx} {h : Hpx} {M' : Msx} (X : Cx_ v g cX4_reach 6 RX4 "reach" (none) rm_X4_reach) (hMR : MR_ h) (hF : Fi_ v g rm_X4_reach (none) h M') (rec_23 : Msx → Int32 → Int32 → Option (Msx)) (hr_23 : ∀ (M : Msx) (x1 : Int32) (x2 : Int32), rec_23 M x1 x2 = some M' → At_ v g 6 h M 0 0 23 [(0, v_R (some 5)), (1, v_I x1), (2, v_I x2)] []) (rec_31 : Msx → Int32 → Int32 → Int32 → Option (Msx)) (hr_31 : ∀ (M : Msx) (x1 : Int32) (x2 : Int32) (x3 : Int32), rec_31 M x1 x2 x3 = some M' → At_ v g 6 h M 0 0 31 [(0, v_R (some 5)), (1, v_I x1), (2, v_I x2), (3, v_I x3)] []) : ∀ (n : Nat) (M : Msx) (x1 : Int32) (x2 : Int32) (x3 : Int32) (x4 : Int32), l_X4_reach_42 rec_23 rec_31 n M x1 x2 x3 x4 = some M' → At_ v g 6 h M 0 0 42 [(0, v_R (some 5)), (1, v_I x1), (2, v_I x2), (3, v_I x3), (4, v_I x4)] [] := by
  intro n
  induction n with
  | zero => intro M x1 x2 x3 x4 hm; cases hm
  | succ n ih =>
    intro M x1 x2 x3 x4 hm
    exact q_X4_reach_42 X hMR hF rec_23 hr_23 rec_31 hr_31 (l_X4_reach_42 rec_23 rec_31 n) ih M x1 x2 x3 x4 hm
def j_X4_reach_31 (rec_23 : Msx → Int32 → Int32 → Option (Msx)) (rec_31 : Msx → Int32 → Int32 → Int32 → Option (Msx)) (M : Msx) (x1 : Int32) (x2 : Int32) (x3 : Int32) : Option (Msx) :=
  (if (m_I M 10 0) ≤ x3 then
  rec_23 M x1 (x2 + (1 : Int32))
  else l_X4_reach_42 rec_23 rec_31 70 M x1 x2 x3 (0 : Int32))
set_option maxHeartbeats 4000000 in
theorem q_X4_reach_31 {v : Evx} {g : Gvx} {h : Hpx} {M' : Msx} (X : Cx_ v g cX4_reach 6 RX4 "reach" (none) rm_X4_reach) (hMR : MR_ h) (hF : Fi_ v g rm_X4_reach (none) h M') (rec_23 : Msx → Int32 → Int32 → Option (Msx)) (hr_23 : ∀ (M : Msx) (x1 : Int32) (x2 : Int32), rec_23 M x1 x2 = some M' → At_ v g 6 h M 0 0 23 [(0, v_R (some 5)), (1, v_I x1), (2, v_I x2)] []) (rec_31 : Msx → Int32 → Int32 → Int32 → Option (Msx)) (hr_31 : ∀ (M : Msx) (x1 : Int32) (x2 : Int32) (x3 : Int32), rec_31 M x1 x2 x3 = some M' → At_ v g 6 h M 0 0 31 [(0, v_R (some 5)), (1, v_I x1), (2, v_I x2), (3, v_I x3)] []) (M : Msx) (x1 : Int32) (x2 : Int32) (x3 : Int32) (hm : j_X4_reach_31 rec_23 rec_31 M x1 x2 x3 = some M') : At_ v g 6 h M 0 0 31 [(0, v_R (some 5)), (1, v_I x1), (2, v_I x2), (3, v_I x3)] [] := by
  unfold j_X4_reach_31 at hm
  refine a_iload_n X dX4_reach_31 rfl ?_
  refine a_aload_n X dX4_reach_32 rfl ?_
  refine a_mgetI X hMR 10 (by decide) rfl fl_X4_124 dX4_reach_33 ?_
  refine a_icmp_ge (tgt := 114) X dX4_reach_36 (by decide) hm (fun c25 hm => ?_) (fun c25 hm => ?_)
  · refine a_iinc (y := x2 + (1 : Int32)) (lv' := [(0, v_R (some 5)), (1, v_I x1), (2, v_I (x2 + (1 : Int32))), (3, v_I x3)]) X dX4_reach_114 rfl rfl (by decide) rfl ?_
    refine a_goto (tgt := 23) X dX4_reach_117 (by decide) ?_
    refine a_pick (lv' := [(0, v_R (some 5)), (1, v_I x1), (2, v_I (x2 + (1 : Int32)))]) [0, 1, 2] rfl ?_
    exact hr_23 M x1 (x2 + (1 : Int32)) hm
  · refine a_iconst (x := 0) X dX4_reach_39 (by decide) ?_
    refine a_istore (lv' := [(0, v_R (some 5)), (1, v_I x1), (2, v_I x2), (3, v_I x3), (4, v_I (0 : Int32))]) X dX4_reach_40 (by decide) rfl ?_
    exact ql_X4_reach_42 X hMR hF rec_23 hr_23 rec_31 hr_31 70 M x1 x2 x3 (0 : Int32) hm
def l_X4_reach_31 (rec_23 : Msx → Int32 → Int32 → Option (Msx)) (n : Nat) : Msx → Int32 → Int32 → Int32 → Option (Msx) := lp_ (fun rec_31 => j_X4_reach_31 rec_23 rec_31) (fun _ _ _ _ => none) n
theorem ql_X4_reach_31 {v : Evx} {g : Gvx} {h : Hpx} {M' : Msx} (X : Cx_ v g cX4_reach 6 RX4 "reach" (none) rm_X4_reach) (hMR : MR_ h) (hF : Fi_ v g rm_X4_reach (none) h M') (rec_23 : Msx → Int32 → Int32 → Option (Msx)) (hr_23 : ∀ (M : Msx) (x1 : Int32) (x2 : Int32), rec_23 M x1 x2 = some M' → At_ v g 6 h M 0 0 23 [(0, v_R (some 5)), (1, v_I x1), (2, v_I x2)] []) : ∀ (n : Nat) (M : Msx) (x1 : Int32) (x2 : Int32) (x3 : Int32), l_X4_reach_31 rec_23 n M x1 x2 x3 = some M' → At_ v g 6 h M 0 0 31 [(0, v_R (some 5)), (1, v_I x1), (2, v_I x2), (3, v_I x3)] [] := by
  intro n
  induction n with
  | zero => intro M x1 x2 x3 hm; cases hm
  | succ n ih =>
    intro M x1 x2 x3 hm
    exact q_X4_reach_31 X hMR hF rec_23 hr_23 (l_X4_reach_31 rec_23 n) ih M x1 x2 x3 hm
def j_X4_reach_23 (rec_23 : Msx → Int32 → Int32 → Option (Msx)) (M : Msx) (x1 : Int32) (x2 : Int32) : Option (Msx) :=
  (if (16 : Int32) ≤ x2 then
  some M
  else l_X4_reach_31 rec_23 70 M x1 x2 (0 : Int32))
set_option maxHeartbeats 4000000 in
theorem q_X4_reach_23 {v : Evx} {g : Gvx} {h : Hpx} {M' : Msx} (X : Cx_ v g cX4_reach 6 RX4 "reach" (none) rm_X4_reach) (hMR : MR_ h) (hF : Fi_ v g rm_X4_reach (none) h M') (rec_23 : Msx → Int32 → Int32 → Option (Msx)) (hr_23 : ∀ (M : Msx) (x1 : Int32) (x2 : Int32), rec_23 M x1 x2 = some M' → At_ v g 6 h M 0 0 23 [(0, v_R (some 5)), (1, v_I x1), (2, v_I x2)] []) (M : Msx) (x1 : Int32) (x2 : Int32) (hm : j_X4_reach_23 rec_23 M x1 x2 = some M') : At_ v g 6 h M 0 0 23 [(0, v_R (some 5)), (1, v_I x1), (2, v_I x2)] [] := by
  unfold j_X4_reach_23 at hm
  refine a_iload_n X dX4_reach_23 rfl ?_
  refine a_bipush (x := 16) X dX4_reach_24 (by decide) ?_
  refine a_icmp_ge (tgt := 120) X dX4_reach_26 (by decide) hm (fun c24 hm => ?_) (fun c24 hm => ?_)
  · exact a_vret X hF ⟨rfl, Option.some.inj hm⟩ (by decide) dX4_reach_120
  · refine a_iconst (x := 0) X dX4_reach_29 (by decide) ?_
    refine a_istore_n (lv' := [(0, v_R (some 5)), (1, v_I x1), (2, v_I x2), (3, v_I (0 : Int32))]) X dX4_reach_30 (by decide) rfl ?_
    exact ql_X4_reach_31 X hMR hF rec_23 hr_23 70 M x1 x2 (0 : Int32) hm
def l_X4_reach_23 (n : Nat) : Msx → Int32 → Int32 → Option (Msx) := lp_ (fun rec_23 => j_X4_reach_23 rec_23) (fun _ _ _ => none) n
theorem ql_X4_reach_23 {v : Evx} {g : Gvx} {h : Hpx} {M' : Msx} (X : Cx_ v g cX4_reach 6 RX4 "reach" (none) rm_X4_reach) (hMR : MR_ h) (hF : Fi_ v g rm_X4_reach (none) h M') : ∀ (n : Nat) (M : Msx) (x1 : Int32) (x2 : Int32), l_X4_reach_23 n M x1 x2 = some M' → At_ v g 6 h M 0 0 23 [(0, v_R (some 5)), (1, v_I x1), (2, v_I x2)] [] := by
  intro n
  induction n with
  | zero => intro M x1 x2 hm; cases hm
  | succ n ih =>
    intro M x1 x2 hm
    exact q_X4_reach_23 X hMR hF (l_X4_reach_23 n) ih M x1 x2 hm
def j_X4_reach_2 (rec_2 : Msx → Int32 → Int32 → Option (Msx)) (M : Msx) (x1 : Int32) (x2 : Int32) : Option (Msx) :=
  (if (16 : Int32) ≤ x2 then
  l_X4_reach_23 70 M x1 (0 : Int32)
  else (if in_b x2 16 = true then
  b_d (n_I M 41 x2.toNatClampNeg (0 : Int32)) fun M23 =>
  rec_2 M23 x1 (x2 + (1 : Int32)) else none))
set_option maxHeartbeats 4000000 in
theorem q_X4_reach_2 {v : Evx} {g : Gvx} {h : Hpx} {M' : Msx} (X : Cx_ v g cX4_reach 6 RX4 "reach" (none) rm_X4_reach) (hMR : MR_ h) (hF : Fi_ v g rm_X4_reach (none) h M') (rec_2 : Msx → Int32 → Int32 → Option (Msx)) (hr_2 : ∀ (M : Msx) (x1 : Int32) (x2 : Int32), rec_2 M x1 x2 = some M' → At_ v g 6 h M 0 0 2 [(0, v_R (some 5)), (1, v_I x1), (2, v_I x2)] []) (M : Msx) (x1 : Int32) (x2 : Int32) (hm : j_X4_reach_2 rec_2 M x1 x2 = some M') : At_ v g 6 h M 0 0 2 [(0, v_R (some 5)), (1, v_I x1), (2, v_I x2)] [] := by
  unfold j_X4_reach_2 at hm
  refine a_iload_n X dX4_reach_2 rfl ?_
  refine a_bipush (x := 16) X dX4_reach_3 (by decide) ?_
  refine a_icmp_ge (tgt := 21) X dX4_reach_5 (by decide) hm (fun c21 hm => ?_) (fun c21 hm => ?_)
  · refine a_iconst (x := 0) X dX4_reach_21 (by decide) ?_
    refine a_istore_n (lv' := [(0, v_R (some 5)), (1, v_I x1), (2, v_I (0 : Int32))]) X dX4_reach_22 (by decide) rfl ?_
    exact ql_X4_reach_23 X hMR hF 70 M x1 (0 : Int32) hm
  · refine a_aload_n X dX4_reach_8 rfl ?_
    refine a_mgetA X hMR 41 (by decide) rfl rfl fl_X4_118 dX4_reach_9 ?_
    refine a_iload_n X dX4_reach_12 rfl ?_
    refine a_iconst (x := 0) X dX4_reach_13 (by decide) ?_
    obtain ⟨b22, hm⟩ := i_c hm
    obtain ⟨M23, eM23, hm⟩ := i_d hm
    refine a_mastZ X hMR 41 (by decide) rfl rfl rfl b22 (Or.inl rfl) dX4_reach_14 ?_
    rw [← eM23]
    refine a_iinc (y := x2 + (1 : Int32)) (lv' := [(0, v_R (some 5)), (1, v_I x1), (2, v_I (x2 + (1 : Int32)))]) X dX4_reach_15 rfl rfl (by decide) rfl ?_
    refine a_goto (tgt := 2) X dX4_reach_18 (by decide) ?_
    exact hr_2 M23 x1 (x2 + (1 : Int32)) hm
def l_X4_reach_2 (n : Nat) : Msx → Int32 → Int32 → Option (Msx) := lp_ (fun rec_2 => j_X4_reach_2 rec_2) (fun _ _ _ => none) n
theorem ql_X4_reach_2 {v : Evx} {g : Gvx} {h : Hpx} {M' : Msx} (X : Cx_ v g cX4_reach 6 RX4 "reach" (none) rm_X4_reach) (hMR : MR_ h) (hF : Fi_ v g rm_X4_reach (none) h M') : ∀ (n : Nat) (M : Msx) (x1 : Int32) (x2 : Int32), l_X4_reach_2 n M x1 x2 = some M' → At_ v g 6 h M 0 0 2 [(0, v_R (some 5)), (1, v_I x1), (2, v_I x2)] [] := by
  intro n
  induction n with
  | zero => intro M x1 x2 hm; cases hm
  | succ n ih =>
    intro M x1 x2 hm
    exact q_X4_reach_2 X hMR hF (l_X4_reach_2 n) ih M x1 x2 hm
def f_X4_reach (M : Msx) (x1 : Int32) : Option (Msx) :=
  l_X4_reach_2 70 M x1 (0 : Int32)
set_option maxHeartbeats 4000000 in
theorem q_X4_reach_0 {v : Evx} {g : Gvx} {h : Hpx} {M' : Msx} (X : Cx_ v g cX4_reach 6 RX4 "reach" (none) rm_X4_reach) (hMR : MR_ h) (hF : Fi_ v g rm_X4_reach (none) h M') (M : Msx) (x1 : Int32) (hm : f_X4_reach M x1 = some M') : At_ v g 6 h M 0 0 0 [(0, v_R (some 5)), (1, v_I x1)] [] := by
  unfold f_X4_reach at hm
  refine a_iconst (x := 0) X dX4_reach_0 (by decide) ?_
  refine a_istore_n (lv' := [(0, v_R (some 5)), (1, v_I x1), (2, v_I (0 : Int32))]) X dX4_reach_1 (by decide) rfl ?_
  exact ql_X4_reach_2 X hMR hF 70 M x1 (0 : Int32) hm
theorem c_X4_reach {l : Launch} {g : Gvx} {h : Hpx} {M : Msx} {M' : Msx} {x1 : Int32} (hMR : MR_ h) (hm : f_X4_reach M x1 = some M') : Mt_ l g yX4_reach cX4_reach 6 (none) rm_X4_reach [v_R (some 5), v_I x1] h M (none) h M' := mt_of (by decide) (Nat.le_of_ble_eq_true rfl) (fun v _ X hF => q_X4_reach_0 X hMR hF M x1 hm)
theorem yv_X4_reach : Yv_ yX4_reach cX4_reach 6 (none) 1 4 := ⟨rfl, by decide, ⟨by decide, by decide, by decide +kernel⟩, co_X4_reach, im_X4_reach, se_X4_reach, ini_X4⟩

abbrev rm_X4_go : Room := { frames := 1, cells := 0, slots := 0, locals := 24 }
def j_X4_go_44 (rec_19 : Msx → Int32 → Option (Msx)) (rec_44 : Msx → Int32 → Int32 → Int32 → Option (Msx)) (M : Msx) (x1 : Int32) (x3 : Int32) (x4 : Int32) : Option (Msx) :=
  (if in_b ((m_I M 40 0) - (1 : Int32)) 20 = true then
  (if in_b (m_I M 39 ((m_I M 40 0) - (1 : Int32)).toNatClampNeg) 16 = true then
  (if (m_I M 16 (m_I M 39 ((m_I M 40 0) - (1 : Int32)).toNatClampNeg).toNatClampNeg) ≤ x4 then
  (if in_b (m_I M 40 0) 20 = true then
  b_d (n_I M 39 (m_I M 40 0).toNatClampNeg x3) fun M34 =>
  b_d (n_I M34 40 0 ((m_I M34 40 0) + (1 : Int32))) fun M35 =>
  rec_19 M35 x1 else none)
  else (if in_b (((4 : Int32) * (m_I M 39 ((m_I M 40 0) - (1 : Int32)).toNatClampNeg)) + x4) 64 = true then
  (if in_b (m_I M 15 (((4 : Int32) * (m_I M 39 ((m_I M 40 0) - (1 : Int32)).toNatClampNeg)) + x4).toNatClampNeg) 16 = true then
  (if (m_I M 41 (m_I M 15 (((4 : Int32) * (m_I M 39 ((m_I M 40 0) - (1 : Int32)).toNatClampNeg)) + x4).toNatClampNeg).toNatClampNeg) = 0 then
  rec_44 M x1 x3 (x4 + (1 : Int32))
  else (if x3 ≤ (m_I M 15 (((4 : Int32) * (m_I M 39 ((m_I M 40 0) - (1 : Int32)).toNatClampNeg)) + x4).toNatClampNeg) then
  rec_44 M x1 x3 (x4 + (1 : Int32))
  else rec_44 M x1 (m_I M 15 (((4 : Int32) * (m_I M 39 ((m_I M 40 0) - (1 : Int32)).toNatClampNeg)) + x4).toNatClampNeg) (x4 + (1 : Int32)))) else none) else none)) else none) else none)
set_option maxHeartbeats 4000000 in
theorem q_X4_go_44 {v : Evx} {g : Gvx} {h : Hpx} {M' : Msx} (X : Cx_ v g cX4_go 6 RX4 "go" (none) rm_X4_go) (hMR : MR_ h) (hF : Fi_ v g rm_X4_go (none) h M') (rec_19 : Msx → Int32 → Option (Msx)) (hr_19 : ∀ (M : Msx) (x1 : Int32), rec_19 M x1 = some M' → At_ v g 6 h M 0 0 19 [(0, v_R (some 5)), (1, v_I x1)] []) (rec_44 : Msx → Int32 → Int32 → Int32 → Option (Msx)) (hr_44 : ∀ (M : Msx) (x1 : Int32) (x3 : Int32) (x4 : Int32), rec_44 M x1 x3 x4 = some M' → At_ v g 6 h M 0 0 44 [(0, v_R (some 5)), (1, v_I x1), (3, v_I x3), (4, v_I x4)] []) (M : Msx) (x1 : Int32) (x3 : Int32) (x4 : Int32) (hm : j_X4_go_44 rec_19 rec_44 M x1 x3 x4 = some M') : At_ v g 6 h M 0 0 44 [(0, v_R (some 5)), (1, v_I x1), (3, v_I x3), (4, v_I x4)] [] := by
  unfold j_X4_go_44 at hm
  refine a_iload X dX4_go_44 rfl ?_
  refine a_aload_n X dX4_go_46 rfl ?_
  refine a_mgetA X hMR 16 (by decide) rfl rfl fl_X4_54 dX4_go_47 ?_
  refine a_aload_n X dX4_go_50 rfl ?_
  refine a_mgetA X hMR 39 (by decide) rfl rfl fl_X4_115 dX4_go_51 ?_
  refine a_aload_n X dX4_go_54 rfl ?_
  refine a_mgetI X hMR 40 (by decide) rfl fl_X4_153 dX4_go_55 ?_
  refine a_iconst (x := 1) X dX4_go_58 (by decide) ?_
  refine a_isub X dX4_go_59 ?_
  obtain ⟨b30, hm⟩ := i_c hm
  refine a_maldI X hMR 39 (by decide) rfl rfl rfl b30 dX4_go_60 ?_
  obtain ⟨b31, hm⟩ := i_c hm
  refine a_maldI X hMR 16 (by decide) rfl rfl rfl b31 dX4_go_61 ?_
  refine a_icmp_ge (tgt := 117) X dX4_go_62 (by decide) hm (fun c32 hm => ?_) (fun c32 hm => ?_)
  · refine a_aload_n X dX4_go_117 rfl ?_
    refine a_mgetA X hMR 39 (by decide) rfl rfl fl_X4_115 dX4_go_118 ?_
    refine a_aload_n X dX4_go_121 rfl ?_
    refine a_mgetI X hMR 40 (by decide) rfl fl_X4_153 dX4_go_122 ?_
    refine a_iload_n X dX4_go_125 rfl ?_
    obtain ⟨b33, hm⟩ := i_c hm
    obtain ⟨M34, eM34, hm⟩ := i_d hm
    refine a_mastI X hMR 39 (by decide) rfl rfl rfl b33 dX4_go_126 ?_
    rw [← eM34]
    refine a_aload_n X dX4_go_127 rfl ?_
    refine a_dup X dX4_go_128 rfl ?_
    refine a_mgetI X hMR 40 (by decide) rfl fl_X4_153 dX4_go_129 ?_
    refine a_iconst (x := 1) X dX4_go_132 (by decide) ?_
    refine a_iadd X dX4_go_133 ?_
    obtain ⟨M35, eM35, hm⟩ := i_d hm
    refine a_mputI X hMR 40 (by decide) rfl rfl rfl rfl fl_X4_153 dX4_go_134 ?_
    rw [← eM35]
    refine a_goto (tgt := 19) X dX4_go_137 (by decide) ?_
    refine a_pick (lv' := [(0, v_R (some 5)), (1, v_I x1)]) [0, 1] rfl ?_
    exact hr_19 M35 x1 hm
  · refine a_aload_n X dX4_go_65 rfl ?_
    refine a_mgetA X hMR 15 (by decide) rfl rfl fl_X4_51 dX4_go_66 ?_
    refine a_iconst (x := 4) X dX4_go_69 (by decide) ?_
    refine a_aload_n X dX4_go_70 rfl ?_
    refine a_mgetA X hMR 39 (by decide) rfl rfl fl_X4_115 dX4_go_71 ?_
    refine a_aload_n X dX4_go_74 rfl ?_
    refine a_mgetI X hMR 40 (by decide) rfl fl_X4_153 dX4_go_75 ?_
    refine a_iconst (x := 1) X dX4_go_78 (by decide) ?_
    refine a_isub X dX4_go_79 ?_
    refine a_maldI X hMR 39 (by decide) rfl rfl rfl b30 dX4_go_80 ?_
    refine a_imul X dX4_go_81 ?_
    refine a_iload X dX4_go_82 rfl ?_
    refine a_iadd X dX4_go_84 ?_
    obtain ⟨b36, hm⟩ := i_c hm
    refine a_maldI X hMR 15 (by decide) rfl rfl rfl b36 dX4_go_85 ?_
    refine a_istore (lv' := [(0, v_R (some 5)), (1, v_I x1), (3, v_I x3), (4, v_I x4), (5, v_I (m_I M 15 (((4 : Int32) * (m_I M 39 ((m_I M 40 0) - (1 : Int32)).toNatClampNeg)) + x4).toNatClampNeg))]) X dX4_go_86 (by decide) rfl ?_
    refine a_aload_n X dX4_go_88 rfl ?_
    refine a_mgetA X hMR 41 (by decide) rfl rfl fl_X4_118 dX4_go_89 ?_
    refine a_iload X dX4_go_92 rfl ?_
    obtain ⟨b37, hm⟩ := i_c hm
    refine a_maldZ X hMR 41 (by decide) rfl rfl rfl b37 dX4_go_94 ?_
    refine a_if_eq (tgt := 109) X dX4_go_95 (by decide) hm (fun c38 hm => ?_) (fun c38 hm => ?_)
    · refine a_iload_n X dX4_go_109 rfl ?_
      refine a_istore_n (lv' := [(0, v_R (some 5)), (1, v_I x1), (3, v_I x3), (4, v_I x4), (5, v_I (m_I M 15 (((4 : Int32) * (m_I M 39 ((m_I M 40 0) - (1 : Int32)).toNatClampNeg)) + x4).toNatClampNeg))]) X dX4_go_110 (by decide) rfl ?_
      refine a_iinc (y := x4 + (1 : Int32)) (lv' := [(0, v_R (some 5)), (1, v_I x1), (3, v_I x3), (4, v_I (x4 + (1 : Int32))), (5, v_I (m_I M 15 (((4 : Int32) * (m_I M 39 ((m_I M 40 0) - (1 : Int32)).toNatClampNeg)) + x4).toNatClampNeg))]) X dX4_go_111 rfl rfl (by decide) rfl ?_
      refine a_goto (tgt := 44) X dX4_go_114 (by decide) ?_
      refine a_pick (lv' := [(0, v_R (some 5)), (1, v_I x1), (3, v_I x3), (4, v_I (x4 + (1 : Int32)))]) [0, 1, 2, 3] rfl ?_
      exact hr_44 M x1 x3 (x4 + (1 : Int32)) hm
    · refine a_iload X dX4_go_98 rfl ?_
      refine a_iload_n X dX4_go_100 rfl ?_
      refine a_icmp_ge (tgt := 109) X dX4_go_101 (by decide) hm (fun c39 hm => ?_) (fun c39 hm => ?_)
      · refine a_iload_n X dX4_go_109 rfl ?_
        refine a_istore_n (lv' := [(0, v_R (some 5)), (1, v_I x1), (3, v_I x3), (4, v_I x4), (5, v_I (m_I M 15 (((4 : Int32) * (m_I M 39 ((m_I M 40 0) - (1 : Int32)).toNatClampNeg)) + x4).toNatClampNeg))]) X dX4_go_110 (by decide) rfl ?_
        refine a_iinc (y := x4 + (1 : Int32)) (lv' := [(0, v_R (some 5)), (1, v_I x1), (3, v_I x3), (4, v_I (x4 + (1 : Int32))), (5, v_I (m_I M 15 (((4 : Int32) * (m_I M 39 ((m_I M 40 0) - (1 : Int32)).toNatClampNeg)) + x4).toNatClampNeg))]) X dX4_go_111 rfl rfl (by decide) rfl ?_
        refine a_goto (tgt := 44) X dX4_go_114 (by decide) ?_
        refine a_pick (lv' := [(0, v_R (some 5)), (1, v_I x1), (3, v_I x3), (4, v_I (x4 + (1 : Int32)))]) [0, 1, 2, 3] rfl ?_
        exact hr_44 M x1 x3 (x4 + (1 : Int32)) hm
      · refine a_iload X dX4_go_104 rfl ?_
        refine a_goto (tgt := 110) X dX4_go_106 (by decide) ?_
        refine a_istore_n (lv' := [(0, v_R (some 5)), (1, v_I x1), (3, v_I (m_I M 15 (((4 : Int32) * (m_I M 39 ((m_I M 40 0) - (1 : Int32)).toNatClampNeg)) + x4).toNatClampNeg)), (4, v_I x4), (5, v_I (m_I M 15 (((4 : Int32) * (m_I M 39 ((m_I M 40 0) - (1 : Int32)).toNatClampNeg)) + x4).toNatClampNeg))]) X dX4_go_110 (by decide) rfl ?_
        refine a_iinc (y := x4 + (1 : Int32)) (lv' := [(0, v_R (some 5)), (1, v_I x1), (3, v_I (m_I M 15 (((4 : Int32) * (m_I M 39 ((m_I M 40 0) - (1 : Int32)).toNatClampNeg)) + x4).toNatClampNeg)), (4, v_I (x4 + (1 : Int32))), (5, v_I (m_I M 15 (((4 : Int32) * (m_I M 39 ((m_I M 40 0) - (1 : Int32)).toNatClampNeg)) + x4).toNatClampNeg))]) X dX4_go_111 rfl rfl (by decide) rfl ?_
        refine a_goto (tgt := 44) X dX4_go_114 (by decide) ?_
        refine a_pick (lv' := [(0, v_R (some 5)), (1, v_I x1), (3, v_I (m_I M 15 (((4 : Int32) * (m_I M 39 ((m_I M 40 0) - (1 : Int32)).toNatClampNeg)) + x4).toNatClampNeg)), (4, v_I (x4 + (1 : Int32)))]) [0, 1, 2, 3] rfl ?_
        exact hr_44 M x1 (m_I M 15 (((4 : Int32) * (m_I M 39 ((m_I M 40 0) - (1 : Int32)).toNatClampNeg)) + x4).toNatClampNeg) (x4 + (1 : Int32)) hm
def l_X4_go_44 (rec_19 : Msx → Int32 → Option (Msx)) (n : Nat) : Msx → Int32 → Int32 → Int32 → Option (Msx) := lp_ (fun rec_44 => j_X4_go_44 rec_19 rec_44) (fun _ _ _ _ => none) n
theorem ql_X4_go_44 {v : Evx} {g : Gvx} {h : Hpx} {M' : Msx} (X : Cx_ v g cX4_go 6 RX4 "go" (none) rm_X4_go) (hMR : MR_ h) (hF : Fi_ v g rm_X4_go (none) h M') (rec_19 : Msx → Int32 → Option (Msx)) (hr_19 : ∀ (M : Msx) (x1 : Int32), rec_19 M x1 = some M' → At_ v g 6 h M 0 0 19 [(0, v_R (some 5)), (1, v_I x1)] []) : ∀ (n : Nat) (M : Msx) (x1 : Int32) (x3 : Int32) (x4 : Int32), l_X4_go_44 rec_19 n M x1 x3 x4 = some M' → At_ v g 6 h M 0 0 44 [(0, v_R (some 5)), (1, v_I x1), (3, v_I x3), (4, v_I x4)] [] := by
  intro n
  induction n with
  | zero => intro M x1 x3 x4 hm; cases hm
  | succ n ih =>
    intro M x1 x3 x4 hm
    exact q_X4_go_44 X hMR hF rec_19 hr_19 (l_X4_go_44 rec_19 n) ih M x1 x3 x4 hm
def j_X4_go_19 (rec_19 : Msx → Int32 → Option (Msx)) (M : Msx) (x1 : Int32) : Option (Msx) :=
  (if in_b ((m_I M 40 0) - (1 : Int32)) 20 = true then
  (f_X4_doesName M (m_I M 39 ((m_I M 40 0) - (1 : Int32)).toNatClampNeg) x1).bind fun r28 =>
  (if r28 = 0 then
  l_X4_go_44 rec_19 70 M x1 (16 : Int32) (0 : Int32)
  else some M) else none)
set_option maxHeartbeats 4000000 in
theorem q_X4_go_19 {v : Evx} {g : Gvx} {h : Hpx} {M' : Msx} (X : Cx_ v g cX4_go 6 RX4 "go" (none) rm_X4_go) (hMR : MR_ h) (hF : Fi_ v g rm_X4_go (none) h M') (rec_19 : Msx → Int32 → Option (Msx)) (hr_19 : ∀ (M : Msx) (x1 : Int32), rec_19 M x1 = some M' → At_ v g 6 h M 0 0 19 [(0, v_R (some 5)), (1, v_I x1)] []) (M : Msx) (x1 : Int32) (hm : j_X4_go_19 rec_19 M x1 = some M') : At_ v g 6 h M 0 0 19 [(0, v_R (some 5)), (1, v_I x1)] [] := by
  unfold j_X4_go_19 at hm
  refine a_aload_n X dX4_go_19 rfl ?_
  refine a_aload_n X dX4_go_20 rfl ?_
  refine a_mgetA X hMR 39 (by decide) rfl rfl fl_X4_115 dX4_go_21 ?_
  refine a_aload_n X dX4_go_24 rfl ?_
  refine a_mgetI X hMR 40 (by decide) rfl fl_X4_153 dX4_go_25 ?_
  refine a_iconst (x := 1) X dX4_go_28 (by decide) ?_
  refine a_isub X dX4_go_29 ?_
  obtain ⟨b26, hm⟩ := i_c hm
  refine a_maldI X hMR 39 (by decide) rfl rfl rfl b26 dX4_go_30 ?_
  refine a_iload_n X dX4_go_31 rfl ?_
  obtain ⟨r28, q27, hm⟩ := i_b hm
  refine a_callV (k' := 0) (n' := 0) (st := []) X (c_X4_doesName hMR q27) yv_X4_doesName ml_X4_156 rfl (Or.inr (mr5_ hMR)) ⟨by decide, by decide, by decide, by decide, Nat.le_of_ble_eq_true rfl⟩ rfl rfl dX4_go_32 rfl rfl ?_
  show At_ v g 6 h M 0 0 35 [(0, v_R (some 5)), (1, v_I x1)] [v_I r28]
  refine a_if_ne (tgt := 140) X dX4_go_35 (by decide) hm (fun c29 hm => ?_) (fun c29 hm => ?_)
  · exact a_vret X hF ⟨rfl, Option.some.inj hm⟩ (by decide) dX4_go_140
  · refine a_bipush (x := 16) X dX4_go_38 (by decide) ?_
    refine a_istore_n (lv' := [(0, v_R (some 5)), (1, v_I x1), (3, v_I (16 : Int32))]) X dX4_go_40 (by decide) rfl ?_
    refine a_iconst (x := 0) X dX4_go_41 (by decide) ?_
    refine a_istore (lv' := [(0, v_R (some 5)), (1, v_I x1), (3, v_I (16 : Int32)), (4, v_I (0 : Int32))]) X dX4_go_42 (by decide) rfl ?_
    exact ql_X4_go_44 X hMR hF rec_19 hr_19 70 M x1 (16 : Int32) (0 : Int32) hm
def l_X4_go_19 (n : Nat) : Msx → Int32 → Option (Msx) := lp_ (fun rec_19 => j_X4_go_19 rec_19) (fun _ _ => none) n
theorem ql_X4_go_19 {v : Evx} {g : Gvx} {h : Hpx} {M' : Msx} (X : Cx_ v g cX4_go 6 RX4 "go" (none) rm_X4_go) (hMR : MR_ h) (hF : Fi_ v g rm_X4_go (none) h M') : ∀ (n : Nat) (M : Msx) (x1 : Int32), l_X4_go_19 n M x1 = some M' → At_ v g 6 h M 0 0 19 [(0, v_R (some 5)), (1, v_I x1)] [] := by
  intro n
  induction n with
  | zero => intro M x1 hm; cases hm
  | succ n ih =>
    intro M x1 hm
    exact q_X4_go_19 X hMR hF (l_X4_go_19 n) ih M x1 hm
def f_X4_go (M : Msx) (x1 : Int32) (x2 : Int32) : Option (Msx) :=
  (if in_b (0 : Int32) 20 = true then
  b_d (n_I M 39 (0 : Int32).toNatClampNeg x1) fun M22 =>
  (if in_b (1 : Int32) 20 = true then
  b_d (n_I M22 39 (1 : Int32).toNatClampNeg x2) fun M24 =>
  b_d (n_I M24 40 0 (2 : Int32)) fun M25 =>
  l_X4_go_19 70 M25 x1 else none) else none)
set_option maxHeartbeats 4000000 in
theorem q_X4_go_0 {v : Evx} {g : Gvx} {h : Hpx} {M' : Msx} (X : Cx_ v g cX4_go 6 RX4 "go" (none) rm_X4_go) (hMR : MR_ h) (hF : Fi_ v g rm_X4_go (none) h M') (M : Msx) (x1 : Int32) (x2 : Int32) (hm : f_X4_go M x1 x2 = some M') : At_ v g 6 h M 0 0 0 [(0, v_R (some 5)), (1, v_I x1), (2, v_I x2)] [] := by
  unfold f_X4_go at hm
  refine a_aload_n X dX4_go_0 rfl ?_
  refine a_mgetA X hMR 39 (by decide) rfl rfl fl_X4_115 dX4_go_1 ?_
  refine a_iconst (x := 0) X dX4_go_4 (by decide) ?_
  refine a_iload_n X dX4_go_5 rfl ?_
  obtain ⟨b21, hm⟩ := i_c hm
  obtain ⟨M22, eM22, hm⟩ := i_d hm
  refine a_mastI X hMR 39 (by decide) rfl rfl rfl b21 dX4_go_6 ?_
  rw [← eM22]
  refine a_aload_n X dX4_go_7 rfl ?_
  refine a_mgetA X hMR 39 (by decide) rfl rfl fl_X4_115 dX4_go_8 ?_
  refine a_iconst (x := 1) X dX4_go_11 (by decide) ?_
  refine a_iload_n X dX4_go_12 rfl ?_
  obtain ⟨b23, hm⟩ := i_c hm
  obtain ⟨M24, eM24, hm⟩ := i_d hm
  refine a_mastI X hMR 39 (by decide) rfl rfl rfl b23 dX4_go_13 ?_
  rw [← eM24]
  refine a_aload_n X dX4_go_14 rfl ?_
  refine a_iconst (x := 2) X dX4_go_15 (by decide) ?_
  obtain ⟨M25, eM25, hm⟩ := i_d hm
  refine a_mputI X hMR 40 (by decide) rfl rfl rfl rfl fl_X4_153 dX4_go_16 ?_
  rw [← eM25]
  refine a_pick (lv' := [(0, v_R (some 5)), (1, v_I x1)]) [0, 1] rfl ?_
  exact ql_X4_go_19 X hMR hF 70 M25 x1 hm
theorem c_X4_go {l : Launch} {g : Gvx} {h : Hpx} {M : Msx} {M' : Msx} {x1 : Int32} {x2 : Int32} (hMR : MR_ h) (hm : f_X4_go M x1 x2 = some M') : Mt_ l g yX4_go cX4_go 6 (none) rm_X4_go [v_R (some 5), v_I x1, v_I x2] h M (none) h M' := mt_of (by decide) (Nat.le_of_ble_eq_true rfl) (fun v _ X hF => q_X4_go_0 X hMR hF M x1 x2 hm)
theorem yv_X4_go : Yv_ yX4_go cX4_go 6 (none) 2 4 := ⟨rfl, by decide, ⟨by decide, by decide, by decide +kernel⟩, co_X4_go, im_X4_go, se_X4_go, ini_X4⟩

abbrev rm_X4_name : Room := { frames := 2, cells := 0, slots := 0, locals := 49 }
def j_X4_name_50 (M : Msx) (x1 : Int32) (x2 : Int32) : Option (Msx × Int32) :=
  (if in_b ((4 : Int32) * x1) 64 = true then
  (f_X4_index M x2 (m_I M 12 ((4 : Int32) * x1).toNatClampNeg)).bind fun r33 =>
  (if 0 ≤ r33 then
  (if x2 = x1 then
  some (M, (-5 : Int32))
  else (f_X4_doesName M x1 x2).bind fun r37 =>
  (if r37 = 0 then
  (if in_b x1 16 = true then
  (if (m_I M 16 x1.toNatClampNeg) = (4 : Int32) then
  some (M, (-4 : Int32))
  else (f_X4_reach M x1).bind fun M42 =>
  (if in_b x2 16 = true then
  (if (m_I M42 41 x2.toNatClampNeg) = 0 then
  (if in_b (((4 : Int32) * x1) + (m_I M42 16 x1.toNatClampNeg)) 64 = true then
  b_d (n_I M42 15 (((4 : Int32) * x1) + (m_I M42 16 x1.toNatClampNeg)).toNatClampNeg x2) fun M46 =>
  b_d (n_I M46 16 x1.toNatClampNeg ((m_I M46 16 x1.toNatClampNeg) + (1 : Int32))) fun M47 =>
  some (M47, (1 : Int32)) else none)
  else (f_X4_go M42 x1 x2).bind fun M49 =>
  some (M49, (-6 : Int32))) else none)) else none)
  else some (M, (-5 : Int32))))
  else some (M, (-3 : Int32))) else none)
set_option maxHeartbeats 4000000 in
theorem q_X4_name_50 {v : Evx} {g : Gvx} {h : Hpx} {M' : Msx} {r : Int32} (X : Cx_ v g cX4_name 3 RX4 "name" ((some .int)) rm_X4_name) (hMR : MR_ h) (hF : Fi_ v g rm_X4_name (some (v_I r)) h M') (M : Msx) (x1 : Int32) (x2 : Int32) (hm : j_X4_name_50 M x1 x2 = some (M', r)) : At_ v g 3 h M 0 0 50 [(0, v_R (some 5)), (1, v_I x1), (2, v_I x2)] [] := by
  unfold j_X4_name_50 at hm
  refine a_aload_n X dX4_name_50 rfl ?_
  refine a_iload_n X dX4_name_51 rfl ?_
  refine a_aload_n X dX4_name_52 rfl ?_
  refine a_mgetA X hMR 12 (by decide) rfl rfl fl_X4_42 dX4_name_53 ?_
  refine a_iconst (x := 4) X dX4_name_56 (by decide) ?_
  refine a_iload_n X dX4_name_57 rfl ?_
  refine a_imul X dX4_name_58 ?_
  obtain ⟨b31, hm⟩ := i_c hm
  refine a_maldI X hMR 12 (by decide) rfl rfl rfl b31 dX4_name_59 ?_
  obtain ⟨r33, q32, hm⟩ := i_b hm
  refine a_callV (k' := 0) (n' := 0) (st := []) X (c_X4_index hMR q32) yv_X4_index ml_X4_127 rfl (Or.inr (mr5_ hMR)) ⟨by decide, by decide, by decide, by decide, Nat.le_of_ble_eq_true rfl⟩ rfl rfl dX4_name_60 rfl rfl ?_
  show At_ v g 3 h M 0 0 63 [(0, v_R (some 5)), (1, v_I x1), (2, v_I x2)] [v_I r33]
  refine a_if_ge (tgt := 69) X dX4_name_63 (by decide) hm (fun c34 hm => ?_) (fun c34 hm => ?_)
  · refine a_iload_n X dX4_name_69 rfl ?_
    refine a_iload_n X dX4_name_70 rfl ?_
    refine a_icmp_eq (tgt := 83) X dX4_name_71 (by decide) hm (fun c35 hm => ?_) (fun c35 hm => ?_)
    · refine a_bipush (x := -5) X dX4_name_83 (by decide) ?_
      exact a_iret X hF ⟨rfl, (Prod.mk.inj (Option.some.inj hm)).1, (Prod.mk.inj (Option.some.inj hm)).2⟩ (by decide) dX4_name_85
    · refine a_aload_n X dX4_name_74 rfl ?_
      refine a_iload_n X dX4_name_75 rfl ?_
      refine a_iload_n X dX4_name_76 rfl ?_
      obtain ⟨r37, q36, hm⟩ := i_b hm
      refine a_callV (k' := 0) (n' := 0) (st := []) X (c_X4_doesName hMR q36) yv_X4_doesName ml_X4_156 rfl (Or.inr (mr5_ hMR)) ⟨by decide, by decide, by decide, by decide, Nat.le_of_ble_eq_true rfl⟩ rfl rfl dX4_name_77 rfl rfl ?_
      show At_ v g 3 h M 0 0 80 [(0, v_R (some 5)), (1, v_I x1), (2, v_I x2)] [v_I r37]
      refine a_if_eq (tgt := 86) X dX4_name_80 (by decide) hm (fun c38 hm => ?_) (fun c38 hm => ?_)
      · refine a_aload_n X dX4_name_86 rfl ?_
        refine a_mgetA X hMR 16 (by decide) rfl rfl fl_X4_54 dX4_name_87 ?_
        refine a_iload_n X dX4_name_90 rfl ?_
        obtain ⟨b39, hm⟩ := i_c hm
        refine a_maldI X hMR 16 (by decide) rfl rfl rfl b39 dX4_name_91 ?_
        refine a_iconst (x := 4) X dX4_name_92 (by decide) ?_
        refine a_icmp_ne (tgt := 99) X dX4_name_93 (by decide) hm (fun c40 hm => ?_) (fun c40 hm => ?_)
        · refine a_aload_n X dX4_name_99 rfl ?_
          refine a_iload_n X dX4_name_100 rfl ?_
          obtain ⟨M42, q41, hm⟩ := i_b hm
          refine a_callV (k' := 0) (n' := 0) (st := []) X (c_X4_reach hMR q41) yv_X4_reach ml_X4_160 rfl (Or.inr (mr5_ hMR)) ⟨by decide, by decide, by decide, by decide, Nat.le_of_ble_eq_true rfl⟩ rfl rfl dX4_name_101 rfl rfl ?_
          show At_ v g 3 h M42 0 0 104 [(0, v_R (some 5)), (1, v_I x1), (2, v_I x2)] []
          refine a_aload_n X dX4_name_104 rfl ?_
          refine a_mgetA X hMR 41 (by decide) rfl rfl fl_X4_118 dX4_name_105 ?_
          refine a_iload_n X dX4_name_108 rfl ?_
          obtain ⟨b43, hm⟩ := i_c hm
          refine a_maldZ X hMR 41 (by decide) rfl rfl rfl b43 dX4_name_109 ?_
          refine a_if_eq (tgt := 122) X dX4_name_110 (by decide) hm (fun c44 hm => ?_) (fun c44 hm => ?_)
          · refine a_aload_n X dX4_name_122 rfl ?_
            refine a_mgetA X hMR 15 (by decide) rfl rfl fl_X4_51 dX4_name_123 ?_
            refine a_iconst (x := 4) X dX4_name_126 (by decide) ?_
            refine a_iload_n X dX4_name_127 rfl ?_
            refine a_imul X dX4_name_128 ?_
            refine a_aload_n X dX4_name_129 rfl ?_
            refine a_mgetA X hMR 16 (by decide) rfl rfl fl_X4_54 dX4_name_130 ?_
            refine a_iload_n X dX4_name_133 rfl ?_
            refine a_maldI X hMR 16 (by decide) rfl rfl rfl b39 dX4_name_134 ?_
            refine a_iadd X dX4_name_135 ?_
            refine a_iload_n X dX4_name_136 rfl ?_
            obtain ⟨b45, hm⟩ := i_c hm
            obtain ⟨M46, eM46, hm⟩ := i_d hm
            refine a_mastI X hMR 15 (by decide) rfl rfl rfl b45 dX4_name_137 ?_
            rw [← eM46]
            refine a_aload_n X dX4_name_138 rfl ?_
            refine a_mgetA X hMR 16 (by decide) rfl rfl fl_X4_54 dX4_name_139 ?_
            refine a_iload_n X dX4_name_142 rfl ?_
            refine a_dup2 X dX4_name_143 rfl rfl ?_
            refine a_maldI X hMR 16 (by decide) rfl rfl rfl b39 dX4_name_144 ?_
            refine a_iconst (x := 1) X dX4_name_145 (by decide) ?_
            refine a_iadd X dX4_name_146 ?_
            obtain ⟨M47, eM47, hm⟩ := i_d hm
            refine a_mastI X hMR 16 (by decide) rfl rfl rfl b39 dX4_name_147 ?_
            rw [← eM47]
            refine a_iconst (x := 1) X dX4_name_148 (by decide) ?_
            exact a_iret X hF ⟨rfl, (Prod.mk.inj (Option.some.inj hm)).1, (Prod.mk.inj (Option.some.inj hm)).2⟩ (by decide) dX4_name_149
          · refine a_aload_n X dX4_name_113 rfl ?_
            refine a_iload_n X dX4_name_114 rfl ?_
            refine a_iload_n X dX4_name_115 rfl ?_
            obtain ⟨M49, q48, hm⟩ := i_b hm
            refine a_callV (k' := 0) (n' := 0) (st := []) X (c_X4_go hMR q48) yv_X4_go ml_X4_164 rfl (Or.inr (mr5_ hMR)) ⟨by decide, by decide, by decide, by decide, Nat.le_of_ble_eq_true rfl⟩ rfl rfl dX4_name_116 rfl rfl ?_
            show At_ v g 3 h M49 0 0 119 [(0, v_R (some 5)), (1, v_I x1), (2, v_I x2)] []
            refine a_bipush (x := -6) X dX4_name_119 (by decide) ?_
            exact a_iret X hF ⟨rfl, (Prod.mk.inj (Option.some.inj hm)).1, (Prod.mk.inj (Option.some.inj hm)).2⟩ (by decide) dX4_name_121
        · refine a_bipush (x := -4) X dX4_name_96 (by decide) ?_
          exact a_iret X hF ⟨rfl, (Prod.mk.inj (Option.some.inj hm)).1, (Prod.mk.inj (Option.some.inj hm)).2⟩ (by decide) dX4_name_98
      · refine a_bipush (x := -5) X dX4_name_83 (by decide) ?_
        exact a_iret X hF ⟨rfl, (Prod.mk.inj (Option.some.inj hm)).1, (Prod.mk.inj (Option.some.inj hm)).2⟩ (by decide) dX4_name_85
  · refine a_bipush (x := -3) X dX4_name_66 (by decide) ?_
    exact a_iret X hF ⟨rfl, (Prod.mk.inj (Option.some.inj hm)).1, (Prod.mk.inj (Option.some.inj hm)).2⟩ (by decide) dX4_name_68
def f_X4_name (M : Msx) (x1 : Int32) (x2 : Int32) : Option (Msx × Int32) :=
  (f_X4_isReader M x1).bind fun r22 =>
  (if r22 = 0 then
  some (M, (-1 : Int32))
  else (f_X4_isReader M x2).bind fun r25 =>
  (if r25 = 0 then
  some (M, (-1 : Int32))
  else (if (m_I M 34 0) = 0 then
  (if in_b x1 16 = true then
  (if (m_I M 11 x1.toNatClampNeg) = (6 : Int32) then
  j_X4_name_50 M x1 x2
  else (if (m_I M 11 x1.toNatClampNeg) = (7 : Int32) then
  j_X4_name_50 M x1 x2
  else some (M, (-3 : Int32)))) else none)
  else some (M, (-2 : Int32)))))
set_option maxHeartbeats 4000000 in
theorem q_X4_name_0 {v : Evx} {g : Gvx} {h : Hpx} {M' : Msx} {r : Int32} (X : Cx_ v g cX4_name 3 RX4 "name" ((some .int)) rm_X4_name) (hMR : MR_ h) (hF : Fi_ v g rm_X4_name (some (v_I r)) h M') (M : Msx) (x1 : Int32) (x2 : Int32) (hm : f_X4_name M x1 x2 = some (M', r)) : At_ v g 3 h M 0 0 0 [(0, v_R (some 5)), (1, v_I x1), (2, v_I x2)] [] := by
  unfold f_X4_name at hm
  refine a_aload_n X dX4_name_0 rfl ?_
  refine a_iload_n X dX4_name_1 rfl ?_
  obtain ⟨r22, q21, hm⟩ := i_b hm
  refine a_callV (k' := 0) (n' := 0) (st := []) X (c_X4_isReader hMR q21) yv_X4_isReader ml_X4_146 rfl (Or.inr (mr5_ hMR)) ⟨by decide, by decide, by decide, by decide, Nat.le_of_ble_eq_true rfl⟩ rfl rfl dX4_name_2 rfl rfl ?_
  show At_ v g 3 h M 0 0 5 [(0, v_R (some 5)), (1, v_I x1), (2, v_I x2)] [v_I r22]
  refine a_if_eq (tgt := 16) X dX4_name_5 (by decide) hm (fun c23 hm => ?_) (fun c23 hm => ?_)
  · refine a_iconst (x := -1) X dX4_name_16 (by decide) ?_
    exact a_iret X hF ⟨rfl, (Prod.mk.inj (Option.some.inj hm)).1, (Prod.mk.inj (Option.some.inj hm)).2⟩ (by decide) dX4_name_17
  · refine a_aload_n X dX4_name_8 rfl ?_
    refine a_iload_n X dX4_name_9 rfl ?_
    obtain ⟨r25, q24, hm⟩ := i_b hm
    refine a_callV (k' := 0) (n' := 0) (st := []) X (c_X4_isReader hMR q24) yv_X4_isReader ml_X4_146 rfl (Or.inr (mr5_ hMR)) ⟨by decide, by decide, by decide, by decide, Nat.le_of_ble_eq_true rfl⟩ rfl rfl dX4_name_10 rfl rfl ?_
    show At_ v g 3 h M 0 0 13 [(0, v_R (some 5)), (1, v_I x1), (2, v_I x2)] [v_I r25]
    refine a_if_ne (tgt := 18) X dX4_name_13 (by decide) hm (fun c26 hm => ?_) (fun c26 hm => ?_)
    · refine a_aload_n X dX4_name_18 rfl ?_
      refine a_mgetI X hMR 34 (by decide) rfl fl_X4_135 dX4_name_19 ?_
      refine a_if_eq (tgt := 28) X dX4_name_22 (by decide) hm (fun c27 hm => ?_) (fun c27 hm => ?_)
      · refine a_aload_n X dX4_name_28 rfl ?_
        refine a_mgetA X hMR 11 (by decide) rfl rfl fl_X4_39 dX4_name_29 ?_
        refine a_iload_n X dX4_name_32 rfl ?_
        obtain ⟨b28, hm⟩ := i_c hm
        refine a_maldI X hMR 11 (by decide) rfl rfl rfl b28 dX4_name_33 ?_
        refine a_bipush (x := 6) X dX4_name_34 (by decide) ?_
        refine a_icmp_eq (tgt := 50) X dX4_name_36 (by decide) hm (fun c29 hm => ?_) (fun c29 hm => ?_)
        · exact q_X4_name_50 X hMR hF M x1 x2 hm
        · refine a_aload_n X dX4_name_39 rfl ?_
          refine a_mgetA X hMR 11 (by decide) rfl rfl fl_X4_39 dX4_name_40 ?_
          refine a_iload_n X dX4_name_43 rfl ?_
          refine a_maldI X hMR 11 (by decide) rfl rfl rfl b28 dX4_name_44 ?_
          refine a_bipush (x := 7) X dX4_name_45 (by decide) ?_
          refine a_icmp_ne (tgt := 66) X dX4_name_47 (by decide) hm (fun c30 hm => ?_) (fun c30 hm => ?_)
          · refine a_bipush (x := -3) X dX4_name_66 (by decide) ?_
            exact a_iret X hF ⟨rfl, (Prod.mk.inj (Option.some.inj hm)).1, (Prod.mk.inj (Option.some.inj hm)).2⟩ (by decide) dX4_name_68
          · exact q_X4_name_50 X hMR hF M x1 x2 hm
      · refine a_bipush (x := -2) X dX4_name_25 (by decide) ?_
        exact a_iret X hF ⟨rfl, (Prod.mk.inj (Option.some.inj hm)).1, (Prod.mk.inj (Option.some.inj hm)).2⟩ (by decide) dX4_name_27
    · refine a_iconst (x := -1) X dX4_name_16 (by decide) ?_
      exact a_iret X hF ⟨rfl, (Prod.mk.inj (Option.some.inj hm)).1, (Prod.mk.inj (Option.some.inj hm)).2⟩ (by decide) dX4_name_17
theorem c_X4_name {l : Launch} {g : Gvx} {h : Hpx} {M : Msx} {M' : Msx} {r : Int32} {x1 : Int32} {x2 : Int32} (hMR : MR_ h) (hm : f_X4_name M x1 x2 = some (M', r)) : Mt_ l g yX4_name cX4_name 3 ((some .int)) rm_X4_name [v_R (some 5), v_I x1, v_I x2] h M (some (v_I r)) h M' := mt_of (by decide) (Nat.le_of_ble_eq_true rfl) (fun v _ X hF => q_X4_name_0 X hMR hF M x1 x2 hm)
theorem yv_X4_name : Yv_ yX4_name cX4_name 3 ((some .int)) 2 4 := ⟨rfl, by decide, ⟨by decide, by decide, by decide +kernel⟩, co_X4_name, im_X4_name, se_X4_name, ini_X4⟩

abbrev rm_X4_circle : Room := { frames := 0, cells := 0, slots := 0, locals := 0 }
def j_X4_circle_12 (M : Msx) : Option (Int32) :=
  some (-1 : Int32)
set_option maxHeartbeats 4000000 in
theorem q_X4_circle_12 {v : Evx} {g : Gvx} {h : Hpx} {r : Int32} (X : Cx_ v g cX4_circle 2 RX4 "circle" ((some .int)) rm_X4_circle) (hMR : MR_ h) (M : Msx) (hF : Fi_ v g rm_X4_circle (some (v_I r)) h M) (hm : j_X4_circle_12 M  = some r) : At_ v g 2 h M 0 0 12 [(0, v_R (some 5))] [] := by
  unfold j_X4_circle_12 at hm
  refine a_iconst (x := -1) X dX4_circle_12 (by decide) ?_
  refine a_goto (tgt := 22) X dX4_circle_13 (by decide) ?_
  exact a_iret X hF ⟨rfl, rfl, Option.some.inj hm⟩ (by decide) dX4_circle_22
def f_X4_circle (M : Msx) (x1 : Int32) : Option (Int32) :=
  (if x1 < 0 then
  j_X4_circle_12 M 
  else (if x1 < (m_I M 40 0) then
  (if in_b x1 20 = true then
  some (m_I M 39 x1.toNatClampNeg) else none)
  else j_X4_circle_12 M ))
set_option maxHeartbeats 4000000 in
theorem q_X4_circle_0 {v : Evx} {g : Gvx} {h : Hpx} {r : Int32} (X : Cx_ v g cX4_circle 2 RX4 "circle" ((some .int)) rm_X4_circle) (hMR : MR_ h) (M : Msx) (hF : Fi_ v g rm_X4_circle (some (v_I r)) h M) (x1 : Int32) (hm : f_X4_circle M x1 = some r) : At_ v g 2 h M 0 0 0 [(0, v_R (some 5)), (1, v_I x1)] [] := by
  unfold f_X4_circle at hm
  refine a_iload_n X dX4_circle_0 rfl ?_
  refine a_if_lt (tgt := 12) X dX4_circle_1 (by decide) hm (fun c21 hm => ?_) (fun c21 hm => ?_)
  · refine a_pick (lv' := [(0, v_R (some 5))]) [0] rfl ?_
    exact q_X4_circle_12 X hMR M hF  hm
  · refine a_iload_n X dX4_circle_4 rfl ?_
    refine a_aload_n X dX4_circle_5 rfl ?_
    refine a_mgetI X hMR 40 (by decide) rfl fl_X4_153 dX4_circle_6 ?_
    refine a_icmp_lt (tgt := 16) X dX4_circle_9 (by decide) hm (fun c22 hm => ?_) (fun c22 hm => ?_)
    · refine a_aload_n X dX4_circle_16 rfl ?_
      refine a_mgetA X hMR 39 (by decide) rfl rfl fl_X4_115 dX4_circle_17 ?_
      refine a_iload_n X dX4_circle_20 rfl ?_
      obtain ⟨b23, hm⟩ := i_c hm
      refine a_maldI X hMR 39 (by decide) rfl rfl rfl b23 dX4_circle_21 ?_
      exact a_iret X hF ⟨rfl, rfl, Option.some.inj hm⟩ (by decide) dX4_circle_22
    · refine a_pick (lv' := [(0, v_R (some 5))]) [0] rfl ?_
      exact q_X4_circle_12 X hMR M hF  hm
theorem c_X4_circle {l : Launch} {g : Gvx} {h : Hpx} {M : Msx} {r : Int32} {x1 : Int32} (hMR : MR_ h) (hm : f_X4_circle M x1 = some r) : Mt_ l g yX4_circle cX4_circle 2 ((some .int)) rm_X4_circle [v_R (some 5), v_I x1] h M (some (v_I r)) h M := mt_of (by decide) (Nat.le_of_ble_eq_true rfl) (fun v _ X hF => q_X4_circle_0 X hMR M hF x1 hm)
theorem yv_X4_circle : Yv_ yX4_circle cX4_circle 2 ((some .int)) 1 4 := ⟨rfl, by decide, ⟨by decide, by decide, by decide +kernel⟩, co_X4_circle, im_X4_circle, se_X4_circle, ini_X4⟩

abbrev rm_X4_begin : Room := { frames := 0, cells := 0, slots := 0, locals := 0 }
def f_X4_begin (M : Msx) : Option (Msx × Int32) :=
  (if (m_I M 34 0) = 0 then
  b_d (n_I M 34 0 (1 : Int32)) fun M22 =>
  some (M22, (1 : Int32))
  else some (M, (-2 : Int32)))
set_option maxHeartbeats 4000000 in
theorem q_X4_begin_0 {v : Evx} {g : Gvx} {h : Hpx} {M' : Msx} {r : Int32} (X : Cx_ v g cX4_begin 1 RX4 "begin" ((some .int)) rm_X4_begin) (hMR : MR_ h) (hF : Fi_ v g rm_X4_begin (some (v_I r)) h M') (M : Msx) (hm : f_X4_begin M = some (M', r)) : At_ v g 1 h M 0 0 0 [(0, v_R (some 5))] [] := by
  unfold f_X4_begin at hm
  refine a_aload_n X dX4_begin_0 rfl ?_
  refine a_mgetI X hMR 34 (by decide) rfl fl_X4_135 dX4_begin_1 ?_
  refine a_if_eq (tgt := 10) X dX4_begin_4 (by decide) hm (fun c21 hm => ?_) (fun c21 hm => ?_)
  · refine a_aload_n X dX4_begin_10 rfl ?_
    refine a_iconst (x := 1) X dX4_begin_11 (by decide) ?_
    obtain ⟨M22, eM22, hm⟩ := i_d hm
    refine a_mputI X hMR 34 (by decide) rfl rfl rfl rfl fl_X4_135 dX4_begin_12 ?_
    rw [← eM22]
    refine a_iconst (x := 1) X dX4_begin_15 (by decide) ?_
    exact a_iret X hF ⟨rfl, (Prod.mk.inj (Option.some.inj hm)).1, (Prod.mk.inj (Option.some.inj hm)).2⟩ (by decide) dX4_begin_16
  · refine a_bipush (x := -2) X dX4_begin_7 (by decide) ?_
    exact a_iret X hF ⟨rfl, (Prod.mk.inj (Option.some.inj hm)).1, (Prod.mk.inj (Option.some.inj hm)).2⟩ (by decide) dX4_begin_9
theorem c_X4_begin {l : Launch} {g : Gvx} {h : Hpx} {M : Msx} {M' : Msx} {r : Int32} (hMR : MR_ h) (hm : f_X4_begin M = some (M', r)) : Mt_ l g yX4_begin cX4_begin 1 ((some .int)) rm_X4_begin [v_R (some 5)] h M (some (v_I r)) h M' := mt_of (by decide) (Nat.le_of_ble_eq_true rfl) (fun v _ X hF => q_X4_begin_0 X hMR hF M hm)
theorem yv_X4_begin : Yv_ yX4_begin cX4_begin 1 ((some .int)) 0 4 := ⟨rfl, by decide, ⟨by decide, by decide, by decide +kernel⟩, co_X4_begin, im_X4_begin, se_X4_begin, ini_X4⟩

abbrev rm_X4_made : Room := { frames := 0, cells := 0, slots := 0, locals := 0 }
def f_X4_made (M : Msx) : Option (Int32) :=
  some (m_I M 35 0)
set_option maxHeartbeats 4000000 in
theorem q_X4_made_0 {v : Evx} {g : Gvx} {h : Hpx} {r : Int32} (X : Cx_ v g cX4_made 1 RX4 "made" ((some .int)) rm_X4_made) (hMR : MR_ h) (M : Msx) (hF : Fi_ v g rm_X4_made (some (v_I r)) h M) (hm : f_X4_made M = some r) : At_ v g 1 h M 0 0 0 [(0, v_R (some 5))] [] := by
  unfold f_X4_made at hm
  refine a_aload_n X dX4_made_0 rfl ?_
  refine a_mgetI X hMR 35 (by decide) rfl fl_X4_139 dX4_made_1 ?_
  exact a_iret X hF ⟨rfl, rfl, Option.some.inj hm⟩ (by decide) dX4_made_4
theorem c_X4_made {l : Launch} {g : Gvx} {h : Hpx} {M : Msx} {r : Int32} (hMR : MR_ h) (hm : f_X4_made M = some r) : Mt_ l g yX4_made cX4_made 1 ((some .int)) rm_X4_made [v_R (some 5)] h M (some (v_I r)) h M := mt_of (by decide) (Nat.le_of_ble_eq_true rfl) (fun v _ X hF => q_X4_made_0 X hMR M hF hm)
theorem yv_X4_made : Yv_ yX4_made cX4_made 1 ((some .int)) 0 4 := ⟨rfl, by decide, ⟨by decide, by decide, by decide +kernel⟩, co_X4_made, im_X4_made, se_X4_made, ini_X4⟩

abbrev rm_X4_slot : Room := { frames := 0, cells := 0, slots := 0, locals := 0 }
def f_X4_slot (M : Msx) (x1 : Int32) (x2 : Int32) : Option (Int32) :=
  (if in_b x1 8 = true then
  (if ¬ (m_I M 1 x1.toNatClampNeg) = 0 then
  some (((64 : Int32) * x1) + (x2 - x2 / (m_I M 1 x1.toNatClampNeg) * (m_I M 1 x1.toNatClampNeg))) else none) else none)
set_option maxHeartbeats 4000000 in
theorem q_X4_slot_0 {v : Evx} {g : Gvx} {h : Hpx} {r : Int32} (X : Cx_ v g cX4_slot 3 RX4 "slot" ((some .int)) rm_X4_slot) (hMR : MR_ h) (M : Msx) (hF : Fi_ v g rm_X4_slot (some (v_I r)) h M) (x1 : Int32) (x2 : Int32) (hm : f_X4_slot M x1 x2 = some r) : At_ v g 3 h M 0 0 0 [(0, v_R (some 5)), (1, v_I x1), (2, v_I x2)] [] := by
  unfold f_X4_slot at hm
  refine a_bipush (x := 64) X dX4_slot_0 (by decide) ?_
  refine a_iload_n X dX4_slot_2 rfl ?_
  refine a_imul X dX4_slot_3 ?_
  refine a_iload_n X dX4_slot_4 rfl ?_
  refine a_aload_n X dX4_slot_5 rfl ?_
  refine a_mgetA X hMR 1 (by decide) rfl rfl fl_X4_7 dX4_slot_6 ?_
  refine a_iload_n X dX4_slot_9 rfl ?_
  obtain ⟨b21, hm⟩ := i_c hm
  refine a_maldI X hMR 1 (by decide) rfl rfl rfl b21 dX4_slot_10 ?_
  obtain ⟨b22, hm⟩ := i_c hm
  refine a_irem X dX4_slot_11 b22 ?_
  refine a_iadd X dX4_slot_12 ?_
  exact a_iret X hF ⟨rfl, rfl, Option.some.inj hm⟩ (by decide) dX4_slot_13
theorem c_X4_slot {l : Launch} {g : Gvx} {h : Hpx} {M : Msx} {r : Int32} {x1 : Int32} {x2 : Int32} (hMR : MR_ h) (hm : f_X4_slot M x1 x2 = some r) : Mt_ l g yX4_slot cX4_slot 3 ((some .int)) rm_X4_slot [v_R (some 5), v_I x1, v_I x2] h M (some (v_I r)) h M := mt_of (by decide) (Nat.le_of_ble_eq_true rfl) (fun v _ X hF => q_X4_slot_0 X hMR M hF x1 x2 hm)
theorem yv_X4_slot : Yv_ yX4_slot cX4_slot 3 ((some .int)) 2 4 := ⟨rfl, by decide, ⟨by decide, by decide, by decide +kernel⟩, co_X4_slot, im_X4_slot, se_X4_slot, ini_X4⟩
