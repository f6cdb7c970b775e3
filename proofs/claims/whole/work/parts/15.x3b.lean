abbrev rm_X3_refusalOfClaims : Room := { frames := 3, cells := 0, slots := 0, locals := 69 }
def j_X3_refusalOfClaims_73 (a0 : Nat) (rec_73 : Hpx → Option Nat → Int32 → Int32 → Option (Hpx × Int32)) (h : Hpx) (x1 : Option Nat) (x4 : Int32) (x5 : Int32) : Option (Hpx × Int32) :=
  (if x4 ≤ x5 then
  some (h, (0 : Int32))
  else (if (64 : Int32) ≤ x5 then
  some (h, (0 : Int32))
  else x1.bind fun a34 =>
  (if h_k h a34 = 3 then
  (if h_k h a0 = 4 then
  (f_X3_isHeldUp h a0 x1 ((h_I h a34 3) + x5)).bind fun r38 =>
  (if r38 = 0 then
  rec_73 h x1 x4 (x5 + (1 : Int32))
  else (f_X3_holderUpTo h a0 x1 (((h_I h a34 3) + x5) - (h_I h a34 1))).bind fun r41 =>
  b_d (s_I h a0 10 r41) fun h42 =>
  some (h42, (-10 : Int32))) else none) else none)))
set_option maxHeartbeats 4000000 in
theorem q_X3_refusalOfClaims_73 {v : Evx} {g : Gvx} {M : Msx} {h' : Hpx} {r : Int32} (X : Cx_ v g cX3_refusalOfClaims 6 RX3 "refusalOfClaims" ((some .int)) rm_X3_refusalOfClaims) (a0 : Nat) (hF : Fi_ v g rm_X3_refusalOfClaims (some (v_I r)) h' M) (rec_73 : Hpx → Option Nat → Int32 → Int32 → Option (Hpx × Int32)) (hr_73 : ∀ (h : Hpx) (x1 : Option Nat) (x4 : Int32) (x5 : Int32), rec_73 h x1 x4 x5 = some (h', r) → At_ v g 6 h M 0 0 73 [(0, v_R (some a0)), (1, v_R x1), (4, v_I x4), (5, v_I x5)] []) (h : Hpx) (x1 : Option Nat) (x4 : Int32) (x5 : Int32) (hm : j_X3_refusalOfClaims_73 a0 rec_73 h x1 x4 x5 = some (h', r)) : At_ v g 6 h M 0 0 73 [(0, v_R (some a0)), (1, v_R x1), (4, v_I x4), (5, v_I x5)] [] := by
  unfold j_X3_refusalOfClaims_73 at hm
  refine a_iload X dX3_refusalOfClaims_73 rfl ?_
  refine a_iload X dX3_refusalOfClaims_75 rfl ?_
  refine a_icmp_ge (tgt := 132) X dX3_refusalOfClaims_77 (by decide) hm (fun c32 hm => ?_) (fun c32 hm => ?_)
  · refine a_iconst (x := 0) X dX3_refusalOfClaims_132 (by decide) ?_
    exact a_iret X hF ⟨(Prod.mk.inj (Option.some.inj hm)).1, rfl, (Prod.mk.inj (Option.some.inj hm)).2⟩ (by decide) dX3_refusalOfClaims_133
  · refine a_iload X dX3_refusalOfClaims_80 rfl ?_
    refine a_bipush (x := 64) X dX3_refusalOfClaims_82 (by decide) ?_
    refine a_icmp_ge (tgt := 132) X dX3_refusalOfClaims_84 (by decide) hm (fun c33 hm => ?_) (fun c33 hm => ?_)
    · refine a_iconst (x := 0) X dX3_refusalOfClaims_132 (by decide) ?_
      exact a_iret X hF ⟨(Prod.mk.inj (Option.some.inj hm)).1, rfl, (Prod.mk.inj (Option.some.inj hm)).2⟩ (by decide) dX3_refusalOfClaims_133
    · refine a_aload_n X dX3_refusalOfClaims_87 rfl ?_
      refine a_aload_n X dX3_refusalOfClaims_88 rfl ?_
      refine a_aload_n X dX3_refusalOfClaims_89 rfl ?_
      obtain ⟨a34, ea34, hm⟩ := i_b hm
      obtain ⟨k35, hm⟩ := i_c hm
      refine a_getI X 2 3 ea34 k35 (by decide) rfl fl_X3_162 dX3_refusalOfClaims_90 ?_
      refine a_iload X dX3_refusalOfClaims_93 rfl ?_
      refine a_iadd X dX3_refusalOfClaims_95 ?_
      obtain ⟨k36, hm⟩ := i_c hm
      obtain ⟨r38, q37, hm⟩ := i_b hm
      refine a_callV (k' := 0) (n' := 0) (st := []) X (c_X3_isHeldUp q37) yv_X3_isHeldUp ml_X3_179 rfl (Or.inl k36) ⟨by decide, by decide, by decide, by decide, Nat.le_of_ble_eq_true rfl⟩ rfl rfl dX3_refusalOfClaims_96 rfl rfl ?_
      show At_ v g 6 h M 0 0 99 [(0, v_R (some a0)), (1, v_R x1), (4, v_I x4), (5, v_I x5)] [v_I r38]
      refine a_if_eq (tgt := 126) X dX3_refusalOfClaims_99 (by decide) hm (fun c39 hm => ?_) (fun c39 hm => ?_)
      · refine a_iinc (y := x5 + (1 : Int32)) (lv' := [(0, v_R (some a0)), (1, v_R x1), (4, v_I x4), (5, v_I (x5 + (1 : Int32)))]) X dX3_refusalOfClaims_126 rfl rfl (by decide) rfl ?_
        refine a_goto (tgt := 73) X dX3_refusalOfClaims_129 (by decide) ?_
        exact hr_73 h x1 x4 (x5 + (1 : Int32)) hm
      · refine a_aload_n X dX3_refusalOfClaims_102 rfl ?_
        refine a_aload_n X dX3_refusalOfClaims_103 rfl ?_
        refine a_aload_n X dX3_refusalOfClaims_104 rfl ?_
        refine a_aload_n X dX3_refusalOfClaims_105 rfl ?_
        refine a_getI X 2 3 ea34 k35 (by decide) rfl fl_X3_162 dX3_refusalOfClaims_106 ?_
        refine a_iload X dX3_refusalOfClaims_109 rfl ?_
        refine a_iadd X dX3_refusalOfClaims_111 ?_
        refine a_aload_n X dX3_refusalOfClaims_112 rfl ?_
        refine a_getI X 2 1 ea34 k35 (by decide) rfl fl_X3_169 dX3_refusalOfClaims_113 ?_
        refine a_isub X dX3_refusalOfClaims_116 ?_
        obtain ⟨r41, q40, hm⟩ := i_b hm
        refine a_callV (k' := 0) (n' := 0) (st := [v_R (some a0)]) X (c_X3_holderUpTo q40) yv_X3_holderUpTo ml_X3_165 rfl (Or.inl k36) ⟨by decide, by decide, by decide, by decide, Nat.le_of_ble_eq_true rfl⟩ rfl rfl dX3_refusalOfClaims_117 rfl rfl ?_
        show At_ v g 6 h M 0 0 120 [(0, v_R (some a0)), (1, v_R x1), (4, v_I x4), (5, v_I x5)] [v_I r41, v_R (some a0)]
        obtain ⟨h42, eh42, hm⟩ := i_d hm
        refine a_putI X 3 10 false rfl k36 (by decide) rfl rfl (fun q => by cases q) rfl rfl fl_X3_28 dX3_refusalOfClaims_120 ?_
        rw [← eh42]
        refine a_bipush (x := -10) X dX3_refusalOfClaims_123 (by decide) ?_
        exact a_iret X hF ⟨(Prod.mk.inj (Option.some.inj hm)).1, rfl, (Prod.mk.inj (Option.some.inj hm)).2⟩ (by decide) dX3_refusalOfClaims_125
def l_X3_refusalOfClaims_73 (a0 : Nat) (n : Nat) : Hpx → Option Nat → Int32 → Int32 → Option (Hpx × Int32) := lp_ (fun rec_73 => j_X3_refusalOfClaims_73 a0 rec_73) (fun _ _ _ _ => none) n
theorem ql_X3_refusalOfClaims_73 {v : Evx} {g : Gvx} {M : Msx} {h' : Hpx} {r : Int32} (X : Cx_ v g cX3_refusalOfClaims 6 RX3 "refusalOfClaims" ((some .int)) rm_X3_refusalOfClaims) (a0 : Nat) (hF : Fi_ v g rm_X3_refusalOfClaims (some (v_I r)) h' M) : ∀ (n : Nat) (h : Hpx) (x1 : Option Nat) (x4 : Int32) (x5 : Int32), l_X3_refusalOfClaims_73 a0 n h x1 x4 x5 = some (h', r) → At_ v g 6 h M 0 0 73 [(0, v_R (some a0)), (1, v_R x1), (4, v_I x4), (5, v_I x5)] [] := by
  intro n
  induction n with
  | zero => intro h x1 x4 x5 hm; cases hm
  | succ n ih =>
    intro h x1 x4 x5 hm
    exact q_X3_refusalOfClaims_73 X a0 hF (l_X3_refusalOfClaims_73 a0 n) ih h x1 x4 x5 hm
def f_X3_refusalOfClaims (h : Hpx) (a0 : Nat) (x1 : Option Nat) (x2 : Int64) (x4 : Int32) : Option (Hpx × Int32) :=
  (if x1 = none then
  some (h, (-1 : Int32))
  else (if x4 < (1 : Int32) then
  some (h, (-1 : Int32))
  else x1.bind fun a23 =>
  (if h_k h a23 = 3 then
  (if x4 ≤ (h_I h a23 1) then
  (if h_k h a0 = 4 then
  (if (h_I h a0 11) = 0 then
  some (h, (-2 : Int32))
  else (if (h_I h a23 6) = 0 then
  (if (h_I h a23 5) = 0 then
  (if (h_I h a23 3) ≤ 0 then
  l_X3_refusalOfClaims_73 a0 70 h x1 x4 (0 : Int32)
  else (if 0 ≤ (lg_cmp x2 (h_J h a23 4)) then
  l_X3_refusalOfClaims_73 a0 70 h x1 x4 (0 : Int32)
  else some (h, (-9 : Int32))))
  else some (h, (-8 : Int32)))
  else some (h, (-7 : Int32)))) else none)
  else some (h, (-1 : Int32))) else none)))
set_option maxHeartbeats 4000000 in
theorem q_X3_refusalOfClaims_0 {v : Evx} {g : Gvx} {M : Msx} {h' : Hpx} {r : Int32} (X : Cx_ v g cX3_refusalOfClaims 6 RX3 "refusalOfClaims" ((some .int)) rm_X3_refusalOfClaims) (a0 : Nat) (hF : Fi_ v g rm_X3_refusalOfClaims (some (v_I r)) h' M) (h : Hpx) (x1 : Option Nat) (x2 : Int64) (x4 : Int32) (hm : f_X3_refusalOfClaims h a0 x1 x2 x4 = some (h', r)) : At_ v g 6 h M 0 0 0 [(0, v_R (some a0)), (1, v_R x1), (2, v_J x2), (4, v_I x4)] [] := by
  unfold f_X3_refusalOfClaims at hm
  refine a_aload_n X dX3_refusalOfClaims_0 rfl ?_
  refine a_ifnull (tgt := 19) X dX3_refusalOfClaims_1 (by decide) hm (fun c21 hm => ?_) (fun c21 hm => ?_)
  · refine a_iconst (x := -1) X dX3_refusalOfClaims_19 (by decide) ?_
    exact a_iret X hF ⟨(Prod.mk.inj (Option.some.inj hm)).1, rfl, (Prod.mk.inj (Option.some.inj hm)).2⟩ (by decide) dX3_refusalOfClaims_20
  · refine a_iload X dX3_refusalOfClaims_4 rfl ?_
    refine a_iconst (x := 1) X dX3_refusalOfClaims_6 (by decide) ?_
    refine a_icmp_lt (tgt := 19) X dX3_refusalOfClaims_7 (by decide) hm (fun c22 hm => ?_) (fun c22 hm => ?_)
    · refine a_iconst (x := -1) X dX3_refusalOfClaims_19 (by decide) ?_
      exact a_iret X hF ⟨(Prod.mk.inj (Option.some.inj hm)).1, rfl, (Prod.mk.inj (Option.some.inj hm)).2⟩ (by decide) dX3_refusalOfClaims_20
    · refine a_iload X dX3_refusalOfClaims_10 rfl ?_
      refine a_aload_n X dX3_refusalOfClaims_12 rfl ?_
      obtain ⟨a23, ea23, hm⟩ := i_b hm
      obtain ⟨k24, hm⟩ := i_c hm
      refine a_getI X 2 1 ea23 k24 (by decide) rfl fl_X3_169 dX3_refusalOfClaims_13 ?_
      refine a_icmp_le (tgt := 21) X dX3_refusalOfClaims_16 (by decide) hm (fun c25 hm => ?_) (fun c25 hm => ?_)
      · refine a_aload_n X dX3_refusalOfClaims_21 rfl ?_
        obtain ⟨k26, hm⟩ := i_c hm
        refine a_getI X 3 11 rfl k26 (by decide) rfl fl_X3_41 dX3_refusalOfClaims_22 ?_
        refine a_if_ne (tgt := 31) X dX3_refusalOfClaims_25 (by decide) hm (fun c27 hm => ?_) (fun c27 hm => ?_)
        · refine a_aload_n X dX3_refusalOfClaims_31 rfl ?_
          refine a_getI X 2 6 ea23 k24 (by decide) rfl fl_X3_128 dX3_refusalOfClaims_32 ?_
          refine a_if_eq (tgt := 41) X dX3_refusalOfClaims_35 (by decide) hm (fun c28 hm => ?_) (fun c28 hm => ?_)
          · refine a_aload_n X dX3_refusalOfClaims_41 rfl ?_
            refine a_getI X 2 5 ea23 k24 (by decide) rfl fl_X3_155 dX3_refusalOfClaims_42 ?_
            refine a_if_eq (tgt := 51) X dX3_refusalOfClaims_45 (by decide) hm (fun c29 hm => ?_) (fun c29 hm => ?_)
            · refine a_aload_n X dX3_refusalOfClaims_51 rfl ?_
              refine a_getI X 2 3 ea23 k24 (by decide) rfl fl_X3_162 dX3_refusalOfClaims_52 ?_
              refine a_if_le (tgt := 70) X dX3_refusalOfClaims_55 (by decide) hm (fun c30 hm => ?_) (fun c30 hm => ?_)
              · refine a_iconst (x := 0) X dX3_refusalOfClaims_70 (by decide) ?_
                refine a_istore (lv' := [(0, v_R (some a0)), (1, v_R x1), (2, v_J x2), (4, v_I x4), (5, v_I (0 : Int32))]) X dX3_refusalOfClaims_71 (by decide) rfl ?_
                refine a_pick (lv' := [(0, v_R (some a0)), (1, v_R x1), (4, v_I x4), (5, v_I (0 : Int32))]) [0, 1, 3, 4] rfl ?_
                exact ql_X3_refusalOfClaims_73 X a0 hF 70 h x1 x4 (0 : Int32) hm
              · refine a_lload_n X dX3_refusalOfClaims_58 rfl ?_
                refine a_aload_n X dX3_refusalOfClaims_59 rfl ?_
                refine a_getJ X 2 4 ea23 k24 (by decide) rfl fl_X3_183 dX3_refusalOfClaims_60 ?_
                refine a_lcmp X dX3_refusalOfClaims_63 ?_
                refine a_if_ge (tgt := 70) X dX3_refusalOfClaims_64 (by decide) hm (fun c31 hm => ?_) (fun c31 hm => ?_)
                · refine a_iconst (x := 0) X dX3_refusalOfClaims_70 (by decide) ?_
                  refine a_istore (lv' := [(0, v_R (some a0)), (1, v_R x1), (2, v_J x2), (4, v_I x4), (5, v_I (0 : Int32))]) X dX3_refusalOfClaims_71 (by decide) rfl ?_
                  refine a_pick (lv' := [(0, v_R (some a0)), (1, v_R x1), (4, v_I x4), (5, v_I (0 : Int32))]) [0, 1, 3, 4] rfl ?_
                  exact ql_X3_refusalOfClaims_73 X a0 hF 70 h x1 x4 (0 : Int32) hm
                · refine a_bipush (x := -9) X dX3_refusalOfClaims_67 (by decide) ?_
                  exact a_iret X hF ⟨(Prod.mk.inj (Option.some.inj hm)).1, rfl, (Prod.mk.inj (Option.some.inj hm)).2⟩ (by decide) dX3_refusalOfClaims_69
            · refine a_bipush (x := -8) X dX3_refusalOfClaims_48 (by decide) ?_
              exact a_iret X hF ⟨(Prod.mk.inj (Option.some.inj hm)).1, rfl, (Prod.mk.inj (Option.some.inj hm)).2⟩ (by decide) dX3_refusalOfClaims_50
          · refine a_bipush (x := -7) X dX3_refusalOfClaims_38 (by decide) ?_
            exact a_iret X hF ⟨(Prod.mk.inj (Option.some.inj hm)).1, rfl, (Prod.mk.inj (Option.some.inj hm)).2⟩ (by decide) dX3_refusalOfClaims_40
        · refine a_bipush (x := -2) X dX3_refusalOfClaims_28 (by decide) ?_
          exact a_iret X hF ⟨(Prod.mk.inj (Option.some.inj hm)).1, rfl, (Prod.mk.inj (Option.some.inj hm)).2⟩ (by decide) dX3_refusalOfClaims_30
      · refine a_iconst (x := -1) X dX3_refusalOfClaims_19 (by decide) ?_
        exact a_iret X hF ⟨(Prod.mk.inj (Option.some.inj hm)).1, rfl, (Prod.mk.inj (Option.some.inj hm)).2⟩ (by decide) dX3_refusalOfClaims_20
theorem c_X3_refusalOfClaims {l : Launch} {g : Gvx} {h : Hpx} {M : Msx} {h' : Hpx} {r : Int32} {a0 : Nat} {x1 : Option Nat} {x2 : Int64} {x4 : Int32} (hm : f_X3_refusalOfClaims h a0 x1 x2 x4 = some (h', r)) : Mt_ l g yX3_refusalOfClaims cX3_refusalOfClaims 6 ((some .int)) rm_X3_refusalOfClaims [v_R (some a0), v_R x1, v_J x2, v_I x4] h M (some (v_I r)) h' M := mt_of (by decide) (Nat.le_of_ble_eq_true rfl) (fun v _ X hF => q_X3_refusalOfClaims_0 X a0 hF h x1 x2 x4 hm)
theorem yv_X3_refusalOfClaims : Yv_ yX3_refusalOfClaims cX3_refusalOfClaims 6 ((some .int)) 3 3 := ⟨rfl, by decide, ⟨by decide, by decide, by decide +kernel⟩, co_X3_refusalOfClaims, im_X3_refusalOfClaims, se_X3_refusalOfClaims, ini_X3⟩

abbrev rm_X3_claimSome : Room := { frames := 4, cells := 0, slots := 0, locals := 94 }
def j_X3_claimSome_37 (a0 : Nat) (rec_37 : Hpx → Option Nat → Int64 → Int32 → Int32 → Int32 → Option (Hpx × Int32)) (h : Hpx) (x1 : Option Nat) (x2 : Int64) (x4 : Int32) (x6 : Int32) (x7 : Int32) : Option (Hpx × Int32) :=
  (if x4 ≤ x7 then
  some (h, x6)
  else (if (64 : Int32) ≤ x7 then
  some (h, x6)
  else x1.bind fun a35 =>
  (if h_k h a35 = 3 then
  c_l (f_X2_newClaim h a35 x2) fun h38 r39 =>
  rec_37 h38 x1 x2 x4 x6 (x7 + (1 : Int32)) else none)))
set_option maxHeartbeats 4000000 in
theorem q_X3_claimSome_37 {v : Evx} {g : Gvx} {M : Msx} {h' : Hpx} {r : Int32} (X : Cx_ v g cX3_claimSome 8 RX3 "claimSome" ((some .int)) rm_X3_claimSome) (a0 : Nat) (hF : Fi_ v g rm_X3_claimSome (some (v_I r)) h' M) (rec_37 : Hpx → Option Nat → Int64 → Int32 → Int32 → Int32 → Option (Hpx × Int32)) (hr_37 : ∀ (h : Hpx) (x1 : Option Nat) (x2 : Int64) (x4 : Int32) (x6 : Int32) (x7 : Int32), rec_37 h x1 x2 x4 x6 x7 = some (h', r) → At_ v g 8 h M 0 0 37 [(0, v_R (some a0)), (1, v_R x1), (2, v_J x2), (4, v_I x4), (6, v_I x6), (7, v_I x7)] []) (h : Hpx) (x1 : Option Nat) (x2 : Int64) (x4 : Int32) (x6 : Int32) (x7 : Int32) (hm : j_X3_claimSome_37 a0 rec_37 h x1 x2 x4 x6 x7 = some (h', r)) : At_ v g 8 h M 0 0 37 [(0, v_R (some a0)), (1, v_R x1), (2, v_J x2), (4, v_I x4), (6, v_I x6), (7, v_I x7)] [] := by
  unfold j_X3_claimSome_37 at hm
  refine a_iload X dX3_claimSome_37 rfl ?_
  refine a_iload X dX3_claimSome_39 rfl ?_
  refine a_icmp_ge (tgt := 63) X dX3_claimSome_41 (by decide) hm (fun c33 hm => ?_) (fun c33 hm => ?_)
  · refine a_iload X dX3_claimSome_63 rfl ?_
    exact a_iret X hF ⟨(Prod.mk.inj (Option.some.inj hm)).1, rfl, (Prod.mk.inj (Option.some.inj hm)).2⟩ (by decide) dX3_claimSome_65
  · refine a_iload X dX3_claimSome_44 rfl ?_
    refine a_bipush (x := 64) X dX3_claimSome_46 (by decide) ?_
    refine a_icmp_ge (tgt := 63) X dX3_claimSome_48 (by decide) hm (fun c34 hm => ?_) (fun c34 hm => ?_)
    · refine a_iload X dX3_claimSome_63 rfl ?_
      exact a_iret X hF ⟨(Prod.mk.inj (Option.some.inj hm)).1, rfl, (Prod.mk.inj (Option.some.inj hm)).2⟩ (by decide) dX3_claimSome_65
    · refine a_aload_n X dX3_claimSome_51 rfl ?_
      refine a_lload_n X dX3_claimSome_52 rfl ?_
      obtain ⟨a35, ea35, hm⟩ := i_b hm
      obtain ⟨k36, hm⟩ := i_c hm
      obtain ⟨h38, r39, q37, hm⟩ := i_l hm
      refine a_callV (k' := 0) (n' := 0) (st := []) X (c_X2_newClaim q37) yv_X2_newClaim ml_X3_267 ea35 (Or.inl k36) ⟨by decide, by decide, by decide, by decide, Nat.le_of_ble_eq_true rfl⟩ rfl rfl dX3_claimSome_53 rfl rfl ?_
      show At_ v g 8 h38 M 0 0 56 [(0, v_R (some a0)), (1, v_R x1), (2, v_J x2), (4, v_I x4), (6, v_I x6), (7, v_I x7)] [v_R r39]
      refine a_pop X dX3_claimSome_56 rfl ?_
      refine a_iinc (y := x7 + (1 : Int32)) (lv' := [(0, v_R (some a0)), (1, v_R x1), (2, v_J x2), (4, v_I x4), (6, v_I x6), (7, v_I (x7 + (1 : Int32)))]) X dX3_claimSome_57 rfl rfl (by decide) rfl ?_
      refine a_goto (tgt := 37) X dX3_claimSome_60 (by decide) ?_
      exact hr_37 h38 x1 x2 x4 x6 (x7 + (1 : Int32)) hm
def l_X3_claimSome_37 (a0 : Nat) (n : Nat) : Hpx → Option Nat → Int64 → Int32 → Int32 → Int32 → Option (Hpx × Int32) := lp_ (fun rec_37 => j_X3_claimSome_37 a0 rec_37) (fun _ _ _ _ _ _ => none) n
theorem ql_X3_claimSome_37 {v : Evx} {g : Gvx} {M : Msx} {h' : Hpx} {r : Int32} (X : Cx_ v g cX3_claimSome 8 RX3 "claimSome" ((some .int)) rm_X3_claimSome) (a0 : Nat) (hF : Fi_ v g rm_X3_claimSome (some (v_I r)) h' M) : ∀ (n : Nat) (h : Hpx) (x1 : Option Nat) (x2 : Int64) (x4 : Int32) (x6 : Int32) (x7 : Int32), l_X3_claimSome_37 a0 n h x1 x2 x4 x6 x7 = some (h', r) → At_ v g 8 h M 0 0 37 [(0, v_R (some a0)), (1, v_R x1), (2, v_J x2), (4, v_I x4), (6, v_I x6), (7, v_I x7)] [] := by
  intro n
  induction n with
  | zero => intro h x1 x2 x4 x6 x7 hm; cases hm
  | succ n ih =>
    intro h x1 x2 x4 x6 x7 hm
    exact q_X3_claimSome_37 X a0 hF (l_X3_claimSome_37 a0 n) ih h x1 x2 x4 x6 x7 hm
def f_X3_claimSome (h : Hpx) (a0 : Nat) (x1 : Option Nat) (x2 : Int64) (x4 : Int32) : Option (Hpx × Int32) :=
  (if h_k h a0 = 4 then
  c_l (f_X3_refusalOfClaims h a0 x1 x2 x4) fun h23 r24 =>
  (if r24 < 0 then
  (if h_k h23 a0 = 4 then
  b_d (s_I h23 a0 9 r24) fun h27 =>
  some (h27, r24) else none)
  else (if x1 = none then
  (if h_k h23 a0 = 4 then
  b_d (s_I h23 a0 9 r24) fun h32 =>
  some (h32, r24) else none)
  else x1.bind fun a29 =>
  (if h_k h23 a29 = 3 then
  l_X3_claimSome_37 a0 70 h23 x1 x2 x4 (h_I h23 a29 3) (0 : Int32) else none))) else none)
set_option maxHeartbeats 4000000 in
theorem q_X3_claimSome_0 {v : Evx} {g : Gvx} {M : Msx} {h' : Hpx} {r : Int32} (X : Cx_ v g cX3_claimSome 8 RX3 "claimSome" ((some .int)) rm_X3_claimSome) (a0 : Nat) (hF : Fi_ v g rm_X3_claimSome (some (v_I r)) h' M) (h : Hpx) (x1 : Option Nat) (x2 : Int64) (x4 : Int32) (hm : f_X3_claimSome h a0 x1 x2 x4 = some (h', r)) : At_ v g 8 h M 0 0 0 [(0, v_R (some a0)), (1, v_R x1), (2, v_J x2), (4, v_I x4)] [] := by
  unfold f_X3_claimSome at hm
  refine a_aload_n X dX3_claimSome_0 rfl ?_
  refine a_aload_n X dX3_claimSome_1 rfl ?_
  refine a_lload_n X dX3_claimSome_2 rfl ?_
  refine a_iload X dX3_claimSome_3 rfl ?_
  obtain ⟨k21, hm⟩ := i_c hm
  obtain ⟨h23, r24, q22, hm⟩ := i_l hm
  refine a_callV (k' := 0) (n' := 0) (st := []) X (c_X3_refusalOfClaims q22) yv_X3_refusalOfClaims ml_X3_264 rfl (Or.inl k21) ⟨by decide, by decide, by decide, by decide, Nat.le_of_ble_eq_true rfl⟩ rfl rfl dX3_claimSome_5 rfl rfl ?_
  show At_ v g 8 h23 M 0 0 8 [(0, v_R (some a0)), (1, v_R x1), (2, v_J x2), (4, v_I x4)] [v_I r24]
  refine a_istore (lv' := [(0, v_R (some a0)), (1, v_R x1), (2, v_J x2), (4, v_I x4), (5, v_I r24)]) X dX3_claimSome_8 (by decide) rfl ?_
  refine a_iload X dX3_claimSome_10 rfl ?_
  refine a_if_lt (tgt := 19) X dX3_claimSome_12 (by decide) hm (fun c25 hm => ?_) (fun c25 hm => ?_)
  · refine a_aload_n X dX3_claimSome_19 rfl ?_
    refine a_iload X dX3_claimSome_20 rfl ?_
    obtain ⟨k26, hm⟩ := i_c hm
    obtain ⟨h27, eh27, hm⟩ := i_d hm
    refine a_putI X 3 9 false rfl k26 (by decide) rfl rfl (fun q => by cases q) rfl rfl fl_X3_125 dX3_claimSome_22 ?_
    rw [← eh27]
    refine a_iload X dX3_claimSome_25 rfl ?_
    exact a_iret X hF ⟨(Prod.mk.inj (Option.some.inj hm)).1, rfl, (Prod.mk.inj (Option.some.inj hm)).2⟩ (by decide) dX3_claimSome_27
  · refine a_aload_n X dX3_claimSome_15 rfl ?_
    refine a_ifnonnull (tgt := 28) X dX3_claimSome_16 (by decide) hm (fun c28 hm => ?_) (fun c28 hm => ?_)
    · refine a_aload_n X dX3_claimSome_28 rfl ?_
      obtain ⟨a29, ea29, hm⟩ := i_b hm
      obtain ⟨k30, hm⟩ := i_c hm
      refine a_getI X 2 3 ea29 k30 (by decide) rfl fl_X3_162 dX3_claimSome_29 ?_
      refine a_istore (lv' := [(0, v_R (some a0)), (1, v_R x1), (2, v_J x2), (4, v_I x4), (5, v_I r24), (6, v_I (h_I h23 a29 3))]) X dX3_claimSome_32 (by decide) rfl ?_
      refine a_iconst (x := 0) X dX3_claimSome_34 (by decide) ?_
      refine a_istore (lv' := [(0, v_R (some a0)), (1, v_R x1), (2, v_J x2), (4, v_I x4), (5, v_I r24), (6, v_I (h_I h23 a29 3)), (7, v_I (0 : Int32))]) X dX3_claimSome_35 (by decide) rfl ?_
      refine a_pick (lv' := [(0, v_R (some a0)), (1, v_R x1), (2, v_J x2), (4, v_I x4), (6, v_I (h_I h23 a29 3)), (7, v_I (0 : Int32))]) [0, 1, 2, 3, 5, 6] rfl ?_
      exact ql_X3_claimSome_37 X a0 hF 70 h23 x1 x2 x4 (h_I h23 a29 3) (0 : Int32) hm
    · refine a_aload_n X dX3_claimSome_19 rfl ?_
      refine a_iload X dX3_claimSome_20 rfl ?_
      obtain ⟨k31, hm⟩ := i_c hm
      obtain ⟨h32, eh32, hm⟩ := i_d hm
      refine a_putI X 3 9 false rfl k31 (by decide) rfl rfl (fun q => by cases q) rfl rfl fl_X3_125 dX3_claimSome_22 ?_
      rw [← eh32]
      refine a_iload X dX3_claimSome_25 rfl ?_
      exact a_iret X hF ⟨(Prod.mk.inj (Option.some.inj hm)).1, rfl, (Prod.mk.inj (Option.some.inj hm)).2⟩ (by decide) dX3_claimSome_27
theorem c_X3_claimSome {l : Launch} {g : Gvx} {h : Hpx} {M : Msx} {h' : Hpx} {r : Int32} {a0 : Nat} {x1 : Option Nat} {x2 : Int64} {x4 : Int32} (hm : f_X3_claimSome h a0 x1 x2 x4 = some (h', r)) : Mt_ l g yX3_claimSome cX3_claimSome 8 ((some .int)) rm_X3_claimSome [v_R (some a0), v_R x1, v_J x2, v_I x4] h M (some (v_I r)) h' M := mt_of (by decide) (Nat.le_of_ble_eq_true rfl) (fun v _ X hF => q_X3_claimSome_0 X a0 hF h x1 x2 x4 hm)
theorem yv_X3_claimSome : Yv_ yX3_claimSome cX3_claimSome 8 ((some .int)) 3 3 := ⟨rfl, by decide, ⟨by decide, by decide, by decide +kernel⟩, co_X3_claimSome, im_X3_claimSome, se_X3_claimSome, ini_X3⟩

abbrev rm_X3_claim : Room := { frames := 5, cells := 0, slots := 0, locals := 121 }
def f_X3_claim (h : Hpx) (a0 : Nat) (x1 : Int32) (x2 : Int64) : Option (Hpx × Int32) :=
  (if h_k h a0 = 4 then
  (f_X3_ringAt h a0 x1).bind fun r23 =>
  c_l (f_X3_claimSome h a0 r23 x2 (1 : Int32)) fun h25 r26 =>
  some (h25, r26) else none)
set_option maxHeartbeats 4000000 in
theorem q_X3_claim_0 {v : Evx} {g : Gvx} {M : Msx} {h' : Hpx} {r : Int32} (X : Cx_ v g cX3_claim 4 RX3 "claim" ((some .int)) rm_X3_claim) (a0 : Nat) (hF : Fi_ v g rm_X3_claim (some (v_I r)) h' M) (h : Hpx) (x1 : Int32) (x2 : Int64) (hm : f_X3_claim h a0 x1 x2 = some (h', r)) : At_ v g 4 h M 0 0 0 [(0, v_R (some a0)), (1, v_I x1), (2, v_J x2)] [] := by
  unfold f_X3_claim at hm
  refine a_aload_n X dX3_claim_0 rfl ?_
  refine a_aload_n X dX3_claim_1 rfl ?_
  refine a_iload_n X dX3_claim_2 rfl ?_
  obtain ⟨k21, hm⟩ := i_c hm
  obtain ⟨r23, q22, hm⟩ := i_b hm
  refine a_callV (k' := 0) (n' := 0) (st := [v_R (some a0)]) X (c_X3_ringAt q22) yv_X3_ringAt ml_X3_54 rfl (Or.inl k21) ⟨by decide, by decide, by decide, by decide, Nat.le_of_ble_eq_true rfl⟩ rfl rfl dX3_claim_3 rfl rfl ?_
  show At_ v g 4 h M 0 0 6 [(0, v_R (some a0)), (1, v_I x1), (2, v_J x2)] [v_R r23, v_R (some a0)]
  refine a_lload_n X dX3_claim_6 rfl ?_
  refine a_iconst (x := 1) X dX3_claim_7 (by decide) ?_
  obtain ⟨h25, r26, q24, hm⟩ := i_l hm
  refine a_callV (k' := 0) (n' := 0) (st := []) X (c_X3_claimSome q24) yv_X3_claimSome ml_X3_121 rfl (Or.inl k21) ⟨by decide, by decide, by decide, by decide, Nat.le_of_ble_eq_true rfl⟩ rfl rfl dX3_claim_8 rfl rfl ?_
  show At_ v g 4 h25 M 0 0 11 [(0, v_R (some a0)), (1, v_I x1), (2, v_J x2)] [v_I r26]
  exact a_iret X hF ⟨(Prod.mk.inj (Option.some.inj hm)).1, rfl, (Prod.mk.inj (Option.some.inj hm)).2⟩ (by decide) dX3_claim_11
theorem c_X3_claim {l : Launch} {g : Gvx} {h : Hpx} {M : Msx} {h' : Hpx} {r : Int32} {a0 : Nat} {x1 : Int32} {x2 : Int64} (hm : f_X3_claim h a0 x1 x2 = some (h', r)) : Mt_ l g yX3_claim cX3_claim 4 ((some .int)) rm_X3_claim [v_R (some a0), v_I x1, v_J x2] h M (some (v_I r)) h' M := mt_of (by decide) (Nat.le_of_ble_eq_true rfl) (fun v _ X hF => q_X3_claim_0 X a0 hF h x1 x2 hm)
theorem yv_X3_claim : Yv_ yX3_claim cX3_claim 4 ((some .int)) 2 3 := ⟨rfl, by decide, ⟨by decide, by decide, by decide +kernel⟩, co_X3_claim, im_X3_claim, se_X3_claim, ini_X3⟩

abbrev rm_X3_batch : Room := { frames := 5, cells := 0, slots := 0, locals := 121 }
def f_X3_batch (h : Hpx) (a0 : Nat) (x1 : Int32) (x2 : Int64) (x4 : Int32) : Option (Hpx × Int32) :=
  (if h_k h a0 = 4 then
  (f_X3_ringAt h a0 x1).bind fun r23 =>
  c_l (f_X3_claimSome h a0 r23 x2 x4) fun h25 r26 =>
  some (h25, r26) else none)
set_option maxHeartbeats 4000000 in
theorem q_X3_batch_0 {v : Evx} {g : Gvx} {M : Msx} {h' : Hpx} {r : Int32} (X : Cx_ v g cX3_batch 5 RX3 "batch" ((some .int)) rm_X3_batch) (a0 : Nat) (hF : Fi_ v g rm_X3_batch (some (v_I r)) h' M) (h : Hpx) (x1 : Int32) (x2 : Int64) (x4 : Int32) (hm : f_X3_batch h a0 x1 x2 x4 = some (h', r)) : At_ v g 5 h M 0 0 0 [(0, v_R (some a0)), (1, v_I x1), (2, v_J x2), (4, v_I x4)] [] := by
  unfold f_X3_batch at hm
  refine a_aload_n X dX3_batch_0 rfl ?_
  refine a_aload_n X dX3_batch_1 rfl ?_
  refine a_iload_n X dX3_batch_2 rfl ?_
  obtain ⟨k21, hm⟩ := i_c hm
  obtain ⟨r23, q22, hm⟩ := i_b hm
  refine a_callV (k' := 0) (n' := 0) (st := [v_R (some a0)]) X (c_X3_ringAt q22) yv_X3_ringAt ml_X3_54 rfl (Or.inl k21) ⟨by decide, by decide, by decide, by decide, Nat.le_of_ble_eq_true rfl⟩ rfl rfl dX3_batch_3 rfl rfl ?_
  show At_ v g 5 h M 0 0 6 [(0, v_R (some a0)), (1, v_I x1), (2, v_J x2), (4, v_I x4)] [v_R r23, v_R (some a0)]
  refine a_lload_n X dX3_batch_6 rfl ?_
  refine a_iload X dX3_batch_7 rfl ?_
  obtain ⟨h25, r26, q24, hm⟩ := i_l hm
  refine a_callV (k' := 0) (n' := 0) (st := []) X (c_X3_claimSome q24) yv_X3_claimSome ml_X3_121 rfl (Or.inl k21) ⟨by decide, by decide, by decide, by decide, Nat.le_of_ble_eq_true rfl⟩ rfl rfl dX3_batch_9 rfl rfl ?_
  show At_ v g 5 h25 M 0 0 12 [(0, v_R (some a0)), (1, v_I x1), (2, v_J x2), (4, v_I x4)] [v_I r26]
  exact a_iret X hF ⟨(Prod.mk.inj (Option.some.inj hm)).1, rfl, (Prod.mk.inj (Option.some.inj hm)).2⟩ (by decide) dX3_batch_12
theorem c_X3_batch {l : Launch} {g : Gvx} {h : Hpx} {M : Msx} {h' : Hpx} {r : Int32} {a0 : Nat} {x1 : Int32} {x2 : Int64} {x4 : Int32} (hm : f_X3_batch h a0 x1 x2 x4 = some (h', r)) : Mt_ l g yX3_batch cX3_batch 5 ((some .int)) rm_X3_batch [v_R (some a0), v_I x1, v_J x2, v_I x4] h M (some (v_I r)) h' M := mt_of (by decide) (Nat.le_of_ble_eq_true rfl) (fun v _ X hF => q_X3_batch_0 X a0 hF h x1 x2 x4 hm)
theorem yv_X3_batch : Yv_ yX3_batch cX3_batch 5 ((some .int)) 3 3 := ⟨rfl, by decide, ⟨by decide, by decide, by decide +kernel⟩, co_X3_batch, im_X3_batch, se_X3_batch, ini_X3⟩

abbrev rm_X3_by : Room := { frames := 0, cells := 0, slots := 0, locals := 0 }
def f_X3_by (h : Hpx) (a0 : Nat) : Option (Int32) :=
  (if h_k h a0 = 4 then
  some (h_I h a0 10) else none)
set_option maxHeartbeats 4000000 in
theorem q_X3_by_0 {v : Evx} {g : Gvx} {M : Msx} {r : Int32} (X : Cx_ v g cX3_by 1 RX3 "by" ((some .int)) rm_X3_by) (h : Hpx) (a0 : Nat) (hF : Fi_ v g rm_X3_by (some (v_I r)) h M) (hm : f_X3_by h a0 = some r) : At_ v g 1 h M 0 0 0 [(0, v_R (some a0))] [] := by
  unfold f_X3_by at hm
  refine a_aload_n X dX3_by_0 rfl ?_
  obtain ⟨k21, hm⟩ := i_c hm
  refine a_getI X 3 10 rfl k21 (by decide) rfl fl_X3_28 dX3_by_1 ?_
  exact a_iret X hF ⟨rfl, rfl, Option.some.inj hm⟩ (by decide) dX3_by_4
theorem c_X3_by {l : Launch} {g : Gvx} {h : Hpx} {M : Msx} {r : Int32} {a0 : Nat} (hm : f_X3_by h a0 = some r) : Mt_ l g yX3_by cX3_by 1 ((some .int)) rm_X3_by [v_R (some a0)] h M (some (v_I r)) h M := mt_of (by decide) (Nat.le_of_ble_eq_true rfl) (fun v _ X hF => q_X3_by_0 X h a0 hF hm)
theorem yv_X3_by : Yv_ yX3_by cX3_by 1 ((some .int)) 0 3 := ⟨rfl, by decide, ⟨by decide, by decide, by decide +kernel⟩, co_X3_by, im_X3_by, se_X3_by, ini_X3⟩

abbrev rm_X3_again : Room := { frames := 1, cells := 0, slots := 0, locals := 21 }
def f_X3_again (h : Hpx) (a0 : Nat) : Option (Hpx × Int32) :=
  (if h_k h a0 = 4 then
  (if (h_I h a0 9) = 0 then
  c_l (f_X3_finding h a0 (6 : Int32)) fun h24 r25 =>
  some (h24, r25)
  else some (h, (h_I h a0 9))) else none)
set_option maxHeartbeats 4000000 in
theorem q_X3_again_0 {v : Evx} {g : Gvx} {M : Msx} {h' : Hpx} {r : Int32} (X : Cx_ v g cX3_again 1 RX3 "again" ((some .int)) rm_X3_again) (a0 : Nat) (hF : Fi_ v g rm_X3_again (some (v_I r)) h' M) (h : Hpx) (hm : f_X3_again h a0 = some (h', r)) : At_ v g 1 h M 0 0 0 [(0, v_R (some a0))] [] := by
  unfold f_X3_again at hm
  refine a_aload_n X dX3_again_0 rfl ?_
  obtain ⟨k21, hm⟩ := i_c hm
  refine a_getI X 3 9 rfl k21 (by decide) rfl fl_X3_125 dX3_again_1 ?_
  refine a_if_ne (tgt := 16) X dX3_again_4 (by decide) hm (fun c22 hm => ?_) (fun c22 hm => ?_)
  · refine a_aload_n X dX3_again_16 rfl ?_
    refine a_getI X 3 9 rfl k21 (by decide) rfl fl_X3_125 dX3_again_17 ?_
    exact a_iret X hF ⟨(Prod.mk.inj (Option.some.inj hm)).1, rfl, (Prod.mk.inj (Option.some.inj hm)).2⟩ (by decide) dX3_again_20
  · refine a_aload_n X dX3_again_7 rfl ?_
    refine a_bipush (x := 6) X dX3_again_8 (by decide) ?_
    obtain ⟨h24, r25, q23, hm⟩ := i_l hm
    refine a_callV (k' := 0) (n' := 0) (st := []) X (c_X3_finding q23) yv_X3_finding ml_X3_32 rfl (Or.inl k21) ⟨by decide, by decide, by decide, by decide, Nat.le_of_ble_eq_true rfl⟩ rfl rfl dX3_again_10 rfl rfl ?_
    show At_ v g 1 h24 M 0 0 13 [(0, v_R (some a0))] [v_I r25]
    refine a_goto (tgt := 20) X dX3_again_13 (by decide) ?_
    exact a_iret X hF ⟨(Prod.mk.inj (Option.some.inj hm)).1, rfl, (Prod.mk.inj (Option.some.inj hm)).2⟩ (by decide) dX3_again_20
theorem c_X3_again {l : Launch} {g : Gvx} {h : Hpx} {M : Msx} {h' : Hpx} {r : Int32} {a0 : Nat} (hm : f_X3_again h a0 = some (h', r)) : Mt_ l g yX3_again cX3_again 1 ((some .int)) rm_X3_again [v_R (some a0)] h M (some (v_I r)) h' M := mt_of (by decide) (Nat.le_of_ble_eq_true rfl) (fun v _ X hF => q_X3_again_0 X a0 hF h hm)
theorem yv_X3_again : Yv_ yX3_again cX3_again 1 ((some .int)) 0 3 := ⟨rfl, by decide, ⟨by decide, by decide, by decide +kernel⟩, co_X3_again, im_X3_again, se_X3_again, ini_X3⟩

abbrev rm_X3_fill : Room := { frames := 2, cells := 0, slots := 0, locals := 44 }
def j_X3_fill_64 (a0 : Nat) (h : Hpx) : Option (Hpx × Int32) :=
  (if h_k h a0 = 4 then
  c_l (f_X3_finding h a0 (2 : Int32)) fun h45 r46 =>
  some (h45, r46) else none)
set_option maxHeartbeats 4000000 in
theorem q_X3_fill_64 {v : Evx} {g : Gvx} {M : Msx} {h' : Hpx} {r : Int32} (X : Cx_ v g cX3_fill 8 RX3 "fill" ((some .int)) rm_X3_fill) (a0 : Nat) (hF : Fi_ v g rm_X3_fill (some (v_I r)) h' M) (h : Hpx) (hm : j_X3_fill_64 a0 h = some (h', r)) : At_ v g 8 h M 0 0 64 [(0, v_R (some a0))] [] := by
  unfold j_X3_fill_64 at hm
  refine a_aload_n X dX3_fill_64 rfl ?_
  refine a_iconst (x := 2) X dX3_fill_65 (by decide) ?_
  obtain ⟨k43, hm⟩ := i_c hm
  obtain ⟨h45, r46, q44, hm⟩ := i_l hm
  refine a_callV (k' := 0) (n' := 0) (st := []) X (c_X3_finding q44) yv_X3_finding ml_X3_32 rfl (Or.inl k43) ⟨by decide, by decide, by decide, by decide, Nat.le_of_ble_eq_true rfl⟩ rfl rfl dX3_fill_66 rfl rfl ?_
  show At_ v g 8 h45 M 0 0 69 [(0, v_R (some a0))] [v_I r46]
  exact a_iret X hF ⟨(Prod.mk.inj (Option.some.inj hm)).1, rfl, (Prod.mk.inj (Option.some.inj hm)).2⟩ (by decide) dX3_fill_69
def f_X3_fill (h : Hpx) (a0 : Nat) (x1 : Int32) (x2 : Int32) (x3 : Int32) (x4 : Int64) : Option (Hpx × Int32) :=
  (if h_k h a0 = 4 then
  (f_X3_ringAt h a0 x1).bind fun r23 =>
  (if r23 = none then
  some (h, (-1 : Int32))
  else (if (h_I h a0 11) = 0 then
  some (h, (-2 : Int32))
  else r23.bind fun a26 =>
  (if h_k h a26 = 3 then
  (if (h_I h a26 6) = 0 then
  (f_X2_openSlot h a26 x2).bind fun r30 =>
  (if r30 = none then
  some (h, (-11 : Int32))
  else (if x3 < 0 then
  j_X3_fill_64 a0 h
  else (if x3 < (8 : Int32) then
  r30.bind fun a34 =>
  (if h_k h a34 = 1 then
  (h_R h a34 0).bind fun a36 =>
  (if h_k h a36 = 7 then
  (if in_b x3 (h_n h a36) = true then
  b_d (s_J h a36 x3.toNatClampNeg x4) fun h39 =>
  some (h39, (1 : Int32)) else none) else none) else none)
  else j_X3_fill_64 a0 h)))
  else c_l (f_X3_finding h a0 (1 : Int32)) fun h41 r42 =>
  some (h41, r42)) else none))) else none)
set_option maxHeartbeats 4000000 in
theorem q_X3_fill_0 {v : Evx} {g : Gvx} {M : Msx} {h' : Hpx} {r : Int32} (X : Cx_ v g cX3_fill 8 RX3 "fill" ((some .int)) rm_X3_fill) (a0 : Nat) (hF : Fi_ v g rm_X3_fill (some (v_I r)) h' M) (h : Hpx) (x1 : Int32) (x2 : Int32) (x3 : Int32) (x4 : Int64) (hm : f_X3_fill h a0 x1 x2 x3 x4 = some (h', r)) : At_ v g 8 h M 0 0 0 [(0, v_R (some a0)), (1, v_I x1), (2, v_I x2), (3, v_I x3), (4, v_J x4)] [] := by
  unfold f_X3_fill at hm
  refine a_aload_n X dX3_fill_0 rfl ?_
  refine a_iload_n X dX3_fill_1 rfl ?_
  obtain ⟨k21, hm⟩ := i_c hm
  obtain ⟨r23, q22, hm⟩ := i_b hm
  refine a_callV (k' := 0) (n' := 0) (st := []) X (c_X3_ringAt q22) yv_X3_ringAt ml_X3_54 rfl (Or.inl k21) ⟨by decide, by decide, by decide, by decide, Nat.le_of_ble_eq_true rfl⟩ rfl rfl dX3_fill_2 rfl rfl ?_
  show At_ v g 8 h M 0 0 5 [(0, v_R (some a0)), (1, v_I x1), (2, v_I x2), (3, v_I x3), (4, v_J x4)] [v_R r23]
  refine a_astore (lv' := [(0, v_R (some a0)), (1, v_I x1), (2, v_I x2), (3, v_I x3), (4, v_J x4), (6, v_R r23)]) X dX3_fill_5 (by decide) rfl ?_
  refine a_aload X dX3_fill_7 rfl ?_
  refine a_ifnonnull (tgt := 14) X dX3_fill_9 (by decide) hm (fun c24 hm => ?_) (fun c24 hm => ?_)
  · refine a_aload_n X dX3_fill_14 rfl ?_
    refine a_getI X 3 11 rfl k21 (by decide) rfl fl_X3_41 dX3_fill_15 ?_
    refine a_if_ne (tgt := 24) X dX3_fill_18 (by decide) hm (fun c25 hm => ?_) (fun c25 hm => ?_)
    · refine a_aload X dX3_fill_24 rfl ?_
      obtain ⟨a26, ea26, hm⟩ := i_b hm
      obtain ⟨k27, hm⟩ := i_c hm
      refine a_getI X 2 6 ea26 k27 (by decide) rfl fl_X3_128 dX3_fill_26 ?_
      refine a_if_eq (tgt := 38) X dX3_fill_29 (by decide) hm (fun c28 hm => ?_) (fun c28 hm => ?_)
      · refine a_aload X dX3_fill_38 rfl ?_
        refine a_iload_n X dX3_fill_40 rfl ?_
        obtain ⟨r30, q29, hm⟩ := i_b hm
        refine a_callV (k' := 0) (n' := 0) (st := []) X (c_X2_openSlot q29) yv_X2_openSlot ml_X3_131 ea26 (Or.inl k27) ⟨by decide, by decide, by decide, by decide, Nat.le_of_ble_eq_true rfl⟩ rfl rfl dX3_fill_41 rfl rfl ?_
        show At_ v g 8 h M 0 0 44 [(0, v_R (some a0)), (1, v_I x1), (2, v_I x2), (3, v_I x3), (4, v_J x4), (6, v_R r23)] [v_R r30]
        refine a_astore (lv' := [(0, v_R (some a0)), (1, v_I x1), (2, v_I x2), (3, v_I x3), (4, v_J x4), (6, v_R r23), (7, v_R r30)]) X dX3_fill_44 (by decide) rfl ?_
        refine a_aload X dX3_fill_46 rfl ?_
        refine a_ifnonnull (tgt := 54) X dX3_fill_48 (by decide) hm (fun c31 hm => ?_) (fun c31 hm => ?_)
        · refine a_iload_n X dX3_fill_54 rfl ?_
          refine a_if_lt (tgt := 64) X dX3_fill_55 (by decide) hm (fun c32 hm => ?_) (fun c32 hm => ?_)
          · refine a_pick (lv' := [(0, v_R (some a0))]) [0] rfl ?_
            exact q_X3_fill_64 X a0 hF h hm
          · refine a_iload_n X dX3_fill_58 rfl ?_
            refine a_bipush (x := 8) X dX3_fill_59 (by decide) ?_
            refine a_icmp_lt (tgt := 70) X dX3_fill_61 (by decide) hm (fun c33 hm => ?_) (fun c33 hm => ?_)
            · refine a_aload X dX3_fill_70 rfl ?_
              obtain ⟨a34, ea34, hm⟩ := i_b hm
              obtain ⟨k35, hm⟩ := i_c hm
              refine a_getR X 0 0 ea34 k35 (by decide) rfl fl_X3_135 dX3_fill_72 ?_
              refine a_iload_n X dX3_fill_75 rfl ?_
              refine a_lload X dX3_fill_76 rfl ?_
              obtain ⟨a36, ea36, hm⟩ := i_b hm
              obtain ⟨k37, hm⟩ := i_c hm
              obtain ⟨b38, hm⟩ := i_c hm
              obtain ⟨h39, eh39, hm⟩ := i_d hm
              refine a_last X ea36 k37 b38 dX3_fill_78 ?_
              rw [← eh39]
              refine a_iconst (x := 1) X dX3_fill_79 (by decide) ?_
              exact a_iret X hF ⟨(Prod.mk.inj (Option.some.inj hm)).1, rfl, (Prod.mk.inj (Option.some.inj hm)).2⟩ (by decide) dX3_fill_80
            · refine a_pick (lv' := [(0, v_R (some a0))]) [0] rfl ?_
              exact q_X3_fill_64 X a0 hF h hm
        · refine a_bipush (x := -11) X dX3_fill_51 (by decide) ?_
          exact a_iret X hF ⟨(Prod.mk.inj (Option.some.inj hm)).1, rfl, (Prod.mk.inj (Option.some.inj hm)).2⟩ (by decide) dX3_fill_53
      · refine a_aload_n X dX3_fill_32 rfl ?_
        refine a_iconst (x := 1) X dX3_fill_33 (by decide) ?_
        obtain ⟨h41, r42, q40, hm⟩ := i_l hm
        refine a_callV (k' := 0) (n' := 0) (st := []) X (c_X3_finding q40) yv_X3_finding ml_X3_32 rfl (Or.inl k21) ⟨by decide, by decide, by decide, by decide, Nat.le_of_ble_eq_true rfl⟩ rfl rfl dX3_fill_34 rfl rfl ?_
        show At_ v g 8 h41 M 0 0 37 [(0, v_R (some a0)), (1, v_I x1), (2, v_I x2), (3, v_I x3), (4, v_J x4), (6, v_R r23)] [v_I r42]
        exact a_iret X hF ⟨(Prod.mk.inj (Option.some.inj hm)).1, rfl, (Prod.mk.inj (Option.some.inj hm)).2⟩ (by decide) dX3_fill_37
    · refine a_bipush (x := -2) X dX3_fill_21 (by decide) ?_
      exact a_iret X hF ⟨(Prod.mk.inj (Option.some.inj hm)).1, rfl, (Prod.mk.inj (Option.some.inj hm)).2⟩ (by decide) dX3_fill_23
  · refine a_iconst (x := -1) X dX3_fill_12 (by decide) ?_
    exact a_iret X hF ⟨(Prod.mk.inj (Option.some.inj hm)).1, rfl, (Prod.mk.inj (Option.some.inj hm)).2⟩ (by decide) dX3_fill_13
theorem c_X3_fill {l : Launch} {g : Gvx} {h : Hpx} {M : Msx} {h' : Hpx} {r : Int32} {a0 : Nat} {x1 : Int32} {x2 : Int32} {x3 : Int32} {x4 : Int64} (hm : f_X3_fill h a0 x1 x2 x3 x4 = some (h', r)) : Mt_ l g yX3_fill cX3_fill 8 ((some .int)) rm_X3_fill [v_R (some a0), v_I x1, v_I x2, v_I x3, v_J x4] h M (some (v_I r)) h' M := mt_of (by decide) (Nat.le_of_ble_eq_true rfl) (fun v _ X hF => q_X3_fill_0 X a0 hF h x1 x2 x3 x4 hm)
theorem yv_X3_fill : Yv_ yX3_fill cX3_fill 8 ((some .int)) 4 3 := ⟨rfl, by decide, ⟨by decide, by decide, by decide +kernel⟩, co_X3_fill, im_X3_fill, se_X3_fill, ini_X3⟩

abbrev rm_X3_copy : Room := { frames := 2, cells := 0, slots := 0, locals := 44 }
def j_X3_copy_93 (a0 : Nat) (h : Hpx) : Option (Hpx × Int32) :=
  (if h_k h a0 = 4 then
  c_l (f_X3_finding h a0 (5 : Int32)) fun h56 r57 =>
  some (h56, r57) else none)
set_option maxHeartbeats 4000000 in
theorem q_X3_copy_93 {v : Evx} {g : Gvx} {M : Msx} {h' : Hpx} {r : Int32} (X : Cx_ v g cX3_copy 9 RX3 "copy" ((some .int)) rm_X3_copy) (a0 : Nat) (hF : Fi_ v g rm_X3_copy (some (v_I r)) h' M) (h : Hpx) (hm : j_X3_copy_93 a0 h = some (h', r)) : At_ v g 9 h M 0 0 93 [(0, v_R (some a0))] [] := by
  unfold j_X3_copy_93 at hm
  refine a_aload_n X dX3_copy_93 rfl ?_
  refine a_iconst (x := 5) X dX3_copy_94 (by decide) ?_
  obtain ⟨k54, hm⟩ := i_c hm
  obtain ⟨h56, r57, q55, hm⟩ := i_l hm
  refine a_callV (k' := 0) (n' := 0) (st := []) X (c_X3_finding q55) yv_X3_finding ml_X3_32 rfl (Or.inl k54) ⟨by decide, by decide, by decide, by decide, Nat.le_of_ble_eq_true rfl⟩ rfl rfl dX3_copy_95 rfl rfl ?_
  show At_ v g 9 h56 M 0 0 98 [(0, v_R (some a0))] [v_I r57]
  exact a_iret X hF ⟨(Prod.mk.inj (Option.some.inj hm)).1, rfl, (Prod.mk.inj (Option.some.inj hm)).2⟩ (by decide) dX3_copy_98
def f_X3_copy (h : Hpx) (a0 : Nat) (x1 : Int32) (x2 : Int32) (x3 : Int32) (x4 : Int32) (x5 : Int32) : Option (Hpx × Int32) :=
  (if h_k h a0 = 4 then
  (f_X3_ringAt h a0 x1).bind fun r23 =>
  (f_X3_readerAt h a0 x3).bind fun r25 =>
  (if r23 = none then
  some (h, (-1 : Int32))
  else (if r25 = none then
  some (h, (-1 : Int32))
  else (if (h_I h a0 11) = 0 then
  some (h, (-2 : Int32))
  else r23.bind fun a29 =>
  (if h_k h a29 = 3 then
  (if (h_I h a29 6) = 0 then
  (f_X2_openSlot h a29 x2).bind fun r33 =>
  (if r33 = none then
  some (h, (-11 : Int32))
  else (if x4 < 0 then
  j_X3_copy_93 a0 h
  else (if (8 : Int32) < x4 then
  j_X3_copy_93 a0 h
  else (if x5 < 0 then
  j_X3_copy_93 a0 h
  else (if x5 ≤ ((8 : Int32) - x4) then
  r25.bind fun a39 =>
  (if h_k h a39 = 2 then
  (h_R h a39 3).bind fun a41 =>
  (if h_k h a41 = 1 then
  r33.bind fun a43 =>
  (if h_k h a43 = 1 then
  (h_R h a41 0).bind fun a45 =>
  (h_R h a43 0).bind fun a46 =>
  (if h_k h a45 = 7 then
  (if h_k h a46 = 7 then
  (if ¬ x4 < 0 ∧ ¬ (0 : Int32) < 0 ∧ ¬ x5 < 0 ∧ x4.toNatClampNeg + x5.toNatClampNeg ≤ h_n h a45 ∧ (0 : Int32).toNatClampNeg + x5.toNatClampNeg ≤ h_n h a46 then
  b_d (c_J h a45 a46 x4.toNatClampNeg (0 : Int32).toNatClampNeg x5.toNatClampNeg) fun h50 =>
  some (h50, (1 : Int32)) else none) else none) else none) else none) else none) else none)
  else j_X3_copy_93 a0 h)))))
  else c_l (f_X3_finding h a0 (1 : Int32)) fun h52 r53 =>
  some (h52, r53)) else none)))) else none)
set_option maxHeartbeats 4000000 in
theorem q_X3_copy_0 {v : Evx} {g : Gvx} {M : Msx} {h' : Hpx} {r : Int32} (X : Cx_ v g cX3_copy 9 RX3 "copy" ((some .int)) rm_X3_copy) (a0 : Nat) (hF : Fi_ v g rm_X3_copy (some (v_I r)) h' M) (h : Hpx) (x1 : Int32) (x2 : Int32) (x3 : Int32) (x4 : Int32) (x5 : Int32) (hm : f_X3_copy h a0 x1 x2 x3 x4 x5 = some (h', r)) : At_ v g 9 h M 0 0 0 [(0, v_R (some a0)), (1, v_I x1), (2, v_I x2), (3, v_I x3), (4, v_I x4), (5, v_I x5)] [] := by
  unfold f_X3_copy at hm
  refine a_aload_n X dX3_copy_0 rfl ?_
  refine a_iload_n X dX3_copy_1 rfl ?_
  obtain ⟨k21, hm⟩ := i_c hm
  obtain ⟨r23, q22, hm⟩ := i_b hm
  refine a_callV (k' := 0) (n' := 0) (st := []) X (c_X3_ringAt q22) yv_X3_ringAt ml_X3_54 rfl (Or.inl k21) ⟨by decide, by decide, by decide, by decide, Nat.le_of_ble_eq_true rfl⟩ rfl rfl dX3_copy_2 rfl rfl ?_
  show At_ v g 9 h M 0 0 5 [(0, v_R (some a0)), (1, v_I x1), (2, v_I x2), (3, v_I x3), (4, v_I x4), (5, v_I x5)] [v_R r23]
  refine a_astore (lv' := [(0, v_R (some a0)), (1, v_I x1), (2, v_I x2), (3, v_I x3), (4, v_I x4), (5, v_I x5), (6, v_R r23)]) X dX3_copy_5 (by decide) rfl ?_
  refine a_aload_n X dX3_copy_7 rfl ?_
  refine a_iload_n X dX3_copy_8 rfl ?_
  obtain ⟨r25, q24, hm⟩ := i_b hm
  refine a_callV (k' := 0) (n' := 0) (st := []) X (c_X3_readerAt q24) yv_X3_readerAt ml_X3_73 rfl (Or.inl k21) ⟨by decide, by decide, by decide, by decide, Nat.le_of_ble_eq_true rfl⟩ rfl rfl dX3_copy_9 rfl rfl ?_
  show At_ v g 9 h M 0 0 12 [(0, v_R (some a0)), (1, v_I x1), (2, v_I x2), (3, v_I x3), (4, v_I x4), (5, v_I x5), (6, v_R r23)] [v_R r25]
  refine a_astore (lv' := [(0, v_R (some a0)), (1, v_I x1), (2, v_I x2), (3, v_I x3), (4, v_I x4), (5, v_I x5), (6, v_R r23), (7, v_R r25)]) X dX3_copy_12 (by decide) rfl ?_
  refine a_aload X dX3_copy_14 rfl ?_
  refine a_ifnull (tgt := 24) X dX3_copy_16 (by decide) hm (fun c26 hm => ?_) (fun c26 hm => ?_)
  · refine a_iconst (x := -1) X dX3_copy_24 (by decide) ?_
    exact a_iret X hF ⟨(Prod.mk.inj (Option.some.inj hm)).1, rfl, (Prod.mk.inj (Option.some.inj hm)).2⟩ (by decide) dX3_copy_25
  · refine a_aload X dX3_copy_19 rfl ?_
    refine a_ifnonnull (tgt := 26) X dX3_copy_21 (by decide) hm (fun c27 hm => ?_) (fun c27 hm => ?_)
    · refine a_aload_n X dX3_copy_26 rfl ?_
      refine a_getI X 3 11 rfl k21 (by decide) rfl fl_X3_41 dX3_copy_27 ?_
      refine a_if_ne (tgt := 36) X dX3_copy_30 (by decide) hm (fun c28 hm => ?_) (fun c28 hm => ?_)
      · refine a_aload X dX3_copy_36 rfl ?_
        obtain ⟨a29, ea29, hm⟩ := i_b hm
        obtain ⟨k30, hm⟩ := i_c hm
        refine a_getI X 2 6 ea29 k30 (by decide) rfl fl_X3_128 dX3_copy_38 ?_
        refine a_if_eq (tgt := 50) X dX3_copy_41 (by decide) hm (fun c31 hm => ?_) (fun c31 hm => ?_)
        · refine a_aload X dX3_copy_50 rfl ?_
          refine a_iload_n X dX3_copy_52 rfl ?_
          obtain ⟨r33, q32, hm⟩ := i_b hm
          refine a_callV (k' := 0) (n' := 0) (st := []) X (c_X2_openSlot q32) yv_X2_openSlot ml_X3_131 ea29 (Or.inl k30) ⟨by decide, by decide, by decide, by decide, Nat.le_of_ble_eq_true rfl⟩ rfl rfl dX3_copy_53 rfl rfl ?_
          show At_ v g 9 h M 0 0 56 [(0, v_R (some a0)), (1, v_I x1), (2, v_I x2), (3, v_I x3), (4, v_I x4), (5, v_I x5), (6, v_R r23), (7, v_R r25)] [v_R r33]
          refine a_astore (lv' := [(0, v_R (some a0)), (1, v_I x1), (2, v_I x2), (3, v_I x3), (4, v_I x4), (5, v_I x5), (6, v_R r23), (7, v_R r25), (8, v_R r33)]) X dX3_copy_56 (by decide) rfl ?_
          refine a_aload X dX3_copy_58 rfl ?_
          refine a_ifnonnull (tgt := 66) X dX3_copy_60 (by decide) hm (fun c34 hm => ?_) (fun c34 hm => ?_)
          · refine a_iload X dX3_copy_66 rfl ?_
            refine a_if_lt (tgt := 93) X dX3_copy_68 (by decide) hm (fun c35 hm => ?_) (fun c35 hm => ?_)
            · refine a_pick (lv' := [(0, v_R (some a0))]) [0] rfl ?_
              exact q_X3_copy_93 X a0 hF h hm
            · refine a_iload X dX3_copy_71 rfl ?_
              refine a_bipush (x := 8) X dX3_copy_73 (by decide) ?_
              refine a_icmp_gt (tgt := 93) X dX3_copy_75 (by decide) hm (fun c36 hm => ?_) (fun c36 hm => ?_)
              · refine a_pick (lv' := [(0, v_R (some a0))]) [0] rfl ?_
                exact q_X3_copy_93 X a0 hF h hm
              · refine a_iload X dX3_copy_78 rfl ?_
                refine a_if_lt (tgt := 93) X dX3_copy_80 (by decide) hm (fun c37 hm => ?_) (fun c37 hm => ?_)
                · refine a_pick (lv' := [(0, v_R (some a0))]) [0] rfl ?_
                  exact q_X3_copy_93 X a0 hF h hm
                · refine a_iload X dX3_copy_83 rfl ?_
                  refine a_bipush (x := 8) X dX3_copy_85 (by decide) ?_
                  refine a_iload X dX3_copy_87 rfl ?_
                  refine a_isub X dX3_copy_89 ?_
                  refine a_icmp_le (tgt := 99) X dX3_copy_90 (by decide) hm (fun c38 hm => ?_) (fun c38 hm => ?_)
                  · refine a_aload X dX3_copy_99 rfl ?_
                    obtain ⟨a39, ea39, hm⟩ := i_b hm
                    obtain ⟨k40, hm⟩ := i_c hm
                    refine a_getR X 1 3 ea39 k40 (by decide) rfl fl_X3_141 dX3_copy_101 ?_
                    obtain ⟨a41, ea41, hm⟩ := i_b hm
                    obtain ⟨k42, hm⟩ := i_c hm
                    refine a_getR X 0 0 ea41 k42 (by decide) rfl fl_X3_135 dX3_copy_104 ?_
                    refine a_iload X dX3_copy_107 rfl ?_
                    refine a_aload X dX3_copy_109 rfl ?_
                    obtain ⟨a43, ea43, hm⟩ := i_b hm
                    obtain ⟨k44, hm⟩ := i_c hm
                    refine a_getR X 0 0 ea43 k44 (by decide) rfl fl_X3_135 dX3_copy_111 ?_
                    refine a_iconst (x := 0) X dX3_copy_114 (by decide) ?_
                    refine a_iload X dX3_copy_115 rfl ?_
                    obtain ⟨a45, ea45, hm⟩ := i_b hm
                    obtain ⟨a46, ea46, hm⟩ := i_b hm
                    obtain ⟨k47, hm⟩ := i_c hm
                    obtain ⟨k48, hm⟩ := i_c hm
                    obtain ⟨b49, hm⟩ := i_c hm
                    obtain ⟨h50, eh50, hm⟩ := i_d hm
                    refine a_copyJ X ea45 ea46 k47 k48 b49.1 b49.2.1 b49.2.2.1 b49.2.2.2.1 b49.2.2.2.2 ml_X3_145 ⟨by decide, Nat.le_of_ble_eq_true rfl⟩ dX3_copy_117 ?_
                    rw [← eh50]
                    refine a_iconst (x := 1) X dX3_copy_120 (by decide) ?_
                    exact a_iret X hF ⟨(Prod.mk.inj (Option.some.inj hm)).1, rfl, (Prod.mk.inj (Option.some.inj hm)).2⟩ (by decide) dX3_copy_121
                  · refine a_pick (lv' := [(0, v_R (some a0))]) [0] rfl ?_
                    exact q_X3_copy_93 X a0 hF h hm
          · refine a_bipush (x := -11) X dX3_copy_63 (by decide) ?_
            exact a_iret X hF ⟨(Prod.mk.inj (Option.some.inj hm)).1, rfl, (Prod.mk.inj (Option.some.inj hm)).2⟩ (by decide) dX3_copy_65
        · refine a_aload_n X dX3_copy_44 rfl ?_
          refine a_iconst (x := 1) X dX3_copy_45 (by decide) ?_
          obtain ⟨h52, r53, q51, hm⟩ := i_l hm
          refine a_callV (k' := 0) (n' := 0) (st := []) X (c_X3_finding q51) yv_X3_finding ml_X3_32 rfl (Or.inl k21) ⟨by decide, by decide, by decide, by decide, Nat.le_of_ble_eq_true rfl⟩ rfl rfl dX3_copy_46 rfl rfl ?_
          show At_ v g 9 h52 M 0 0 49 [(0, v_R (some a0)), (1, v_I x1), (2, v_I x2), (3, v_I x3), (4, v_I x4), (5, v_I x5), (6, v_R r23), (7, v_R r25)] [v_I r53]
          exact a_iret X hF ⟨(Prod.mk.inj (Option.some.inj hm)).1, rfl, (Prod.mk.inj (Option.some.inj hm)).2⟩ (by decide) dX3_copy_49
      · refine a_bipush (x := -2) X dX3_copy_33 (by decide) ?_
        exact a_iret X hF ⟨(Prod.mk.inj (Option.some.inj hm)).1, rfl, (Prod.mk.inj (Option.some.inj hm)).2⟩ (by decide) dX3_copy_35
    · refine a_iconst (x := -1) X dX3_copy_24 (by decide) ?_
      exact a_iret X hF ⟨(Prod.mk.inj (Option.some.inj hm)).1, rfl, (Prod.mk.inj (Option.some.inj hm)).2⟩ (by decide) dX3_copy_25
theorem c_X3_copy {l : Launch} {g : Gvx} {h : Hpx} {M : Msx} {h' : Hpx} {r : Int32} {a0 : Nat} {x1 : Int32} {x2 : Int32} {x3 : Int32} {x4 : Int32} {x5 : Int32} (hm : f_X3_copy h a0 x1 x2 x3 x4 x5 = some (h', r)) : Mt_ l g yX3_copy cX3_copy 9 ((some .int)) rm_X3_copy [v_R (some a0), v_I x1, v_I x2, v_I x3, v_I x4, v_I x5] h M (some (v_I r)) h' M := mt_of (by decide) (Nat.le_of_ble_eq_true rfl) (fun v _ X hF => q_X3_copy_0 X a0 hF h x1 x2 x3 x4 x5 hm)
theorem yv_X3_copy : Yv_ yX3_copy cX3_copy 9 ((some .int)) 5 3 := ⟨rfl, by decide, ⟨by decide, by decide, by decide +kernel⟩, co_X3_copy, im_X3_copy, se_X3_copy, ini_X3⟩

abbrev rm_X3_publishSlot : Room := { frames := 3, cells := 0, slots := 0, locals := 83 }
def j_X3_publishSlot_18 (a0 : Nat) (rec_18 : Hpx → Option Nat → Int32 → Option (Hpx)) (h : Hpx) (x1 : Option Nat) (x4 : Int32) : Option (Hpx) :=
  (if (16 : Int32) ≤ x4 then
  some h
  else (if h_k h a0 = 4 then
  (f_X3_readerAt h a0 x4).bind fun r29 =>
  (if r29 = none then
  rec_18 h x1 (x4 + (1 : Int32))
  else r29.bind fun a31 =>
  (if h_k h a31 = 2 then
  (if (h_I h a31 0) = (4 : Int32) then
  (h_R h a31 1).bind fun a34 =>
  (if h_k h a34 = 3 then
  x1.bind fun a36 =>
  (if h_k h a36 = 1 then
  (if (h_I h a34 0) = (h_I h a36 1) then
  (f_X1_foldIn h a31 x1).bind fun h40 =>
  rec_18 h40 x1 (x4 + (1 : Int32))
  else rec_18 h x1 (x4 + (1 : Int32))) else none) else none)
  else rec_18 h x1 (x4 + (1 : Int32))) else none)) else none))
set_option maxHeartbeats 4000000 in
theorem q_X3_publishSlot_18 {v : Evx} {g : Gvx} {M : Msx} {h' : Hpx} (X : Cx_ v g cX3_publishSlot 6 RX3 "publishSlot" (none) rm_X3_publishSlot) (a0 : Nat) (hF : Fi_ v g rm_X3_publishSlot (none) h' M) (rec_18 : Hpx → Option Nat → Int32 → Option (Hpx)) (hr_18 : ∀ (h : Hpx) (x1 : Option Nat) (x4 : Int32), rec_18 h x1 x4 = some h' → At_ v g 6 h M 0 0 18 [(0, v_R (some a0)), (1, v_R x1), (4, v_I x4)] []) (h : Hpx) (x1 : Option Nat) (x4 : Int32) (hm : j_X3_publishSlot_18 a0 rec_18 h x1 x4 = some h') : At_ v g 6 h M 0 0 18 [(0, v_R (some a0)), (1, v_R x1), (4, v_I x4)] [] := by
  unfold j_X3_publishSlot_18 at hm
  refine a_iload X dX3_publishSlot_18 rfl ?_
  refine a_bipush (x := 16) X dX3_publishSlot_20 (by decide) ?_
  refine a_icmp_ge (tgt := 74) X dX3_publishSlot_22 (by decide) hm (fun c26 hm => ?_) (fun c26 hm => ?_)
  · exact a_vret X hF ⟨Option.some.inj hm, rfl⟩ (by decide) dX3_publishSlot_74
  · refine a_aload_n X dX3_publishSlot_25 rfl ?_
    refine a_iload X dX3_publishSlot_26 rfl ?_
    obtain ⟨k27, hm⟩ := i_c hm
    obtain ⟨r29, q28, hm⟩ := i_b hm
    refine a_callV (k' := 0) (n' := 0) (st := []) X (c_X3_readerAt q28) yv_X3_readerAt ml_X3_73 rfl (Or.inl k27) ⟨by decide, by decide, by decide, by decide, Nat.le_of_ble_eq_true rfl⟩ rfl rfl dX3_publishSlot_28 rfl rfl ?_
    show At_ v g 6 h M 0 0 31 [(0, v_R (some a0)), (1, v_R x1), (4, v_I x4)] [v_R r29]
    refine a_astore (lv' := [(0, v_R (some a0)), (1, v_R x1), (4, v_I x4), (5, v_R r29)]) X dX3_publishSlot_31 (by decide) rfl ?_
    refine a_aload X dX3_publishSlot_33 rfl ?_
    refine a_ifnull (tgt := 68) X dX3_publishSlot_35 (by decide) hm (fun c30 hm => ?_) (fun c30 hm => ?_)
    · refine a_iinc (y := x4 + (1 : Int32)) (lv' := [(0, v_R (some a0)), (1, v_R x1), (4, v_I (x4 + (1 : Int32))), (5, v_R r29)]) X dX3_publishSlot_68 rfl rfl (by decide) rfl ?_
      refine a_goto (tgt := 18) X dX3_publishSlot_71 (by decide) ?_
      refine a_pick (lv' := [(0, v_R (some a0)), (1, v_R x1), (4, v_I (x4 + (1 : Int32)))]) [0, 1, 2] rfl ?_
      exact hr_18 h x1 (x4 + (1 : Int32)) hm
    · refine a_aload X dX3_publishSlot_38 rfl ?_
      obtain ⟨a31, ea31, hm⟩ := i_b hm
      obtain ⟨k32, hm⟩ := i_c hm
      refine a_getI X 1 0 ea31 k32 (by decide) rfl fl_X3_77 dX3_publishSlot_40 ?_
      refine a_iconst (x := 4) X dX3_publishSlot_43 (by decide) ?_
      refine a_icmp_ne (tgt := 68) X dX3_publishSlot_44 (by decide) hm (fun c33 hm => ?_) (fun c33 hm => ?_)
      · refine a_iinc (y := x4 + (1 : Int32)) (lv' := [(0, v_R (some a0)), (1, v_R x1), (4, v_I (x4 + (1 : Int32))), (5, v_R r29)]) X dX3_publishSlot_68 rfl rfl (by decide) rfl ?_
        refine a_goto (tgt := 18) X dX3_publishSlot_71 (by decide) ?_
        refine a_pick (lv' := [(0, v_R (some a0)), (1, v_R x1), (4, v_I (x4 + (1 : Int32)))]) [0, 1, 2] rfl ?_
        exact hr_18 h x1 (x4 + (1 : Int32)) hm
      · refine a_aload X dX3_publishSlot_47 rfl ?_
        refine a_getR X 1 1 ea31 k32 (by decide) rfl fl_X3_94 dX3_publishSlot_49 ?_
        obtain ⟨a34, ea34, hm⟩ := i_b hm
        obtain ⟨k35, hm⟩ := i_c hm
        refine a_getI X 2 0 ea34 k35 (by decide) rfl fl_X3_98 dX3_publishSlot_52 ?_
        refine a_aload_n X dX3_publishSlot_55 rfl ?_
        obtain ⟨a36, ea36, hm⟩ := i_b hm
        obtain ⟨k37, hm⟩ := i_c hm
        refine a_getI X 0 1 ea36 k37 (by decide) rfl fl_X3_194 dX3_publishSlot_56 ?_
        refine a_icmp_ne (tgt := 68) X dX3_publishSlot_59 (by decide) hm (fun c38 hm => ?_) (fun c38 hm => ?_)
        · refine a_iinc (y := x4 + (1 : Int32)) (lv' := [(0, v_R (some a0)), (1, v_R x1), (4, v_I (x4 + (1 : Int32))), (5, v_R r29)]) X dX3_publishSlot_68 rfl rfl (by decide) rfl ?_
          refine a_goto (tgt := 18) X dX3_publishSlot_71 (by decide) ?_
          refine a_pick (lv' := [(0, v_R (some a0)), (1, v_R x1), (4, v_I (x4 + (1 : Int32)))]) [0, 1, 2] rfl ?_
          exact hr_18 h x1 (x4 + (1 : Int32)) hm
        · refine a_aload X dX3_publishSlot_62 rfl ?_
          refine a_aload_n X dX3_publishSlot_64 rfl ?_
          obtain ⟨h40, q39, hm⟩ := i_b hm
          refine a_callV (k' := 0) (n' := 0) (st := []) X (c_X1_foldIn q39) yv_X1_foldIn ml_X3_282 ea31 (Or.inl k32) ⟨by decide, by decide, by decide, by decide, Nat.le_of_ble_eq_true rfl⟩ rfl rfl dX3_publishSlot_65 rfl rfl ?_
          show At_ v g 6 h40 M 0 0 68 [(0, v_R (some a0)), (1, v_R x1), (4, v_I x4), (5, v_R r29)] []
          refine a_iinc (y := x4 + (1 : Int32)) (lv' := [(0, v_R (some a0)), (1, v_R x1), (4, v_I (x4 + (1 : Int32))), (5, v_R r29)]) X dX3_publishSlot_68 rfl rfl (by decide) rfl ?_
          refine a_goto (tgt := 18) X dX3_publishSlot_71 (by decide) ?_
          refine a_pick (lv' := [(0, v_R (some a0)), (1, v_R x1), (4, v_I (x4 + (1 : Int32)))]) [0, 1, 2] rfl ?_
          exact hr_18 h40 x1 (x4 + (1 : Int32)) hm
def l_X3_publishSlot_18 (a0 : Nat) (n : Nat) : Hpx → Option Nat → Int32 → Option (Hpx) := lp_ (fun rec_18 => j_X3_publishSlot_18 a0 rec_18) (fun _ _ _ => none) n
theorem ql_X3_publishSlot_18 {v : Evx} {g : Gvx} {M : Msx} {h' : Hpx} (X : Cx_ v g cX3_publishSlot 6 RX3 "publishSlot" (none) rm_X3_publishSlot) (a0 : Nat) (hF : Fi_ v g rm_X3_publishSlot (none) h' M) : ∀ (n : Nat) (h : Hpx) (x1 : Option Nat) (x4 : Int32), l_X3_publishSlot_18 a0 n h x1 x4 = some h' → At_ v g 6 h M 0 0 18 [(0, v_R (some a0)), (1, v_R x1), (4, v_I x4)] [] := by
  intro n
  induction n with
  | zero => intro h x1 x4 hm; cases hm
  | succ n ih =>
    intro h x1 x4 hm
    exact q_X3_publishSlot_18 X a0 hF (l_X3_publishSlot_18 a0 n) ih h x1 x4 hm
def f_X3_publishSlot (h : Hpx) (a0 : Nat) (x1 : Option Nat) (x2 : Int32) (x3 : Int32) : Option (Hpx) :=
  x1.bind fun a21 =>
  (if h_k h a21 = 1 then
  b_d (s_I h a21 4 x2) fun h23 =>
  b_d (s_I h23 a21 5 x3) fun h24 =>
  b_d (s_I h24 a21 6 (0 : Int32)) fun h25 =>
  l_X3_publishSlot_18 a0 70 h25 x1 (0 : Int32) else none)
set_option maxHeartbeats 4000000 in
theorem q_X3_publishSlot_0 {v : Evx} {g : Gvx} {M : Msx} {h' : Hpx} (X : Cx_ v g cX3_publishSlot 6 RX3 "publishSlot" (none) rm_X3_publishSlot) (a0 : Nat) (hF : Fi_ v g rm_X3_publishSlot (none) h' M) (h : Hpx) (x1 : Option Nat) (x2 : Int32) (x3 : Int32) (hm : f_X3_publishSlot h a0 x1 x2 x3 = some h') : At_ v g 6 h M 0 0 0 [(0, v_R (some a0)), (1, v_R x1), (2, v_I x2), (3, v_I x3)] [] := by
  unfold f_X3_publishSlot at hm
  refine a_aload_n X dX3_publishSlot_0 rfl ?_
  refine a_iload_n X dX3_publishSlot_1 rfl ?_
  obtain ⟨a21, ea21, hm⟩ := i_b hm
  obtain ⟨k22, hm⟩ := i_c hm
  obtain ⟨h23, eh23, hm⟩ := i_d hm
  refine a_putI X 0 4 false ea21 k22 (by decide) rfl rfl (fun q => by cases q) rfl rfl fl_X3_200 dX3_publishSlot_2 ?_
  rw [← eh23]
  refine a_aload_n X dX3_publishSlot_5 rfl ?_
  refine a_iload_n X dX3_publishSlot_6 rfl ?_
  obtain ⟨h24, eh24, hm⟩ := i_d hm
  refine a_putI X 0 5 false ea21 (kk_I eh23 k22) (by decide) rfl rfl (fun q => by cases q) rfl rfl fl_X3_203 dX3_publishSlot_7 ?_
  rw [← eh24]
  refine a_aload_n X dX3_publishSlot_10 rfl ?_
  refine a_iconst (x := 0) X dX3_publishSlot_11 (by decide) ?_
  obtain ⟨h25, eh25, hm⟩ := i_d hm
  refine a_putI X 0 6 false ea21 (kk_I eh24 (kk_I eh23 k22)) (by decide) rfl rfl (fun q => by cases q) rfl rfl fl_X3_279 dX3_publishSlot_12 ?_
  rw [← eh25]
  refine a_iconst (x := 0) X dX3_publishSlot_15 (by decide) ?_
  refine a_istore (lv' := [(0, v_R (some a0)), (1, v_R x1), (2, v_I x2), (3, v_I x3), (4, v_I (0 : Int32))]) X dX3_publishSlot_16 (by decide) rfl ?_
  refine a_pick (lv' := [(0, v_R (some a0)), (1, v_R x1), (4, v_I (0 : Int32))]) [0, 1, 4] rfl ?_
  exact ql_X3_publishSlot_18 X a0 hF 70 h25 x1 (0 : Int32) hm
theorem c_X3_publishSlot {l : Launch} {g : Gvx} {h : Hpx} {M : Msx} {h' : Hpx} {a0 : Nat} {x1 : Option Nat} {x2 : Int32} {x3 : Int32} (hm : f_X3_publishSlot h a0 x1 x2 x3 = some h') : Mt_ l g yX3_publishSlot cX3_publishSlot 6 (none) rm_X3_publishSlot [v_R (some a0), v_R x1, v_I x2, v_I x3] h M (none) h' M := mt_of (by decide) (Nat.le_of_ble_eq_true rfl) (fun v _ X hF => q_X3_publishSlot_0 X a0 hF h x1 x2 x3 hm)
theorem yv_X3_publishSlot : Yv_ yX3_publishSlot cX3_publishSlot 6 (none) 3 3 := ⟨rfl, by decide, ⟨by decide, by decide, by decide +kernel⟩, co_X3_publishSlot, im_X3_publishSlot, se_X3_publishSlot, ini_X3⟩

abbrev rm_X3_publish : Room := { frames := 4, cells := 0, slots := 0, locals := 108 }
def f_X3_publish (h : Hpx) (a0 : Nat) (x1 : Int32) (x2 : Int32) (x3 : Int32) (x4 : Int32) : Option (Hpx × Int32) :=
  (if h_k h a0 = 4 then
  (f_X3_ringAt h a0 x1).bind fun r23 =>
  (if r23 = none then
  some (h, (-1 : Int32))
  else (if x3 < 0 then
  some (h, (-1 : Int32))
  else (if (32 : Int32) ≤ x3 then
  some (h, (-1 : Int32))
  else (if x4 < 0 then
  some (h, (-1 : Int32))
  else (if x4 ≤ (8 : Int32) then
  (if (h_I h a0 11) = 0 then
  some (h, (-2 : Int32))
  else r23.bind fun a30 =>
  (if h_k h a30 = 3 then
  (if (h_I h a30 6) = 0 then
  (f_X2_openSlot h a30 x2).bind fun r34 =>
  (if r34 = none then
  some (h, (-11 : Int32))
  else (f_X3_publishSlot h a0 r34 x3 x4).bind fun h37 =>
  some (h37, (1 : Int32)))
  else some (h, (-7 : Int32))) else none))
  else some (h, (-1 : Int32))))))) else none)
set_option maxHeartbeats 4000000 in
theorem q_X3_publish_0 {v : Evx} {g : Gvx} {M : Msx} {h' : Hpx} {r : Int32} (X : Cx_ v g cX3_publish 7 RX3 "publish" ((some .int)) rm_X3_publish) (a0 : Nat) (hF : Fi_ v g rm_X3_publish (some (v_I r)) h' M) (h : Hpx) (x1 : Int32) (x2 : Int32) (x3 : Int32) (x4 : Int32) (hm : f_X3_publish h a0 x1 x2 x3 x4 = some (h', r)) : At_ v g 7 h M 0 0 0 [(0, v_R (some a0)), (1, v_I x1), (2, v_I x2), (3, v_I x3), (4, v_I x4)] [] := by
  unfold f_X3_publish at hm
  refine a_aload_n X dX3_publish_0 rfl ?_
  refine a_iload_n X dX3_publish_1 rfl ?_
  obtain ⟨k21, hm⟩ := i_c hm
  obtain ⟨r23, q22, hm⟩ := i_b hm
  refine a_callV (k' := 0) (n' := 0) (st := []) X (c_X3_ringAt q22) yv_X3_ringAt ml_X3_54 rfl (Or.inl k21) ⟨by decide, by decide, by decide, by decide, Nat.le_of_ble_eq_true rfl⟩ rfl rfl dX3_publish_2 rfl rfl ?_
  show At_ v g 7 h M 0 0 5 [(0, v_R (some a0)), (1, v_I x1), (2, v_I x2), (3, v_I x3), (4, v_I x4)] [v_R r23]
  refine a_astore (lv' := [(0, v_R (some a0)), (1, v_I x1), (2, v_I x2), (3, v_I x3), (4, v_I x4), (5, v_R r23)]) X dX3_publish_5 (by decide) rfl ?_
  refine a_aload X dX3_publish_7 rfl ?_
  refine a_ifnull (tgt := 34) X dX3_publish_9 (by decide) hm (fun c24 hm => ?_) (fun c24 hm => ?_)
  · refine a_iconst (x := -1) X dX3_publish_34 (by decide) ?_
    exact a_iret X hF ⟨(Prod.mk.inj (Option.some.inj hm)).1, rfl, (Prod.mk.inj (Option.some.inj hm)).2⟩ (by decide) dX3_publish_35
  · refine a_iload_n X dX3_publish_12 rfl ?_
    refine a_if_lt (tgt := 34) X dX3_publish_13 (by decide) hm (fun c25 hm => ?_) (fun c25 hm => ?_)
    · refine a_iconst (x := -1) X dX3_publish_34 (by decide) ?_
      exact a_iret X hF ⟨(Prod.mk.inj (Option.some.inj hm)).1, rfl, (Prod.mk.inj (Option.some.inj hm)).2⟩ (by decide) dX3_publish_35
    · refine a_iload_n X dX3_publish_16 rfl ?_
      refine a_bipush (x := 32) X dX3_publish_17 (by decide) ?_
      refine a_icmp_ge (tgt := 34) X dX3_publish_19 (by decide) hm (fun c26 hm => ?_) (fun c26 hm => ?_)
      · refine a_iconst (x := -1) X dX3_publish_34 (by decide) ?_
        exact a_iret X hF ⟨(Prod.mk.inj (Option.some.inj hm)).1, rfl, (Prod.mk.inj (Option.some.inj hm)).2⟩ (by decide) dX3_publish_35
      · refine a_iload X dX3_publish_22 rfl ?_
        refine a_if_lt (tgt := 34) X dX3_publish_24 (by decide) hm (fun c27 hm => ?_) (fun c27 hm => ?_)
        · refine a_iconst (x := -1) X dX3_publish_34 (by decide) ?_
          exact a_iret X hF ⟨(Prod.mk.inj (Option.some.inj hm)).1, rfl, (Prod.mk.inj (Option.some.inj hm)).2⟩ (by decide) dX3_publish_35
        · refine a_iload X dX3_publish_27 rfl ?_
          refine a_bipush (x := 8) X dX3_publish_29 (by decide) ?_
          refine a_icmp_le (tgt := 36) X dX3_publish_31 (by decide) hm (fun c28 hm => ?_) (fun c28 hm => ?_)
          · refine a_aload_n X dX3_publish_36 rfl ?_
            refine a_getI X 3 11 rfl k21 (by decide) rfl fl_X3_41 dX3_publish_37 ?_
            refine a_if_ne (tgt := 46) X dX3_publish_40 (by decide) hm (fun c29 hm => ?_) (fun c29 hm => ?_)
            · refine a_aload X dX3_publish_46 rfl ?_
              obtain ⟨a30, ea30, hm⟩ := i_b hm
              obtain ⟨k31, hm⟩ := i_c hm
              refine a_getI X 2 6 ea30 k31 (by decide) rfl fl_X3_128 dX3_publish_48 ?_
              refine a_if_eq (tgt := 57) X dX3_publish_51 (by decide) hm (fun c32 hm => ?_) (fun c32 hm => ?_)
              · refine a_aload X dX3_publish_57 rfl ?_
                refine a_iload_n X dX3_publish_59 rfl ?_
                obtain ⟨r34, q33, hm⟩ := i_b hm
                refine a_callV (k' := 0) (n' := 0) (st := []) X (c_X2_openSlot q33) yv_X2_openSlot ml_X3_131 ea30 (Or.inl k31) ⟨by decide, by decide, by decide, by decide, Nat.le_of_ble_eq_true rfl⟩ rfl rfl dX3_publish_60 rfl rfl ?_
                show At_ v g 7 h M 0 0 63 [(0, v_R (some a0)), (1, v_I x1), (2, v_I x2), (3, v_I x3), (4, v_I x4), (5, v_R r23)] [v_R r34]
                refine a_astore (lv' := [(0, v_R (some a0)), (1, v_I x1), (2, v_I x2), (3, v_I x3), (4, v_I x4), (5, v_R r23), (6, v_R r34)]) X dX3_publish_63 (by decide) rfl ?_
                refine a_aload X dX3_publish_65 rfl ?_
                refine a_ifnonnull (tgt := 73) X dX3_publish_67 (by decide) hm (fun c35 hm => ?_) (fun c35 hm => ?_)
                · refine a_aload_n X dX3_publish_73 rfl ?_
                  refine a_aload X dX3_publish_74 rfl ?_
                  refine a_iload_n X dX3_publish_76 rfl ?_
                  refine a_iload X dX3_publish_77 rfl ?_
                  obtain ⟨h37, q36, hm⟩ := i_b hm
                  refine a_callV (k' := 0) (n' := 0) (st := []) X (c_X3_publishSlot q36) yv_X3_publishSlot ml_X3_151 rfl (Or.inl k21) ⟨by decide, by decide, by decide, by decide, Nat.le_of_ble_eq_true rfl⟩ rfl rfl dX3_publish_79 rfl rfl ?_
                  show At_ v g 7 h37 M 0 0 82 [(0, v_R (some a0)), (1, v_I x1), (2, v_I x2), (3, v_I x3), (4, v_I x4), (5, v_R r23), (6, v_R r34)] []
                  refine a_iconst (x := 1) X dX3_publish_82 (by decide) ?_
                  exact a_iret X hF ⟨(Prod.mk.inj (Option.some.inj hm)).1, rfl, (Prod.mk.inj (Option.some.inj hm)).2⟩ (by decide) dX3_publish_83
                · refine a_bipush (x := -11) X dX3_publish_70 (by decide) ?_
                  exact a_iret X hF ⟨(Prod.mk.inj (Option.some.inj hm)).1, rfl, (Prod.mk.inj (Option.some.inj hm)).2⟩ (by decide) dX3_publish_72
              · refine a_bipush (x := -7) X dX3_publish_54 (by decide) ?_
                exact a_iret X hF ⟨(Prod.mk.inj (Option.some.inj hm)).1, rfl, (Prod.mk.inj (Option.some.inj hm)).2⟩ (by decide) dX3_publish_56
            · refine a_bipush (x := -2) X dX3_publish_43 (by decide) ?_
              exact a_iret X hF ⟨(Prod.mk.inj (Option.some.inj hm)).1, rfl, (Prod.mk.inj (Option.some.inj hm)).2⟩ (by decide) dX3_publish_45
          · refine a_iconst (x := -1) X dX3_publish_34 (by decide) ?_
            exact a_iret X hF ⟨(Prod.mk.inj (Option.some.inj hm)).1, rfl, (Prod.mk.inj (Option.some.inj hm)).2⟩ (by decide) dX3_publish_35
theorem c_X3_publish {l : Launch} {g : Gvx} {h : Hpx} {M : Msx} {h' : Hpx} {r : Int32} {a0 : Nat} {x1 : Int32} {x2 : Int32} {x3 : Int32} {x4 : Int32} (hm : f_X3_publish h a0 x1 x2 x3 x4 = some (h', r)) : Mt_ l g yX3_publish cX3_publish 7 ((some .int)) rm_X3_publish [v_R (some a0), v_I x1, v_I x2, v_I x3, v_I x4] h M (some (v_I r)) h' M := mt_of (by decide) (Nat.le_of_ble_eq_true rfl) (fun v _ X hF => q_X3_publish_0 X a0 hF h x1 x2 x3 x4 hm)
theorem yv_X3_publish : Yv_ yX3_publish cX3_publish 7 ((some .int)) 4 3 := ⟨rfl, by decide, ⟨by decide, by decide, by decide +kernel⟩, co_X3_publish, im_X3_publish, se_X3_publish, ini_X3⟩

abbrev rm_X3_close : Room := { frames := 1, cells := 0, slots := 0, locals := 21 }
def f_X3_close (h : Hpx) (a0 : Nat) (x1 : Int32) : Option (Hpx × Int32) :=
  (if h_k h a0 = 4 then
  (f_X3_ringAt h a0 x1).bind fun r23 =>
  (if r23 = none then
  some (h, (-1 : Int32))
  else (if (h_I h a0 11) = 0 then
  some (h, (-2 : Int32))
  else r23.bind fun a26 =>
  (if h_k h a26 = 3 then
  (if (h_I h a26 6) = 0 then
  (if (h_I h a26 5) = 0 then
  b_d (s_I h a26 5 (1 : Int32)) fun h30 =>
  some (h30, (1 : Int32))
  else some (h, (-8 : Int32)))
  else some (h, (-7 : Int32))) else none))) else none)
set_option maxHeartbeats 4000000 in
theorem q_X3_close_0 {v : Evx} {g : Gvx} {M : Msx} {h' : Hpx} {r : Int32} (X : Cx_ v g cX3_close 3 RX3 "close" ((some .int)) rm_X3_close) (a0 : Nat) (hF : Fi_ v g rm_X3_close (some (v_I r)) h' M) (h : Hpx) (x1 : Int32) (hm : f_X3_close h a0 x1 = some (h', r)) : At_ v g 3 h M 0 0 0 [(0, v_R (some a0)), (1, v_I x1)] [] := by
  unfold f_X3_close at hm
  refine a_aload_n X dX3_close_0 rfl ?_
  refine a_iload_n X dX3_close_1 rfl ?_
  obtain ⟨k21, hm⟩ := i_c hm
  obtain ⟨r23, q22, hm⟩ := i_b hm
  refine a_callV (k' := 0) (n' := 0) (st := []) X (c_X3_ringAt q22) yv_X3_ringAt ml_X3_54 rfl (Or.inl k21) ⟨by decide, by decide, by decide, by decide, Nat.le_of_ble_eq_true rfl⟩ rfl rfl dX3_close_2 rfl rfl ?_
  show At_ v g 3 h M 0 0 5 [(0, v_R (some a0)), (1, v_I x1)] [v_R r23]
  refine a_astore_n (lv' := [(0, v_R (some a0)), (1, v_I x1), (2, v_R r23)]) X dX3_close_5 (by decide) rfl ?_
  refine a_aload_n X dX3_close_6 rfl ?_
  refine a_ifnonnull (tgt := 12) X dX3_close_7 (by decide) hm (fun c24 hm => ?_) (fun c24 hm => ?_)
  · refine a_aload_n X dX3_close_12 rfl ?_
    refine a_getI X 3 11 rfl k21 (by decide) rfl fl_X3_41 dX3_close_13 ?_
    refine a_if_ne (tgt := 22) X dX3_close_16 (by decide) hm (fun c25 hm => ?_) (fun c25 hm => ?_)
    · refine a_aload_n X dX3_close_22 rfl ?_
      obtain ⟨a26, ea26, hm⟩ := i_b hm
      obtain ⟨k27, hm⟩ := i_c hm
      refine a_getI X 2 6 ea26 k27 (by decide) rfl fl_X3_128 dX3_close_23 ?_
      refine a_if_eq (tgt := 32) X dX3_close_26 (by decide) hm (fun c28 hm => ?_) (fun c28 hm => ?_)
      · refine a_aload_n X dX3_close_32 rfl ?_
        refine a_getI X 2 5 ea26 k27 (by decide) rfl fl_X3_155 dX3_close_33 ?_
        refine a_if_eq (tgt := 42) X dX3_close_36 (by decide) hm (fun c29 hm => ?_) (fun c29 hm => ?_)
        · refine a_aload_n X dX3_close_42 rfl ?_
          refine a_iconst (x := 1) X dX3_close_43 (by decide) ?_
          obtain ⟨h30, eh30, hm⟩ := i_d hm
          refine a_putI X 2 5 false ea26 k27 (by decide) rfl rfl (fun q => by cases q) rfl rfl fl_X3_155 dX3_close_44 ?_
          rw [← eh30]
          refine a_iconst (x := 1) X dX3_close_47 (by decide) ?_
          exact a_iret X hF ⟨(Prod.mk.inj (Option.some.inj hm)).1, rfl, (Prod.mk.inj (Option.some.inj hm)).2⟩ (by decide) dX3_close_48
        · refine a_bipush (x := -8) X dX3_close_39 (by decide) ?_
          exact a_iret X hF ⟨(Prod.mk.inj (Option.some.inj hm)).1, rfl, (Prod.mk.inj (Option.some.inj hm)).2⟩ (by decide) dX3_close_41
      · refine a_bipush (x := -7) X dX3_close_29 (by decide) ?_
        exact a_iret X hF ⟨(Prod.mk.inj (Option.some.inj hm)).1, rfl, (Prod.mk.inj (Option.some.inj hm)).2⟩ (by decide) dX3_close_31
    · refine a_bipush (x := -2) X dX3_close_19 (by decide) ?_
      exact a_iret X hF ⟨(Prod.mk.inj (Option.some.inj hm)).1, rfl, (Prod.mk.inj (Option.some.inj hm)).2⟩ (by decide) dX3_close_21
  · refine a_iconst (x := -1) X dX3_close_10 (by decide) ?_
    exact a_iret X hF ⟨(Prod.mk.inj (Option.some.inj hm)).1, rfl, (Prod.mk.inj (Option.some.inj hm)).2⟩ (by decide) dX3_close_11
theorem c_X3_close {l : Launch} {g : Gvx} {h : Hpx} {M : Msx} {h' : Hpx} {r : Int32} {a0 : Nat} {x1 : Int32} (hm : f_X3_close h a0 x1 = some (h', r)) : Mt_ l g yX3_close cX3_close 3 ((some .int)) rm_X3_close [v_R (some a0), v_I x1] h M (some (v_I r)) h' M := mt_of (by decide) (Nat.le_of_ble_eq_true rfl) (fun v _ X hF => q_X3_close_0 X a0 hF h x1 hm)
theorem yv_X3_close : Yv_ yX3_close cX3_close 3 ((some .int)) 1 3 := ⟨rfl, by decide, ⟨by decide, by decide, by decide +kernel⟩, co_X3_close, im_X3_close, se_X3_close, ini_X3⟩

abbrev rm_X3_give : Room := { frames := 2, cells := 0, slots := 0, locals := 46 }
def f_X3_give (h : Hpx) (a0 : Nat) (x1 : Int32) : Option (Hpx × Int32) :=
  (if h_k h a0 = 4 then
  (f_X3_ringAt h a0 x1).bind fun r23 =>
  (if r23 = none then
  some (h, (-1 : Int32))
  else (if (h_I h a0 11) = 0 then
  some (h, (-2 : Int32))
  else r23.bind fun a26 =>
  (if h_k h a26 = 3 then
  (if (h_I h a26 6) = 0 then
  (f_X2_countOpen h a26).bind fun r30 =>
  (if 0 < r30 then
  some (h, (-10 : Int32))
  else (f_X3_holderUpTo h a0 r23 ((h_I h a26 3) - (1 : Int32))).bind fun r33 =>
  (if r33 < 0 then
  b_d (s_I h a26 6 (1 : Int32)) fun h35 =>
  some (h35, (1 : Int32))
  else some (h, (-10 : Int32))))
  else some (h, (-7 : Int32))) else none))) else none)
set_option maxHeartbeats 4000000 in
theorem q_X3_give_0 {v : Evx} {g : Gvx} {M : Msx} {h' : Hpx} {r : Int32} (X : Cx_ v g cX3_give 3 RX3 "give" ((some .int)) rm_X3_give) (a0 : Nat) (hF : Fi_ v g rm_X3_give (some (v_I r)) h' M) (h : Hpx) (x1 : Int32) (hm : f_X3_give h a0 x1 = some (h', r)) : At_ v g 3 h M 0 0 0 [(0, v_R (some a0)), (1, v_I x1)] [] := by
  unfold f_X3_give at hm
  refine a_aload_n X dX3_give_0 rfl ?_
  refine a_iload_n X dX3_give_1 rfl ?_
  obtain ⟨k21, hm⟩ := i_c hm
  obtain ⟨r23, q22, hm⟩ := i_b hm
  refine a_callV (k' := 0) (n' := 0) (st := []) X (c_X3_ringAt q22) yv_X3_ringAt ml_X3_54 rfl (Or.inl k21) ⟨by decide, by decide, by decide, by decide, Nat.le_of_ble_eq_true rfl⟩ rfl rfl dX3_give_2 rfl rfl ?_
  show At_ v g 3 h M 0 0 5 [(0, v_R (some a0)), (1, v_I x1)] [v_R r23]
  refine a_astore_n (lv' := [(0, v_R (some a0)), (1, v_I x1), (2, v_R r23)]) X dX3_give_5 (by decide) rfl ?_
  refine a_aload_n X dX3_give_6 rfl ?_
  refine a_ifnonnull (tgt := 12) X dX3_give_7 (by decide) hm (fun c24 hm => ?_) (fun c24 hm => ?_)
  · refine a_aload_n X dX3_give_12 rfl ?_
    refine a_getI X 3 11 rfl k21 (by decide) rfl fl_X3_41 dX3_give_13 ?_
    refine a_if_ne (tgt := 22) X dX3_give_16 (by decide) hm (fun c25 hm => ?_) (fun c25 hm => ?_)
    · refine a_aload_n X dX3_give_22 rfl ?_
      obtain ⟨a26, ea26, hm⟩ := i_b hm
      obtain ⟨k27, hm⟩ := i_c hm
      refine a_getI X 2 6 ea26 k27 (by decide) rfl fl_X3_128 dX3_give_23 ?_
      refine a_if_eq (tgt := 32) X dX3_give_26 (by decide) hm (fun c28 hm => ?_) (fun c28 hm => ?_)
      · refine a_aload_n X dX3_give_32 rfl ?_
        obtain ⟨r30, q29, hm⟩ := i_b hm
        refine a_callV (k' := 0) (n' := 0) (st := []) X (c_X2_countOpen q29) yv_X2_countOpen ml_X3_158 ea26 (Or.inl k27) ⟨by decide, by decide, by decide, by decide, Nat.le_of_ble_eq_true rfl⟩ rfl rfl dX3_give_33 rfl rfl ?_
        show At_ v g 3 h M 0 0 36 [(0, v_R (some a0)), (1, v_I x1), (2, v_R r23)] [v_I r30]
        refine a_if_gt (tgt := 53) X dX3_give_36 (by decide) hm (fun c31 hm => ?_) (fun c31 hm => ?_)
        · refine a_bipush (x := -10) X dX3_give_53 (by decide) ?_
          exact a_iret X hF ⟨(Prod.mk.inj (Option.some.inj hm)).1, rfl, (Prod.mk.inj (Option.some.inj hm)).2⟩ (by decide) dX3_give_55
        · refine a_aload_n X dX3_give_39 rfl ?_
          refine a_aload_n X dX3_give_40 rfl ?_
          refine a_aload_n X dX3_give_41 rfl ?_
          refine a_getI X 2 3 ea26 k27 (by decide) rfl fl_X3_162 dX3_give_42 ?_
          refine a_iconst (x := 1) X dX3_give_45 (by decide) ?_
          refine a_isub X dX3_give_46 ?_
          obtain ⟨r33, q32, hm⟩ := i_b hm
          refine a_callV (k' := 0) (n' := 0) (st := []) X (c_X3_holderUpTo q32) yv_X3_holderUpTo ml_X3_165 rfl (Or.inl k21) ⟨by decide, by decide, by decide, by decide, Nat.le_of_ble_eq_true rfl⟩ rfl rfl dX3_give_47 rfl rfl ?_
          show At_ v g 3 h M 0 0 50 [(0, v_R (some a0)), (1, v_I x1), (2, v_R r23)] [v_I r33]
          refine a_if_lt (tgt := 56) X dX3_give_50 (by decide) hm (fun c34 hm => ?_) (fun c34 hm => ?_)
          · refine a_aload_n X dX3_give_56 rfl ?_
            refine a_iconst (x := 1) X dX3_give_57 (by decide) ?_
            obtain ⟨h35, eh35, hm⟩ := i_d hm
            refine a_putI X 2 6 false ea26 k27 (by decide) rfl rfl (fun q => by cases q) rfl rfl fl_X3_128 dX3_give_58 ?_
            rw [← eh35]
            refine a_iconst (x := 1) X dX3_give_61 (by decide) ?_
            exact a_iret X hF ⟨(Prod.mk.inj (Option.some.inj hm)).1, rfl, (Prod.mk.inj (Option.some.inj hm)).2⟩ (by decide) dX3_give_62
          · refine a_bipush (x := -10) X dX3_give_53 (by decide) ?_
            exact a_iret X hF ⟨(Prod.mk.inj (Option.some.inj hm)).1, rfl, (Prod.mk.inj (Option.some.inj hm)).2⟩ (by decide) dX3_give_55
      · refine a_bipush (x := -7) X dX3_give_29 (by decide) ?_
        exact a_iret X hF ⟨(Prod.mk.inj (Option.some.inj hm)).1, rfl, (Prod.mk.inj (Option.some.inj hm)).2⟩ (by decide) dX3_give_31
    · refine a_bipush (x := -2) X dX3_give_19 (by decide) ?_
      exact a_iret X hF ⟨(Prod.mk.inj (Option.some.inj hm)).1, rfl, (Prod.mk.inj (Option.some.inj hm)).2⟩ (by decide) dX3_give_21
  · refine a_iconst (x := -1) X dX3_give_10 (by decide) ?_
    exact a_iret X hF ⟨(Prod.mk.inj (Option.some.inj hm)).1, rfl, (Prod.mk.inj (Option.some.inj hm)).2⟩ (by decide) dX3_give_11
theorem c_X3_give {l : Launch} {g : Gvx} {h : Hpx} {M : Msx} {h' : Hpx} {r : Int32} {a0 : Nat} {x1 : Int32} (hm : f_X3_give h a0 x1 = some (h', r)) : Mt_ l g yX3_give cX3_give 3 ((some .int)) rm_X3_give [v_R (some a0), v_I x1] h M (some (v_I r)) h' M := mt_of (by decide) (Nat.le_of_ble_eq_true rfl) (fun v _ X hF => q_X3_give_0 X a0 hF h x1 hm)
theorem yv_X3_give : Yv_ yX3_give cX3_give 3 ((some .int)) 1 3 := ⟨rfl, by decide, ⟨by decide, by decide, by decide +kernel⟩, co_X3_give, im_X3_give, se_X3_give, ini_X3⟩

abbrev rm_X3_countHolders : Room := { frames := 1, cells := 0, slots := 0, locals := 21 }
def j_X3_countHolders_4 (h : Hpx) (a0 : Nat) (rec_4 : Option Nat → Int32 → Int32 → Option (Int32)) (x1 : Option Nat) (x2 : Int32) (x3 : Int32) : Option (Int32) :=
  (if (16 : Int32) ≤ x3 then
  some x2
  else (if h_k h a0 = 4 then
  (f_X3_readerAt h a0 x3).bind fun r24 =>
  (if r24 = none then
  rec_4 x1 x2 (x3 + (1 : Int32))
  else x1.bind fun a26 =>
  (if h_k h a26 = 3 then
  r24.bind fun a28 =>
  (if h_k h a28 = 2 then
  (f_X1_heldPlace h a28 (h_I h a26 0)).bind fun r31 =>
  (if r31 < 0 then
  rec_4 x1 x2 (x3 + (1 : Int32))
  else rec_4 x1 (x2 + (1 : Int32)) (x3 + (1 : Int32))) else none) else none)) else none))
set_option maxHeartbeats 4000000 in
theorem q_X3_countHolders_4 {v : Evx} {g : Gvx} {M : Msx} {r : Int32} (X : Cx_ v g cX3_countHolders 5 RX3 "countHolders" ((some .int)) rm_X3_countHolders) (h : Hpx) (a0 : Nat) (hF : Fi_ v g rm_X3_countHolders (some (v_I r)) h M) (rec_4 : Option Nat → Int32 → Int32 → Option (Int32)) (hr_4 : ∀ (x1 : Option Nat) (x2 : Int32) (x3 : Int32), rec_4 x1 x2 x3 = some r → At_ v g 5 h M 0 0 4 [(0, v_R (some a0)), (1, v_R x1), (2, v_I x2), (3, v_I x3)] []) (x1 : Option Nat) (x2 : Int32) (x3 : Int32) (hm : j_X3_countHolders_4 h a0 rec_4 x1 x2 x3 = some r) : At_ v g 5 h M 0 0 4 [(0, v_R (some a0)), (1, v_R x1), (2, v_I x2), (3, v_I x3)] [] := by
  unfold j_X3_countHolders_4 at hm
  refine a_iload_n X dX3_countHolders_4 rfl ?_
  refine a_bipush (x := 16) X dX3_countHolders_5 (by decide) ?_
  refine a_icmp_ge (tgt := 43) X dX3_countHolders_7 (by decide) hm (fun c21 hm => ?_) (fun c21 hm => ?_)
  · refine a_iload_n X dX3_countHolders_43 rfl ?_
    exact a_iret X hF ⟨rfl, rfl, Option.some.inj hm⟩ (by decide) dX3_countHolders_44
  · refine a_aload_n X dX3_countHolders_10 rfl ?_
    refine a_iload_n X dX3_countHolders_11 rfl ?_
    obtain ⟨k22, hm⟩ := i_c hm
    obtain ⟨r24, q23, hm⟩ := i_b hm
    refine a_callV (k' := 0) (n' := 0) (st := []) X (c_X3_readerAt q23) yv_X3_readerAt ml_X3_73 rfl (Or.inl k22) ⟨by decide, by decide, by decide, by decide, Nat.le_of_ble_eq_true rfl⟩ rfl rfl dX3_countHolders_12 rfl rfl ?_
    show At_ v g 5 h M 0 0 15 [(0, v_R (some a0)), (1, v_R x1), (2, v_I x2), (3, v_I x3)] [v_R r24]
    refine a_astore (lv' := [(0, v_R (some a0)), (1, v_R x1), (2, v_I x2), (3, v_I x3), (4, v_R r24)]) X dX3_countHolders_15 (by decide) rfl ?_
    refine a_aload X dX3_countHolders_17 rfl ?_
    refine a_ifnull (tgt := 37) X dX3_countHolders_19 (by decide) hm (fun c25 hm => ?_) (fun c25 hm => ?_)
    · refine a_iinc (y := x3 + (1 : Int32)) (lv' := [(0, v_R (some a0)), (1, v_R x1), (2, v_I x2), (3, v_I (x3 + (1 : Int32))), (4, v_R r24)]) X dX3_countHolders_37 rfl rfl (by decide) rfl ?_
      refine a_goto (tgt := 4) X dX3_countHolders_40 (by decide) ?_
      refine a_pick (lv' := [(0, v_R (some a0)), (1, v_R x1), (2, v_I x2), (3, v_I (x3 + (1 : Int32)))]) [0, 1, 2, 3] rfl ?_
      exact hr_4 x1 x2 (x3 + (1 : Int32)) hm
    · refine a_aload X dX3_countHolders_22 rfl ?_
      refine a_aload_n X dX3_countHolders_24 rfl ?_
      obtain ⟨a26, ea26, hm⟩ := i_b hm
      obtain ⟨k27, hm⟩ := i_c hm
      refine a_getI X 2 0 ea26 k27 (by decide) rfl fl_X3_98 dX3_countHolders_25 ?_
      obtain ⟨a28, ea28, hm⟩ := i_b hm
      obtain ⟨k29, hm⟩ := i_c hm
      obtain ⟨r31, q30, hm⟩ := i_b hm
      refine a_callV (k' := 0) (n' := 0) (st := []) X (c_X1_heldPlace q30) yv_X1_heldPlace ml_X3_271 ea28 (Or.inl k29) ⟨by decide, by decide, by decide, by decide, Nat.le_of_ble_eq_true rfl⟩ rfl rfl dX3_countHolders_28 rfl rfl ?_
      show At_ v g 5 h M 0 0 31 [(0, v_R (some a0)), (1, v_R x1), (2, v_I x2), (3, v_I x3), (4, v_R r24)] [v_I r31]
      refine a_if_lt (tgt := 37) X dX3_countHolders_31 (by decide) hm (fun c32 hm => ?_) (fun c32 hm => ?_)
      · refine a_iinc (y := x3 + (1 : Int32)) (lv' := [(0, v_R (some a0)), (1, v_R x1), (2, v_I x2), (3, v_I (x3 + (1 : Int32))), (4, v_R r24)]) X dX3_countHolders_37 rfl rfl (by decide) rfl ?_
        refine a_goto (tgt := 4) X dX3_countHolders_40 (by decide) ?_
        refine a_pick (lv' := [(0, v_R (some a0)), (1, v_R x1), (2, v_I x2), (3, v_I (x3 + (1 : Int32)))]) [0, 1, 2, 3] rfl ?_
        exact hr_4 x1 x2 (x3 + (1 : Int32)) hm
      · refine a_iinc (y := x2 + (1 : Int32)) (lv' := [(0, v_R (some a0)), (1, v_R x1), (2, v_I (x2 + (1 : Int32))), (3, v_I x3), (4, v_R r24)]) X dX3_countHolders_34 rfl rfl (by decide) rfl ?_
        refine a_iinc (y := x3 + (1 : Int32)) (lv' := [(0, v_R (some a0)), (1, v_R x1), (2, v_I (x2 + (1 : Int32))), (3, v_I (x3 + (1 : Int32))), (4, v_R r24)]) X dX3_countHolders_37 rfl rfl (by decide) rfl ?_
        refine a_goto (tgt := 4) X dX3_countHolders_40 (by decide) ?_
        refine a_pick (lv' := [(0, v_R (some a0)), (1, v_R x1), (2, v_I (x2 + (1 : Int32))), (3, v_I (x3 + (1 : Int32)))]) [0, 1, 2, 3] rfl ?_
        exact hr_4 x1 (x2 + (1 : Int32)) (x3 + (1 : Int32)) hm
def l_X3_countHolders_4 (h : Hpx) (a0 : Nat) (n : Nat) : Option Nat → Int32 → Int32 → Option (Int32) := lp_ (fun rec_4 => j_X3_countHolders_4 h a0 rec_4) (fun _ _ _ => none) n
theorem ql_X3_countHolders_4 {v : Evx} {g : Gvx} {M : Msx} {r : Int32} (X : Cx_ v g cX3_countHolders 5 RX3 "countHolders" ((some .int)) rm_X3_countHolders) (h : Hpx) (a0 : Nat) (hF : Fi_ v g rm_X3_countHolders (some (v_I r)) h M) : ∀ (n : Nat) (x1 : Option Nat) (x2 : Int32) (x3 : Int32), l_X3_countHolders_4 h a0 n x1 x2 x3 = some r → At_ v g 5 h M 0 0 4 [(0, v_R (some a0)), (1, v_R x1), (2, v_I x2), (3, v_I x3)] [] := by
  intro n
  induction n with
  | zero => intro x1 x2 x3 hm; cases hm
  | succ n ih =>
    intro x1 x2 x3 hm
    exact q_X3_countHolders_4 X h a0 hF (l_X3_countHolders_4 h a0 n) ih x1 x2 x3 hm
def f_X3_countHolders (h : Hpx) (a0 : Nat) (x1 : Option Nat) : Option (Int32) :=
  l_X3_countHolders_4 h a0 70 x1 (0 : Int32) (0 : Int32)
set_option maxHeartbeats 4000000 in
theorem q_X3_countHolders_0 {v : Evx} {g : Gvx} {M : Msx} {r : Int32} (X : Cx_ v g cX3_countHolders 5 RX3 "countHolders" ((some .int)) rm_X3_countHolders) (h : Hpx) (a0 : Nat) (hF : Fi_ v g rm_X3_countHolders (some (v_I r)) h M) (x1 : Option Nat) (hm : f_X3_countHolders h a0 x1 = some r) : At_ v g 5 h M 0 0 0 [(0, v_R (some a0)), (1, v_R x1)] [] := by
  unfold f_X3_countHolders at hm
  refine a_iconst (x := 0) X dX3_countHolders_0 (by decide) ?_
  refine a_istore_n (lv' := [(0, v_R (some a0)), (1, v_R x1), (2, v_I (0 : Int32))]) X dX3_countHolders_1 (by decide) rfl ?_
  refine a_iconst (x := 0) X dX3_countHolders_2 (by decide) ?_
  refine a_istore_n (lv' := [(0, v_R (some a0)), (1, v_R x1), (2, v_I (0 : Int32)), (3, v_I (0 : Int32))]) X dX3_countHolders_3 (by decide) rfl ?_
  exact ql_X3_countHolders_4 X h a0 hF 70 x1 (0 : Int32) (0 : Int32) hm
theorem c_X3_countHolders {l : Launch} {g : Gvx} {h : Hpx} {M : Msx} {r : Int32} {a0 : Nat} {x1 : Option Nat} (hm : f_X3_countHolders h a0 x1 = some r) : Mt_ l g yX3_countHolders cX3_countHolders 5 ((some .int)) rm_X3_countHolders [v_R (some a0), v_R x1] h M (some (v_I r)) h M := mt_of (by decide) (Nat.le_of_ble_eq_true rfl) (fun v _ X hF => q_X3_countHolders_0 X h a0 hF x1 hm)
theorem yv_X3_countHolders : Yv_ yX3_countHolders cX3_countHolders 5 ((some .int)) 1 3 := ⟨rfl, by decide, ⟨by decide, by decide, by decide +kernel⟩, co_X3_countHolders, im_X3_countHolders, se_X3_countHolders, ini_X3⟩

abbrev rm_X3_leastHolderPlace : Room := { frames := 1, cells := 0, slots := 0, locals := 21 }
def j_X3_leastHolderPlace_35 (h : Hpx) (a0 : Nat) (rec_4 : Option Nat → Int32 → Int32 → Option (Int32)) (x1 : Option Nat) (x2 : Int32) (x3 : Int32) (y0 : Int32) : Option (Int32) :=
  (if y0 < 0 then
  rec_4 x1 x2 (x3 + (1 : Int32))
  else (if 0 ≤ x2 then
  rec_4 x1 (if y0 < x2 then y0 else x2) (x3 + (1 : Int32))
  else rec_4 x1 y0 (x3 + (1 : Int32))))
set_option maxHeartbeats 4000000 in
theorem q_X3_leastHolderPlace_35 {v : Evx} {g : Gvx} {M : Msx} {r : Int32} (X : Cx_ v g cX3_leastHolderPlace 6 RX3 "leastHolderPlace" ((some .int)) rm_X3_leastHolderPlace) (h : Hpx) (a0 : Nat) (hF : Fi_ v g rm_X3_leastHolderPlace (some (v_I r)) h M) (rec_4 : Option Nat → Int32 → Int32 → Option (Int32)) (hr_4 : ∀ (x1 : Option Nat) (x2 : Int32) (x3 : Int32), rec_4 x1 x2 x3 = some r → At_ v g 6 h M 0 0 4 [(0, v_R (some a0)), (1, v_R x1), (2, v_I x2), (3, v_I x3)] []) (x1 : Option Nat) (x2 : Int32) (x3 : Int32) (y0 : Int32) (hm : j_X3_leastHolderPlace_35 h a0 rec_4 x1 x2 x3 y0 = some r) : At_ v g 6 h M 0 0 35 [(0, v_R (some a0)), (1, v_R x1), (2, v_I x2), (3, v_I x3)] [v_I y0] := by
  unfold j_X3_leastHolderPlace_35 at hm
  refine a_istore (lv' := [(0, v_R (some a0)), (1, v_R x1), (2, v_I x2), (3, v_I x3), (5, v_I y0)]) X dX3_leastHolderPlace_35 (by decide) rfl ?_
  refine a_iload X dX3_leastHolderPlace_37 rfl ?_
  refine a_if_lt (tgt := 58) X dX3_leastHolderPlace_39 (by decide) hm (fun c32 hm => ?_) (fun c32 hm => ?_)
  · refine a_iinc (y := x3 + (1 : Int32)) (lv' := [(0, v_R (some a0)), (1, v_R x1), (2, v_I x2), (3, v_I (x3 + (1 : Int32))), (5, v_I y0)]) X dX3_leastHolderPlace_58 rfl rfl (by decide) rfl ?_
    refine a_goto (tgt := 4) X dX3_leastHolderPlace_61 (by decide) ?_
    refine a_pick (lv' := [(0, v_R (some a0)), (1, v_R x1), (2, v_I x2), (3, v_I (x3 + (1 : Int32)))]) [0, 1, 2, 3] rfl ?_
    exact hr_4 x1 x2 (x3 + (1 : Int32)) hm
  · refine a_iload_n X dX3_leastHolderPlace_42 rfl ?_
    refine a_if_ge (tgt := 51) X dX3_leastHolderPlace_43 (by decide) hm (fun c33 hm => ?_) (fun c33 hm => ?_)
    · refine a_iload_n X dX3_leastHolderPlace_51 rfl ?_
      refine a_iload X dX3_leastHolderPlace_52 rfl ?_
      refine a_mmin X ml_X3_274 ⟨by decide, Nat.le_of_ble_eq_true rfl, by decide, by decide⟩ dX3_leastHolderPlace_54 ?_
      refine a_istore_n (lv' := [(0, v_R (some a0)), (1, v_R x1), (2, v_I (if y0 < x2 then y0 else x2)), (3, v_I x3), (5, v_I y0)]) X dX3_leastHolderPlace_57 (by decide) rfl ?_
      refine a_iinc (y := x3 + (1 : Int32)) (lv' := [(0, v_R (some a0)), (1, v_R x1), (2, v_I (if y0 < x2 then y0 else x2)), (3, v_I (x3 + (1 : Int32))), (5, v_I y0)]) X dX3_leastHolderPlace_58 rfl rfl (by decide) rfl ?_
      refine a_goto (tgt := 4) X dX3_leastHolderPlace_61 (by decide) ?_
      refine a_pick (lv' := [(0, v_R (some a0)), (1, v_R x1), (2, v_I (if y0 < x2 then y0 else x2)), (3, v_I (x3 + (1 : Int32)))]) [0, 1, 2, 3] rfl ?_
      exact hr_4 x1 (if y0 < x2 then y0 else x2) (x3 + (1 : Int32)) hm
    · refine a_iload X dX3_leastHolderPlace_46 rfl ?_
      refine a_goto (tgt := 57) X dX3_leastHolderPlace_48 (by decide) ?_
      refine a_istore_n (lv' := [(0, v_R (some a0)), (1, v_R x1), (2, v_I y0), (3, v_I x3), (5, v_I y0)]) X dX3_leastHolderPlace_57 (by decide) rfl ?_
      refine a_iinc (y := x3 + (1 : Int32)) (lv' := [(0, v_R (some a0)), (1, v_R x1), (2, v_I y0), (3, v_I (x3 + (1 : Int32))), (5, v_I y0)]) X dX3_leastHolderPlace_58 rfl rfl (by decide) rfl ?_
      refine a_goto (tgt := 4) X dX3_leastHolderPlace_61 (by decide) ?_
      refine a_pick (lv' := [(0, v_R (some a0)), (1, v_R x1), (2, v_I y0), (3, v_I (x3 + (1 : Int32)))]) [0, 1, 2, 3] rfl ?_
      exact hr_4 x1 y0 (x3 + (1 : Int32)) hm
def j_X3_leastHolderPlace_4 (h : Hpx) (a0 : Nat) (rec_4 : Option Nat → Int32 → Int32 → Option (Int32)) (x1 : Option Nat) (x2 : Int32) (x3 : Int32) : Option (Int32) :=
  (if (16 : Int32) ≤ x3 then
  some x2
  else (if h_k h a0 = 4 then
  (f_X3_readerAt h a0 x3).bind fun r24 =>
  (if r24 = none then
  j_X3_leastHolderPlace_35 h a0 rec_4 x1 x2 x3 (-1 : Int32)
  else x1.bind fun a26 =>
  (if h_k h a26 = 3 then
  r24.bind fun a28 =>
  (if h_k h a28 = 2 then
  (f_X1_heldPlace h a28 (h_I h a26 0)).bind fun r31 =>
  j_X3_leastHolderPlace_35 h a0 rec_4 x1 x2 x3 r31 else none) else none)) else none))
set_option maxHeartbeats 4000000 in
theorem q_X3_leastHolderPlace_4 {v : Evx} {g : Gvx} {M : Msx} {r : Int32} (X : Cx_ v g cX3_leastHolderPlace 6 RX3 "leastHolderPlace" ((some .int)) rm_X3_leastHolderPlace) (h : Hpx) (a0 : Nat) (hF : Fi_ v g rm_X3_leastHolderPlace (some (v_I r)) h M) (rec_4 : Option Nat → Int32 → Int32 → Option (Int32)) (hr_4 : ∀ (x1 : Option Nat) (x2 : Int32) (x3 : Int32), rec_4 x1 x2 x3 = some r → At_ v g 6 h M 0 0 4 [(0, v_R (some a0)), (1, v_R x1), (2, v_I x2), (3, v_I x3)] []) (x1 : Option Nat) (x2 : Int32) (x3 : Int32) (hm : j_X3_leastHolderPlace_4 h a0 rec_4 x1 x2 x3 = some r) : At_ v g 6 h M 0 0 4 [(0, v_R (some a0)), (1, v_R x1), (2, v_I x2), (3, v_I x3)] [] := by
  unfold j_X3_leastHolderPlace_4 at hm
  refine a_iload_n X dX3_leastHolderPlace_4 rfl ?_
  refine a_bipush (x := 16) X dX3_leastHolderPlace_5 (by decide) ?_
  refine a_icmp_ge (tgt := 64) X dX3_leastHolderPlace_7 (by decide) hm (fun c21 hm => ?_) (fun c21 hm => ?_)
  · refine a_iload_n X dX3_leastHolderPlace_64 rfl ?_
    exact a_iret X hF ⟨rfl, rfl, Option.some.inj hm⟩ (by decide) dX3_leastHolderPlace_65
  · refine a_aload_n X dX3_leastHolderPlace_10 rfl ?_
    refine a_iload_n X dX3_leastHolderPlace_11 rfl ?_
    obtain ⟨k22, hm⟩ := i_c hm
    obtain ⟨r24, q23, hm⟩ := i_b hm
    refine a_callV (k' := 0) (n' := 0) (st := []) X (c_X3_readerAt q23) yv_X3_readerAt ml_X3_73 rfl (Or.inl k22) ⟨by decide, by decide, by decide, by decide, Nat.le_of_ble_eq_true rfl⟩ rfl rfl dX3_leastHolderPlace_12 rfl rfl ?_
    show At_ v g 6 h M 0 0 15 [(0, v_R (some a0)), (1, v_R x1), (2, v_I x2), (3, v_I x3)] [v_R r24]
    refine a_astore (lv' := [(0, v_R (some a0)), (1, v_R x1), (2, v_I x2), (3, v_I x3), (4, v_R r24)]) X dX3_leastHolderPlace_15 (by decide) rfl ?_
    refine a_aload X dX3_leastHolderPlace_17 rfl ?_
    refine a_ifnonnull (tgt := 26) X dX3_leastHolderPlace_19 (by decide) hm (fun c25 hm => ?_) (fun c25 hm => ?_)
    · refine a_aload X dX3_leastHolderPlace_26 rfl ?_
      refine a_aload_n X dX3_leastHolderPlace_28 rfl ?_
      obtain ⟨a26, ea26, hm⟩ := i_b hm
      obtain ⟨k27, hm⟩ := i_c hm
      refine a_getI X 2 0 ea26 k27 (by decide) rfl fl_X3_98 dX3_leastHolderPlace_29 ?_
      obtain ⟨a28, ea28, hm⟩ := i_b hm
      obtain ⟨k29, hm⟩ := i_c hm
      obtain ⟨r31, q30, hm⟩ := i_b hm
      refine a_callV (k' := 0) (n' := 0) (st := []) X (c_X1_heldPlace q30) yv_X1_heldPlace ml_X3_271 ea28 (Or.inl k29) ⟨by decide, by decide, by decide, by decide, Nat.le_of_ble_eq_true rfl⟩ rfl rfl dX3_leastHolderPlace_32 rfl rfl ?_
      show At_ v g 6 h M 0 0 35 [(0, v_R (some a0)), (1, v_R x1), (2, v_I x2), (3, v_I x3), (4, v_R r24)] [v_I r31]
      refine a_pick (lv' := [(0, v_R (some a0)), (1, v_R x1), (2, v_I x2), (3, v_I x3)]) [0, 1, 2, 3] rfl ?_
      exact q_X3_leastHolderPlace_35 X h a0 hF rec_4 hr_4 x1 x2 x3 r31 hm
    · refine a_iconst (x := -1) X dX3_leastHolderPlace_22 (by decide) ?_
      refine a_goto (tgt := 35) X dX3_leastHolderPlace_23 (by decide) ?_
      refine a_pick (lv' := [(0, v_R (some a0)), (1, v_R x1), (2, v_I x2), (3, v_I x3)]) [0, 1, 2, 3] rfl ?_
      exact q_X3_leastHolderPlace_35 X h a0 hF rec_4 hr_4 x1 x2 x3 (-1 : Int32) hm
def l_X3_leastHolderPlace_4 (h : Hpx) (a0 : Nat) (n : Nat) : Option Nat → Int32 → Int32 → Option (Int32) := lp_ (fun rec_4 => j_X3_leastHolderPlace_4 h a0 rec_4) (fun _ _ _ => none) n
theorem ql_X3_leastHolderPlace_4 {v : Evx} {g : Gvx} {M : Msx} {r : Int32} (X : Cx_ v g cX3_leastHolderPlace 6 RX3 "leastHolderPlace" ((some .int)) rm_X3_leastHolderPlace) (h : Hpx) (a0 : Nat) (hF : Fi_ v g rm_X3_leastHolderPlace (some (v_I r)) h M) : ∀ (n : Nat) (x1 : Option Nat) (x2 : Int32) (x3 : Int32), l_X3_leastHolderPlace_4 h a0 n x1 x2 x3 = some r → At_ v g 6 h M 0 0 4 [(0, v_R (some a0)), (1, v_R x1), (2, v_I x2), (3, v_I x3)] [] := by
  intro n
  induction n with
  | zero => intro x1 x2 x3 hm; cases hm
  | succ n ih =>
    intro x1 x2 x3 hm
    exact q_X3_leastHolderPlace_4 X h a0 hF (l_X3_leastHolderPlace_4 h a0 n) ih x1 x2 x3 hm
def f_X3_leastHolderPlace (h : Hpx) (a0 : Nat) (x1 : Option Nat) : Option (Int32) :=
  l_X3_leastHolderPlace_4 h a0 70 x1 (-1 : Int32) (0 : Int32)
set_option maxHeartbeats 4000000 in
theorem q_X3_leastHolderPlace_0 {v : Evx} {g : Gvx} {M : Msx} {r : Int32} (X : Cx_ v g cX3_leastHolderPlace 6 RX3 "leastHolderPlace" ((some .int)) rm_X3_leastHolderPlace) (h : Hpx) (a0 : Nat) (hF : Fi_ v g rm_X3_leastHolderPlace (some (v_I r)) h M) (x1 : Option Nat) (hm : f_X3_leastHolderPlace h a0 x1 = some r) : At_ v g 6 h M 0 0 0 [(0, v_R (some a0)), (1, v_R x1)] [] := by
  unfold f_X3_leastHolderPlace at hm
  refine a_iconst (x := -1) X dX3_leastHolderPlace_0 (by decide) ?_
  refine a_istore_n (lv' := [(0, v_R (some a0)), (1, v_R x1), (2, v_I (-1 : Int32))]) X dX3_leastHolderPlace_1 (by decide) rfl ?_
  refine a_iconst (x := 0) X dX3_leastHolderPlace_2 (by decide) ?_
  refine a_istore_n (lv' := [(0, v_R (some a0)), (1, v_R x1), (2, v_I (-1 : Int32)), (3, v_I (0 : Int32))]) X dX3_leastHolderPlace_3 (by decide) rfl ?_
  exact ql_X3_leastHolderPlace_4 X h a0 hF 70 x1 (-1 : Int32) (0 : Int32) hm
theorem c_X3_leastHolderPlace {l : Launch} {g : Gvx} {h : Hpx} {M : Msx} {r : Int32} {a0 : Nat} {x1 : Option Nat} (hm : f_X3_leastHolderPlace h a0 x1 = some r) : Mt_ l g yX3_leastHolderPlace cX3_leastHolderPlace 6 ((some .int)) rm_X3_leastHolderPlace [v_R (some a0), v_R x1] h M (some (v_I r)) h M := mt_of (by decide) (Nat.le_of_ble_eq_true rfl) (fun v _ X hF => q_X3_leastHolderPlace_0 X h a0 hF x1 hm)
theorem yv_X3_leastHolderPlace : Yv_ yX3_leastHolderPlace cX3_leastHolderPlace 6 ((some .int)) 1 3 := ⟨rfl, by decide, ⟨by decide, by decide, by decide +kernel⟩, co_X3_leastHolderPlace, im_X3_leastHolderPlace, se_X3_leastHolderPlace, ini_X3⟩

abbrev rm_X3_told : Room := { frames := 3, cells := 0, slots := 0, locals := 69 }
def f_X3_told (h : Hpx) (a0 : Nat) (x1 : Int32) (x2 : Int32) : Option (Hpx × Int32) :=
  (if x2 < 0 then
  some (h, (-1 : Int32))
  else (if x2 ≤ (6 : Int32) then
  (if h_k h a0 = 4 then
  (f_X3_ringAt h a0 x1).bind fun r25 =>
  (if r25 = none then
  c_l (f_X3_finding h a0 (2 : Int32)) fun h55 r56 =>
  some (h55, r56)
  else (if x2 = 0 then
  r25.bind fun a52 =>
  (if h_k h a52 = 3 then
  some (h, (h_I h a52 1)) else none)
  else (if x2 = 1 then
  r25.bind fun a50 =>
  (if h_k h a50 = 3 then
  some (h, (h_I h a50 3)) else none)
  else (if x2 = 2 then
  r25.bind fun a46 =>
  (if h_k h a46 = 3 then
  (f_X2_countOpen h a46).bind fun r49 =>
  some (h, r49) else none)
  else (if x2 = 3 then
  (f_X3_leastHolderPlace h a0 r25).bind fun r45 =>
  some (h, r45)
  else (if x2 = 4 then
  (f_X3_countHolders h a0 r25).bind fun r43 =>
  some (h, r43)
  else (if x2 = 5 then
  r25.bind fun a37 =>
  (if h_k h a37 = 3 then
  (f_X3_isHeldUp h a0 r25 (h_I h a37 3)).bind fun r40 =>
  (if r40 = 0 then
  some (h, (0 : Int32))
  else some (h, (1 : Int32))) else none)
  else r25.bind fun a33 =>
  (if h_k h a33 = 3 then
  (if (h_I h a33 6) = 0 then
  (if (h_I h a33 5) = 0 then
  some (h, (0 : Int32))
  else some (h, (1 : Int32)))
  else some (h, (2 : Int32))) else none)))))))) else none)
  else some (h, (-1 : Int32))))
set_option maxHeartbeats 4000000 in
theorem q_X3_told_0 {v : Evx} {g : Gvx} {M : Msx} {h' : Hpx} {r : Int32} (X : Cx_ v g cX3_told 4 RX3 "told" ((some .int)) rm_X3_told) (a0 : Nat) (hF : Fi_ v g rm_X3_told (some (v_I r)) h' M) (h : Hpx) (x1 : Int32) (x2 : Int32) (hm : f_X3_told h a0 x1 x2 = some (h', r)) : At_ v g 4 h M 0 0 0 [(0, v_R (some a0)), (1, v_I x1), (2, v_I x2)] [] := by
  unfold f_X3_told at hm
  refine a_iload_n X dX3_told_0 rfl ?_
  refine a_if_lt (tgt := 10) X dX3_told_1 (by decide) hm (fun c21 hm => ?_) (fun c21 hm => ?_)
  · refine a_iconst (x := -1) X dX3_told_10 (by decide) ?_
    exact a_iret X hF ⟨(Prod.mk.inj (Option.some.inj hm)).1, rfl, (Prod.mk.inj (Option.some.inj hm)).2⟩ (by decide) dX3_told_11
  · refine a_iload_n X dX3_told_4 rfl ?_
    refine a_bipush (x := 6) X dX3_told_5 (by decide) ?_
    refine a_icmp_le (tgt := 12) X dX3_told_7 (by decide) hm (fun c22 hm => ?_) (fun c22 hm => ?_)
    · refine a_aload_n X dX3_told_12 rfl ?_
      refine a_iload_n X dX3_told_13 rfl ?_
      obtain ⟨k23, hm⟩ := i_c hm
      obtain ⟨r25, q24, hm⟩ := i_b hm
      refine a_callV (k' := 0) (n' := 0) (st := []) X (c_X3_ringAt q24) yv_X3_ringAt ml_X3_54 rfl (Or.inl k23) ⟨by decide, by decide, by decide, by decide, Nat.le_of_ble_eq_true rfl⟩ rfl rfl dX3_told_14 rfl rfl ?_
      show At_ v g 4 h M 0 0 17 [(0, v_R (some a0)), (1, v_I x1), (2, v_I x2)] [v_R r25]
      refine a_astore_n (lv' := [(0, v_R (some a0)), (1, v_I x1), (2, v_I x2), (3, v_R r25)]) X dX3_told_17 (by decide) rfl ?_
      refine a_aload_n X dX3_told_18 rfl ?_
      refine a_ifnonnull (tgt := 28) X dX3_told_19 (by decide) hm (fun c26 hm => ?_) (fun c26 hm => ?_)
      · refine a_iload_n X dX3_told_28 rfl ?_
        by_cases c27 : x2 = 0
        · have hm := i_p hm c27
          refine a_tsIn (c := 0) (off := 39) (tgt := 68) X dX3_told_29 c27 (by decide) (by decide) rfl (by decide) ?_
          refine a_aload_n X dX3_told_68 rfl ?_
          obtain ⟨a52, ea52, hm⟩ := i_b hm
          obtain ⟨k53, hm⟩ := i_c hm
          refine a_getI X 2 1 ea52 k53 (by decide) rfl fl_X3_169 dX3_told_69 ?_
          exact a_iret X hF ⟨(Prod.mk.inj (Option.some.inj hm)).1, rfl, (Prod.mk.inj (Option.some.inj hm)).2⟩ (by decide) dX3_told_72
        · have hm := i_n hm c27
          by_cases c28 : x2 = 1
          · have hm := i_p hm c28
            refine a_tsIn (c := 1) (off := 44) (tgt := 73) X dX3_told_29 c28 (by decide) (by decide) rfl (by decide) ?_
            refine a_aload_n X dX3_told_73 rfl ?_
            obtain ⟨a50, ea50, hm⟩ := i_b hm
            obtain ⟨k51, hm⟩ := i_c hm
            refine a_getI X 2 3 ea50 k51 (by decide) rfl fl_X3_162 dX3_told_74 ?_
            exact a_iret X hF ⟨(Prod.mk.inj (Option.some.inj hm)).1, rfl, (Prod.mk.inj (Option.some.inj hm)).2⟩ (by decide) dX3_told_77
          · have hm := i_n hm c28
            by_cases c29 : x2 = 2
            · have hm := i_p hm c29
              refine a_tsIn (c := 2) (off := 49) (tgt := 78) X dX3_told_29 c29 (by decide) (by decide) rfl (by decide) ?_
              refine a_aload_n X dX3_told_78 rfl ?_
              obtain ⟨a46, ea46, hm⟩ := i_b hm
              obtain ⟨k47, hm⟩ := i_c hm
              obtain ⟨r49, q48, hm⟩ := i_b hm
              refine a_callV (k' := 0) (n' := 0) (st := []) X (c_X2_countOpen q48) yv_X2_countOpen ml_X3_158 ea46 (Or.inl k47) ⟨by decide, by decide, by decide, by decide, Nat.le_of_ble_eq_true rfl⟩ rfl rfl dX3_told_79 rfl rfl ?_
              show At_ v g 4 h M 0 0 82 [(0, v_R (some a0)), (1, v_I x1), (2, v_I x2), (3, v_R r25)] [v_I r49]
              exact a_iret X hF ⟨(Prod.mk.inj (Option.some.inj hm)).1, rfl, (Prod.mk.inj (Option.some.inj hm)).2⟩ (by decide) dX3_told_82
            · have hm := i_n hm c29
              by_cases c30 : x2 = 3
              · have hm := i_p hm c30
                refine a_tsIn (c := 3) (off := 54) (tgt := 83) X dX3_told_29 c30 (by decide) (by decide) rfl (by decide) ?_
                refine a_aload_n X dX3_told_83 rfl ?_
                refine a_aload_n X dX3_told_84 rfl ?_
                obtain ⟨r45, q44, hm⟩ := i_b hm
                refine a_callV (k' := 0) (n' := 0) (st := []) X (c_X3_leastHolderPlace q44) yv_X3_leastHolderPlace ml_X3_172 rfl (Or.inl k23) ⟨by decide, by decide, by decide, by decide, Nat.le_of_ble_eq_true rfl⟩ rfl rfl dX3_told_85 rfl rfl ?_
                show At_ v g 4 h M 0 0 88 [(0, v_R (some a0)), (1, v_I x1), (2, v_I x2), (3, v_R r25)] [v_I r45]
                exact a_iret X hF ⟨(Prod.mk.inj (Option.some.inj hm)).1, rfl, (Prod.mk.inj (Option.some.inj hm)).2⟩ (by decide) dX3_told_88
              · have hm := i_n hm c30
                by_cases c31 : x2 = 4
                · have hm := i_p hm c31
                  refine a_tsIn (c := 4) (off := 60) (tgt := 89) X dX3_told_29 c31 (by decide) (by decide) rfl (by decide) ?_
                  refine a_aload_n X dX3_told_89 rfl ?_
                  refine a_aload_n X dX3_told_90 rfl ?_
                  obtain ⟨r43, q42, hm⟩ := i_b hm
                  refine a_callV (k' := 0) (n' := 0) (st := []) X (c_X3_countHolders q42) yv_X3_countHolders ml_X3_176 rfl (Or.inl k23) ⟨by decide, by decide, by decide, by decide, Nat.le_of_ble_eq_true rfl⟩ rfl rfl dX3_told_91 rfl rfl ?_
                  show At_ v g 4 h M 0 0 94 [(0, v_R (some a0)), (1, v_I x1), (2, v_I x2), (3, v_R r25)] [v_I r43]
                  exact a_iret X hF ⟨(Prod.mk.inj (Option.some.inj hm)).1, rfl, (Prod.mk.inj (Option.some.inj hm)).2⟩ (by decide) dX3_told_94
                · have hm := i_n hm c31
                  by_cases c32 : x2 = 5
                  · have hm := i_p hm c32
                    refine a_tsIn (c := 5) (off := 66) (tgt := 95) X dX3_told_29 c32 (by decide) (by decide) rfl (by decide) ?_
                    refine a_aload_n X dX3_told_95 rfl ?_
                    refine a_aload_n X dX3_told_96 rfl ?_
                    refine a_aload_n X dX3_told_97 rfl ?_
                    obtain ⟨a37, ea37, hm⟩ := i_b hm
                    obtain ⟨k38, hm⟩ := i_c hm
                    refine a_getI X 2 3 ea37 k38 (by decide) rfl fl_X3_162 dX3_told_98 ?_
                    obtain ⟨r40, q39, hm⟩ := i_b hm
                    refine a_callV (k' := 0) (n' := 0) (st := []) X (c_X3_isHeldUp q39) yv_X3_isHeldUp ml_X3_179 rfl (Or.inl k23) ⟨by decide, by decide, by decide, by decide, Nat.le_of_ble_eq_true rfl⟩ rfl rfl dX3_told_101 rfl rfl ?_
                    show At_ v g 4 h M 0 0 104 [(0, v_R (some a0)), (1, v_I x1), (2, v_I x2), (3, v_R r25)] [v_I r40]
                    refine a_if_eq (tgt := 111) X dX3_told_104 (by decide) hm (fun c41 hm => ?_) (fun c41 hm => ?_)
                    · refine a_iconst (x := 0) X dX3_told_111 (by decide) ?_
                      exact a_iret X hF ⟨(Prod.mk.inj (Option.some.inj hm)).1, rfl, (Prod.mk.inj (Option.some.inj hm)).2⟩ (by decide) dX3_told_112
                    · refine a_iconst (x := 1) X dX3_told_107 (by decide) ?_
                      refine a_goto (tgt := 112) X dX3_told_108 (by decide) ?_
                      exact a_iret X hF ⟨(Prod.mk.inj (Option.some.inj hm)).1, rfl, (Prod.mk.inj (Option.some.inj hm)).2⟩ (by decide) dX3_told_112
                  · have hm := i_n hm c32
                    have wc27 : ¬ (x2).toInt = 0 := lv_neT c27 rfl
                    have wc28 : ¬ (x2).toInt = 1 := lv_neT c28 rfl
                    have wc29 : ¬ (x2).toInt = 2 := lv_neT c29 rfl
                    have wc30 : ¬ (x2).toInt = 3 := lv_neT c30 rfl
                    have wc31 : ¬ (x2).toInt = 4 := lv_neT c31 rfl
                    have wc32 : ¬ (x2).toInt = 5 := lv_neT c32 rfl
                    refine a_tsOut (tgt := 113) X dX3_told_29 (by omega) (by decide) ?_
                    refine a_aload_n X dX3_told_113 rfl ?_
                    obtain ⟨a33, ea33, hm⟩ := i_b hm
                    obtain ⟨k34, hm⟩ := i_c hm
                    refine a_getI X 2 6 ea33 k34 (by decide) rfl fl_X3_128 dX3_told_114 ?_
                    refine a_if_eq (tgt := 124) X dX3_told_117 (by decide) hm (fun c35 hm => ?_) (fun c35 hm => ?_)
                    · refine a_aload_n X dX3_told_124 rfl ?_
                      refine a_getI X 2 5 ea33 k34 (by decide) rfl fl_X3_155 dX3_told_125 ?_
                      refine a_if_eq (tgt := 135) X dX3_told_128 (by decide) hm (fun c36 hm => ?_) (fun c36 hm => ?_)
                      · refine a_iconst (x := 0) X dX3_told_135 (by decide) ?_
                        exact a_iret X hF ⟨(Prod.mk.inj (Option.some.inj hm)).1, rfl, (Prod.mk.inj (Option.some.inj hm)).2⟩ (by decide) dX3_told_136
                      · refine a_iconst (x := 1) X dX3_told_131 (by decide) ?_
                        refine a_goto (tgt := 136) X dX3_told_132 (by decide) ?_
                        exact a_iret X hF ⟨(Prod.mk.inj (Option.some.inj hm)).1, rfl, (Prod.mk.inj (Option.some.inj hm)).2⟩ (by decide) dX3_told_136
                    · refine a_iconst (x := 2) X dX3_told_120 (by decide) ?_
                      refine a_goto (tgt := 136) X dX3_told_121 (by decide) ?_
                      exact a_iret X hF ⟨(Prod.mk.inj (Option.some.inj hm)).1, rfl, (Prod.mk.inj (Option.some.inj hm)).2⟩ (by decide) dX3_told_136
      · refine a_aload_n X dX3_told_22 rfl ?_
        refine a_iconst (x := 2) X dX3_told_23 (by decide) ?_
        obtain ⟨h55, r56, q54, hm⟩ := i_l hm
        refine a_callV (k' := 0) (n' := 0) (st := []) X (c_X3_finding q54) yv_X3_finding ml_X3_32 rfl (Or.inl k23) ⟨by decide, by decide, by decide, by decide, Nat.le_of_ble_eq_true rfl⟩ rfl rfl dX3_told_24 rfl rfl ?_
        show At_ v g 4 h55 M 0 0 27 [(0, v_R (some a0)), (1, v_I x1), (2, v_I x2), (3, v_R r25)] [v_I r56]
        exact a_iret X hF ⟨(Prod.mk.inj (Option.some.inj hm)).1, rfl, (Prod.mk.inj (Option.some.inj hm)).2⟩ (by decide) dX3_told_27
    · refine a_iconst (x := -1) X dX3_told_10 (by decide) ?_
      exact a_iret X hF ⟨(Prod.mk.inj (Option.some.inj hm)).1, rfl, (Prod.mk.inj (Option.some.inj hm)).2⟩ (by decide) dX3_told_11
theorem c_X3_told {l : Launch} {g : Gvx} {h : Hpx} {M : Msx} {h' : Hpx} {r : Int32} {a0 : Nat} {x1 : Int32} {x2 : Int32} (hm : f_X3_told h a0 x1 x2 = some (h', r)) : Mt_ l g yX3_told cX3_told 4 ((some .int)) rm_X3_told [v_R (some a0), v_I x1, v_I x2] h M (some (v_I r)) h' M := mt_of (by decide) (Nat.le_of_ble_eq_true rfl) (fun v _ X hF => q_X3_told_0 X a0 hF h x1 x2 hm)
theorem yv_X3_told : Yv_ yX3_told cX3_told 4 ((some .int)) 2 3 := ⟨rfl, by decide, ⟨by decide, by decide, by decide +kernel⟩, co_X3_told, im_X3_told, se_X3_told, ini_X3⟩

abbrev rm_X3_last : Room := { frames := 1, cells := 0, slots := 0, locals := 21 }
def f_X3_last (h : Hpx) (a0 : Nat) (x1 : Int32) : Option (Int64) :=
  (if h_k h a0 = 4 then
  (f_X3_ringAt h a0 x1).bind fun r23 =>
  (if r23 = none then
  some (0 : Int64)
  else r23.bind fun a25 =>
  (if h_k h a25 = 3 then
  some (h_J h a25 4) else none)) else none)
set_option maxHeartbeats 4000000 in
theorem q_X3_last_0 {v : Evx} {g : Gvx} {M : Msx} {r : Int64} (X : Cx_ v g cX3_last 3 RX3 "last" ((some .long)) rm_X3_last) (h : Hpx) (a0 : Nat) (hF : Fi_ v g rm_X3_last (some (v_J r)) h M) (x1 : Int32) (hm : f_X3_last h a0 x1 = some r) : At_ v g 3 h M 0 0 0 [(0, v_R (some a0)), (1, v_I x1)] [] := by
  unfold f_X3_last at hm
  refine a_aload_n X dX3_last_0 rfl ?_
  refine a_iload_n X dX3_last_1 rfl ?_
  obtain ⟨k21, hm⟩ := i_c hm
  obtain ⟨r23, q22, hm⟩ := i_b hm
  refine a_callV (k' := 0) (n' := 0) (st := []) X (c_X3_ringAt q22) yv_X3_ringAt ml_X3_54 rfl (Or.inl k21) ⟨by decide, by decide, by decide, by decide, Nat.le_of_ble_eq_true rfl⟩ rfl rfl dX3_last_2 rfl rfl ?_
  show At_ v g 3 h M 0 0 5 [(0, v_R (some a0)), (1, v_I x1)] [v_R r23]
  refine a_astore_n (lv' := [(0, v_R (some a0)), (1, v_I x1), (2, v_R r23)]) X dX3_last_5 (by decide) rfl ?_
  refine a_aload_n X dX3_last_6 rfl ?_
  refine a_ifnonnull (tgt := 14) X dX3_last_7 (by decide) hm (fun c24 hm => ?_) (fun c24 hm => ?_)
  · refine a_aload_n X dX3_last_14 rfl ?_
    obtain ⟨a25, ea25, hm⟩ := i_b hm
    obtain ⟨k26, hm⟩ := i_c hm
    refine a_getJ X 2 4 ea25 k26 (by decide) rfl fl_X3_183 dX3_last_15 ?_
    exact a_lret X hF ⟨rfl, rfl, Option.some.inj hm⟩ (by decide) dX3_last_18
  · refine a_lconst (x := 0) X dX3_last_10 (by decide) ?_
    refine a_goto (tgt := 18) X dX3_last_11 (by decide) ?_
    exact a_lret X hF ⟨rfl, rfl, Option.some.inj hm⟩ (by decide) dX3_last_18
theorem c_X3_last {l : Launch} {g : Gvx} {h : Hpx} {M : Msx} {r : Int64} {a0 : Nat} {x1 : Int32} (hm : f_X3_last h a0 x1 = some r) : Mt_ l g yX3_last cX3_last 3 ((some .long)) rm_X3_last [v_R (some a0), v_I x1] h M (some (v_J r)) h M := mt_of (by decide) (Nat.le_of_ble_eq_true rfl) (fun v _ X hF => q_X3_last_0 X h a0 hF x1 hm)
theorem yv_X3_last : Yv_ yX3_last cX3_last 3 ((some .long)) 1 3 := ⟨rfl, by decide, ⟨by decide, by decide, by decide +kernel⟩, co_X3_last, im_X3_last, se_X3_last, ini_X3⟩

abbrev rm_X3_leastNamedBehind : Room := { frames := 2, cells := 0, slots := 0, locals := 44 }
def j_X3_leastNamedBehind_10 (h : Hpx) (a0 : Nat) (rec_10 : Option Nat → Int32 → Int32 → Option (Int32)) (x1 : Option Nat) (x2 : Int32) (x3 : Int32) : Option (Int32) :=
  (if (16 : Int32) ≤ x3 then
  some (-1 : Int32)
  else x1.bind fun a26 =>
  (if h_k h a26 = 2 then
  (f_X1_isNaming h a26 x3).bind fun r29 =>
  (if r29 = 0 then
  rec_10 x1 x2 (x3 + (1 : Int32))
  else (if h_k h a0 = 4 then
  (f_X3_placeOf h a0 x3 x2).bind fun r33 =>
  (f_X1_placeIn h a26 x2).bind fun r35 =>
  (if r35 < r33 then
  rec_10 x1 x2 (x3 + (1 : Int32))
  else some x3) else none)) else none))
set_option maxHeartbeats 4000000 in
theorem q_X3_leastNamedBehind_10 {v : Evx} {g : Gvx} {M : Msx} {r : Int32} (X : Cx_ v g cX3_leastNamedBehind 4 RX3 "leastNamedBehind" ((some .int)) rm_X3_leastNamedBehind) (h : Hpx) (a0 : Nat) (hF : Fi_ v g rm_X3_leastNamedBehind (some (v_I r)) h M) (rec_10 : Option Nat → Int32 → Int32 → Option (Int32)) (hr_10 : ∀ (x1 : Option Nat) (x2 : Int32) (x3 : Int32), rec_10 x1 x2 x3 = some r → At_ v g 4 h M 0 0 10 [(0, v_R (some a0)), (1, v_R x1), (2, v_I x2), (3, v_I x3)] []) (x1 : Option Nat) (x2 : Int32) (x3 : Int32) (hm : j_X3_leastNamedBehind_10 h a0 rec_10 x1 x2 x3 = some r) : At_ v g 4 h M 0 0 10 [(0, v_R (some a0)), (1, v_R x1), (2, v_I x2), (3, v_I x3)] [] := by
  unfold j_X3_leastNamedBehind_10 at hm
  refine a_iload_n X dX3_leastNamedBehind_10 rfl ?_
  refine a_bipush (x := 16) X dX3_leastNamedBehind_11 (by decide) ?_
  refine a_icmp_ge (tgt := 46) X dX3_leastNamedBehind_13 (by decide) hm (fun c25 hm => ?_) (fun c25 hm => ?_)
  · refine a_iconst (x := -1) X dX3_leastNamedBehind_46 (by decide) ?_
    exact a_iret X hF ⟨rfl, rfl, Option.some.inj hm⟩ (by decide) dX3_leastNamedBehind_47
  · refine a_aload_n X dX3_leastNamedBehind_16 rfl ?_
    refine a_iload_n X dX3_leastNamedBehind_17 rfl ?_
    obtain ⟨a26, ea26, hm⟩ := i_b hm
    obtain ⟨k27, hm⟩ := i_c hm
    obtain ⟨r29, q28, hm⟩ := i_b hm
    refine a_callV (k' := 0) (n' := 0) (st := []) X (c_X1_isNaming q28) yv_X1_isNaming ml_X3_101 ea26 (Or.inl k27) ⟨by decide, by decide, by decide, by decide, Nat.le_of_ble_eq_true rfl⟩ rfl rfl dX3_leastNamedBehind_18 rfl rfl ?_
    show At_ v g 4 h M 0 0 21 [(0, v_R (some a0)), (1, v_R x1), (2, v_I x2), (3, v_I x3)] [v_I r29]
    refine a_if_eq (tgt := 40) X dX3_leastNamedBehind_21 (by decide) hm (fun c30 hm => ?_) (fun c30 hm => ?_)
    · refine a_iinc (y := x3 + (1 : Int32)) (lv' := [(0, v_R (some a0)), (1, v_R x1), (2, v_I x2), (3, v_I (x3 + (1 : Int32)))]) X dX3_leastNamedBehind_40 rfl rfl (by decide) rfl ?_
      refine a_goto (tgt := 10) X dX3_leastNamedBehind_43 (by decide) ?_
      exact hr_10 x1 x2 (x3 + (1 : Int32)) hm
    · refine a_aload_n X dX3_leastNamedBehind_24 rfl ?_
      refine a_iload_n X dX3_leastNamedBehind_25 rfl ?_
      refine a_iload_n X dX3_leastNamedBehind_26 rfl ?_
      obtain ⟨k31, hm⟩ := i_c hm
      obtain ⟨r33, q32, hm⟩ := i_b hm
      refine a_callV (k' := 0) (n' := 0) (st := []) X (c_X3_placeOf q32) yv_X3_placeOf ml_X3_62 rfl (Or.inl k31) ⟨by decide, by decide, by decide, by decide, Nat.le_of_ble_eq_true rfl⟩ rfl rfl dX3_leastNamedBehind_27 rfl rfl ?_
      show At_ v g 4 h M 0 0 30 [(0, v_R (some a0)), (1, v_R x1), (2, v_I x2), (3, v_I x3)] [v_I r33]
      refine a_aload_n X dX3_leastNamedBehind_30 rfl ?_
      refine a_iload_n X dX3_leastNamedBehind_31 rfl ?_
      obtain ⟨r35, q34, hm⟩ := i_b hm
      refine a_callV (k' := 0) (n' := 0) (st := [v_I r33]) X (c_X1_placeIn q34) yv_X1_placeIn ml_X3_80 ea26 (Or.inl k27) ⟨by decide, by decide, by decide, by decide, Nat.le_of_ble_eq_true rfl⟩ rfl rfl dX3_leastNamedBehind_32 rfl rfl ?_
      show At_ v g 4 h M 0 0 35 [(0, v_R (some a0)), (1, v_R x1), (2, v_I x2), (3, v_I x3)] [v_I r35, v_I r33]
      refine a_icmp_gt (tgt := 40) X dX3_leastNamedBehind_35 (by decide) hm (fun c36 hm => ?_) (fun c36 hm => ?_)
      · refine a_iinc (y := x3 + (1 : Int32)) (lv' := [(0, v_R (some a0)), (1, v_R x1), (2, v_I x2), (3, v_I (x3 + (1 : Int32)))]) X dX3_leastNamedBehind_40 rfl rfl (by decide) rfl ?_
        refine a_goto (tgt := 10) X dX3_leastNamedBehind_43 (by decide) ?_
        exact hr_10 x1 x2 (x3 + (1 : Int32)) hm
      · refine a_iload_n X dX3_leastNamedBehind_38 rfl ?_
        exact a_iret X hF ⟨rfl, rfl, Option.some.inj hm⟩ (by decide) dX3_leastNamedBehind_39
def l_X3_leastNamedBehind_10 (h : Hpx) (a0 : Nat) (n : Nat) : Option Nat → Int32 → Int32 → Option (Int32) := lp_ (fun rec_10 => j_X3_leastNamedBehind_10 h a0 rec_10) (fun _ _ _ => none) n
theorem ql_X3_leastNamedBehind_10 {v : Evx} {g : Gvx} {M : Msx} {r : Int32} (X : Cx_ v g cX3_leastNamedBehind 4 RX3 "leastNamedBehind" ((some .int)) rm_X3_leastNamedBehind) (h : Hpx) (a0 : Nat) (hF : Fi_ v g rm_X3_leastNamedBehind (some (v_I r)) h M) : ∀ (n : Nat) (x1 : Option Nat) (x2 : Int32) (x3 : Int32), l_X3_leastNamedBehind_10 h a0 n x1 x2 x3 = some r → At_ v g 4 h M 0 0 10 [(0, v_R (some a0)), (1, v_R x1), (2, v_I x2), (3, v_I x3)] [] := by
  intro n
  induction n with
  | zero => intro x1 x2 x3 hm; cases hm
  | succ n ih =>
    intro x1 x2 x3 hm
    exact q_X3_leastNamedBehind_10 X h a0 hF (l_X3_leastNamedBehind_10 h a0 n) ih x1 x2 x3 hm
def f_X3_leastNamedBehind (h : Hpx) (a0 : Nat) (x1 : Option Nat) : Option (Int32) :=
  x1.bind fun a21 =>
  (if h_k h a21 = 2 then
  (h_R h a21 1).bind fun a23 =>
  (if h_k h a23 = 3 then
  l_X3_leastNamedBehind_10 h a0 70 x1 (h_I h a23 0) (0 : Int32) else none) else none)
set_option maxHeartbeats 4000000 in
theorem q_X3_leastNamedBehind_0 {v : Evx} {g : Gvx} {M : Msx} {r : Int32} (X : Cx_ v g cX3_leastNamedBehind 4 RX3 "leastNamedBehind" ((some .int)) rm_X3_leastNamedBehind) (h : Hpx) (a0 : Nat) (hF : Fi_ v g rm_X3_leastNamedBehind (some (v_I r)) h M) (x1 : Option Nat) (hm : f_X3_leastNamedBehind h a0 x1 = some r) : At_ v g 4 h M 0 0 0 [(0, v_R (some a0)), (1, v_R x1)] [] := by
  unfold f_X3_leastNamedBehind at hm
  refine a_aload_n X dX3_leastNamedBehind_0 rfl ?_
  obtain ⟨a21, ea21, hm⟩ := i_b hm
  obtain ⟨k22, hm⟩ := i_c hm
  refine a_getR X 1 1 ea21 k22 (by decide) rfl fl_X3_94 dX3_leastNamedBehind_1 ?_
  obtain ⟨a23, ea23, hm⟩ := i_b hm
  obtain ⟨k24, hm⟩ := i_c hm
  refine a_getI X 2 0 ea23 k24 (by decide) rfl fl_X3_98 dX3_leastNamedBehind_4 ?_
  refine a_istore_n (lv' := [(0, v_R (some a0)), (1, v_R x1), (2, v_I (h_I h a23 0))]) X dX3_leastNamedBehind_7 (by decide) rfl ?_
  refine a_iconst (x := 0) X dX3_leastNamedBehind_8 (by decide) ?_
  refine a_istore_n (lv' := [(0, v_R (some a0)), (1, v_R x1), (2, v_I (h_I h a23 0)), (3, v_I (0 : Int32))]) X dX3_leastNamedBehind_9 (by decide) rfl ?_
  exact ql_X3_leastNamedBehind_10 X h a0 hF 70 x1 (h_I h a23 0) (0 : Int32) hm
theorem c_X3_leastNamedBehind {l : Launch} {g : Gvx} {h : Hpx} {M : Msx} {r : Int32} {a0 : Nat} {x1 : Option Nat} (hm : f_X3_leastNamedBehind h a0 x1 = some r) : Mt_ l g yX3_leastNamedBehind cX3_leastNamedBehind 4 ((some .int)) rm_X3_leastNamedBehind [v_R (some a0), v_R x1] h M (some (v_I r)) h M := mt_of (by decide) (Nat.le_of_ble_eq_true rfl) (fun v _ X hF => q_X3_leastNamedBehind_0 X h a0 hF x1 hm)
theorem yv_X3_leastNamedBehind : Yv_ yX3_leastNamedBehind cX3_leastNamedBehind 4 ((some .int)) 1 3 := ⟨rfl, by decide, ⟨by decide, by decide, by decide +kernel⟩, co_X3_leastNamedBehind, im_X3_leastNamedBehind, se_X3_leastNamedBehind, ini_X3⟩

abbrev rm_X3_reasonAtPlace : Room := { frames := 3, cells := 0, slots := 0, locals := 69 }
def f_X3_reasonAtPlace (h : Hpx) (a0 : Nat) (x1 : Option Nat) : Option (Int32) :=
  x1.bind fun a21 =>
  (if h_k h a21 = 2 then
  (f_X1_placeToRead h a21).bind fun r24 =>
  (h_R h a21 1).bind fun a25 =>
  (if h_k h a25 = 3 then
  (if r24 < (h_I h a25 3) then
  (f_X2_isPublished h a25 r24).bind fun r29 =>
  (if r29 = 0 then
  some (3 : Int32)
  else (if h_k h a0 = 4 then
  (f_X3_leastNamedBehind h a0 x1).bind fun r33 =>
  (if r33 < 0 then
  (if (h_R h a21 2) = none then
  some (0 : Int32)
  else (h_R h a21 2).bind fun a36 =>
  (if h_k h a36 = 3 then
  (f_X2_isLive h a36).bind fun r39 =>
  (if r39 = 0 then
  some (5 : Int32)
  else (f_X3_isHeldUp h a0 (h_R h a21 2) (h_I h a36 3)).bind fun r42 =>
  (if r42 = 0 then
  some (0 : Int32)
  else some (5 : Int32))) else none))
  else some (4 : Int32)) else none))
  else some (2 : Int32)) else none) else none)
set_option maxHeartbeats 4000000 in
theorem q_X3_reasonAtPlace_0 {v : Evx} {g : Gvx} {M : Msx} {r : Int32} (X : Cx_ v g cX3_reasonAtPlace 3 RX3 "reasonAtPlace" ((some .int)) rm_X3_reasonAtPlace) (h : Hpx) (a0 : Nat) (hF : Fi_ v g rm_X3_reasonAtPlace (some (v_I r)) h M) (x1 : Option Nat) (hm : f_X3_reasonAtPlace h a0 x1 = some r) : At_ v g 3 h M 0 0 0 [(0, v_R (some a0)), (1, v_R x1)] [] := by
  unfold f_X3_reasonAtPlace at hm
  refine a_aload_n X dX3_reasonAtPlace_0 rfl ?_
  obtain ⟨a21, ea21, hm⟩ := i_b hm
  obtain ⟨k22, hm⟩ := i_c hm
  obtain ⟨r24, q23, hm⟩ := i_b hm
  refine a_callV (k' := 0) (n' := 0) (st := []) X (c_X1_placeToRead q23) yv_X1_placeToRead ml_X3_234 ea21 (Or.inl k22) ⟨by decide, by decide, by decide, by decide, Nat.le_of_ble_eq_true rfl⟩ rfl rfl dX3_reasonAtPlace_1 rfl rfl ?_
  show At_ v g 3 h M 0 0 4 [(0, v_R (some a0)), (1, v_R x1)] [v_I r24]
  refine a_istore_n (lv' := [(0, v_R (some a0)), (1, v_R x1), (2, v_I r24)]) X dX3_reasonAtPlace_4 (by decide) rfl ?_
  refine a_iload_n X dX3_reasonAtPlace_5 rfl ?_
  refine a_aload_n X dX3_reasonAtPlace_6 rfl ?_
  refine a_getR X 1 1 ea21 k22 (by decide) rfl fl_X3_94 dX3_reasonAtPlace_7 ?_
  obtain ⟨a25, ea25, hm⟩ := i_b hm
  obtain ⟨k26, hm⟩ := i_c hm
  refine a_getI X 2 3 ea25 k26 (by decide) rfl fl_X3_162 dX3_reasonAtPlace_10 ?_
  refine a_icmp_lt (tgt := 18) X dX3_reasonAtPlace_13 (by decide) hm (fun c27 hm => ?_) (fun c27 hm => ?_)
  · refine a_aload_n X dX3_reasonAtPlace_18 rfl ?_
    refine a_getR X 1 1 ea21 k22 (by decide) rfl fl_X3_94 dX3_reasonAtPlace_19 ?_
    refine a_iload_n X dX3_reasonAtPlace_22 rfl ?_
    obtain ⟨r29, q28, hm⟩ := i_b hm
    refine a_callV (k' := 0) (n' := 0) (st := []) X (c_X2_isPublished q28) yv_X2_isPublished ml_X3_327 ea25 (Or.inl k26) ⟨by decide, by decide, by decide, by decide, Nat.le_of_ble_eq_true rfl⟩ rfl rfl dX3_reasonAtPlace_23 rfl rfl ?_
    show At_ v g 3 h M 0 0 26 [(0, v_R (some a0)), (1, v_R x1), (2, v_I r24)] [v_I r29]
    refine a_if_ne (tgt := 31) X dX3_reasonAtPlace_26 (by decide) hm (fun c30 hm => ?_) (fun c30 hm => ?_)
    · refine a_aload_n X dX3_reasonAtPlace_31 rfl ?_
      refine a_aload_n X dX3_reasonAtPlace_32 rfl ?_
      obtain ⟨k31, hm⟩ := i_c hm
      obtain ⟨r33, q32, hm⟩ := i_b hm
      refine a_callV (k' := 0) (n' := 0) (st := []) X (c_X3_leastNamedBehind q32) yv_X3_leastNamedBehind ml_X3_237 rfl (Or.inl k31) ⟨by decide, by decide, by decide, by decide, Nat.le_of_ble_eq_true rfl⟩ rfl rfl dX3_reasonAtPlace_33 rfl rfl ?_
      show At_ v g 3 h M 0 0 36 [(0, v_R (some a0)), (1, v_R x1), (2, v_I r24)] [v_I r33]
      refine a_if_lt (tgt := 41) X dX3_reasonAtPlace_36 (by decide) hm (fun c34 hm => ?_) (fun c34 hm => ?_)
      · refine a_aload_n X dX3_reasonAtPlace_41 rfl ?_
        refine a_getR X 1 2 ea21 k22 (by decide) rfl fl_X3_228 dX3_reasonAtPlace_42 ?_
        refine a_ifnull (tgt := 78) X dX3_reasonAtPlace_45 (by decide) hm (fun c35 hm => ?_) (fun c35 hm => ?_)
        · refine a_iconst (x := 0) X dX3_reasonAtPlace_78 (by decide) ?_
          exact a_iret X hF ⟨rfl, rfl, Option.some.inj hm⟩ (by decide) dX3_reasonAtPlace_79
        · refine a_aload_n X dX3_reasonAtPlace_48 rfl ?_
          refine a_getR X 1 2 ea21 k22 (by decide) rfl fl_X3_228 dX3_reasonAtPlace_49 ?_
          obtain ⟨a36, ea36, hm⟩ := i_b hm
          obtain ⟨k37, hm⟩ := i_c hm
          obtain ⟨r39, q38, hm⟩ := i_b hm
          refine a_callV (k' := 0) (n' := 0) (st := []) X (c_X2_isLive q38) yv_X2_isLive ml_X3_246 ea36 (Or.inl k37) ⟨by decide, by decide, by decide, by decide, Nat.le_of_ble_eq_true rfl⟩ rfl rfl dX3_reasonAtPlace_52 rfl rfl ?_
          show At_ v g 3 h M 0 0 55 [(0, v_R (some a0)), (1, v_R x1), (2, v_I r24)] [v_I r39]
          refine a_if_eq (tgt := 76) X dX3_reasonAtPlace_55 (by decide) hm (fun c40 hm => ?_) (fun c40 hm => ?_)
          · refine a_iconst (x := 5) X dX3_reasonAtPlace_76 (by decide) ?_
            exact a_iret X hF ⟨rfl, rfl, Option.some.inj hm⟩ (by decide) dX3_reasonAtPlace_77
          · refine a_aload_n X dX3_reasonAtPlace_58 rfl ?_
            refine a_aload_n X dX3_reasonAtPlace_59 rfl ?_
            refine a_getR X 1 2 ea21 k22 (by decide) rfl fl_X3_228 dX3_reasonAtPlace_60 ?_
            refine a_aload_n X dX3_reasonAtPlace_63 rfl ?_
            refine a_getR X 1 2 ea21 k22 (by decide) rfl fl_X3_228 dX3_reasonAtPlace_64 ?_
            refine a_getI X 2 3 ea36 k37 (by decide) rfl fl_X3_162 dX3_reasonAtPlace_67 ?_
            obtain ⟨r42, q41, hm⟩ := i_b hm
            refine a_callV (k' := 0) (n' := 0) (st := []) X (c_X3_isHeldUp q41) yv_X3_isHeldUp ml_X3_179 rfl (Or.inl k31) ⟨by decide, by decide, by decide, by decide, Nat.le_of_ble_eq_true rfl⟩ rfl rfl dX3_reasonAtPlace_70 rfl rfl ?_
            show At_ v g 3 h M 0 0 73 [(0, v_R (some a0)), (1, v_R x1), (2, v_I r24)] [v_I r42]
            refine a_if_eq (tgt := 78) X dX3_reasonAtPlace_73 (by decide) hm (fun c43 hm => ?_) (fun c43 hm => ?_)
            · refine a_iconst (x := 0) X dX3_reasonAtPlace_78 (by decide) ?_
              exact a_iret X hF ⟨rfl, rfl, Option.some.inj hm⟩ (by decide) dX3_reasonAtPlace_79
            · refine a_iconst (x := 5) X dX3_reasonAtPlace_76 (by decide) ?_
              exact a_iret X hF ⟨rfl, rfl, Option.some.inj hm⟩ (by decide) dX3_reasonAtPlace_77
      · refine a_iconst (x := 4) X dX3_reasonAtPlace_39 (by decide) ?_
        exact a_iret X hF ⟨rfl, rfl, Option.some.inj hm⟩ (by decide) dX3_reasonAtPlace_40
    · refine a_iconst (x := 3) X dX3_reasonAtPlace_29 (by decide) ?_
      exact a_iret X hF ⟨rfl, rfl, Option.some.inj hm⟩ (by decide) dX3_reasonAtPlace_30
  · refine a_iconst (x := 2) X dX3_reasonAtPlace_16 (by decide) ?_
    exact a_iret X hF ⟨rfl, rfl, Option.some.inj hm⟩ (by decide) dX3_reasonAtPlace_17
theorem c_X3_reasonAtPlace {l : Launch} {g : Gvx} {h : Hpx} {M : Msx} {r : Int32} {a0 : Nat} {x1 : Option Nat} (hm : f_X3_reasonAtPlace h a0 x1 = some r) : Mt_ l g yX3_reasonAtPlace cX3_reasonAtPlace 3 ((some .int)) rm_X3_reasonAtPlace [v_R (some a0), v_R x1] h M (some (v_I r)) h M := mt_of (by decide) (Nat.le_of_ble_eq_true rfl) (fun v _ X hF => q_X3_reasonAtPlace_0 X h a0 hF x1 hm)
theorem yv_X3_reasonAtPlace : Yv_ yX3_reasonAtPlace cX3_reasonAtPlace 3 ((some .int)) 1 3 := ⟨rfl, by decide, ⟨by decide, by decide, by decide +kernel⟩, co_X3_reasonAtPlace, im_X3_reasonAtPlace, se_X3_reasonAtPlace, ini_X3⟩

abbrev rm_X3_isAwaited : Room := { frames := 1, cells := 0, slots := 0, locals := 21 }
def j_X3_isAwaited_35 (h : Hpx) (a0 : Nat) : Option (Int32) :=
  some (1 : Int32)
set_option maxHeartbeats 4000000 in
theorem q_X3_isAwaited_35 {v : Evx} {g : Gvx} {M : Msx} {r : Int32} (X : Cx_ v g cX3_isAwaited 4 RX3 "isAwaited" ((some .boolean)) rm_X3_isAwaited) (h : Hpx) (a0 : Nat) (hF : Fi_ v g rm_X3_isAwaited (some (v_I r)) h M) (hm : j_X3_isAwaited_35 h a0  = some r) : At_ v g 4 h M 0 0 35 [(0, v_R (some a0))] [] := by
  unfold j_X3_isAwaited_35 at hm
  refine a_iconst (x := 1) X dX3_isAwaited_35 (by decide) ?_
  refine a_goto (tgt := 40) X dX3_isAwaited_36 (by decide) ?_
  exact a_zret X hF (Or.inr rfl) ⟨rfl, rfl, Option.some.inj hm⟩ (by decide) dX3_isAwaited_40
def f_X3_isAwaited (h : Hpx) (a0 : Nat) (x1 : Option Nat) (x2 : Option Nat) : Option (Int32) :=
  x2.bind fun a21 =>
  (if h_k h a21 = 3 then
  x1.bind fun a23 =>
  (if h_k h a23 = 2 then
  (f_X1_placeIn h a23 (h_I h a21 0)).bind fun r26 =>
  (if r26 < 0 then
  some (0 : Int32)
  else (if (h_I h a21 6) = 0 then
  (if (h_I h a21 5) = 0 then
  j_X3_isAwaited_35 h a0 
  else (if (h_I h a21 3) ≤ r26 then
  some (0 : Int32)
  else j_X3_isAwaited_35 h a0 ))
  else some (0 : Int32))) else none) else none)
set_option maxHeartbeats 4000000 in
theorem q_X3_isAwaited_0 {v : Evx} {g : Gvx} {M : Msx} {r : Int32} (X : Cx_ v g cX3_isAwaited 4 RX3 "isAwaited" ((some .boolean)) rm_X3_isAwaited) (h : Hpx) (a0 : Nat) (hF : Fi_ v g rm_X3_isAwaited (some (v_I r)) h M) (x1 : Option Nat) (x2 : Option Nat) (hm : f_X3_isAwaited h a0 x1 x2 = some r) : At_ v g 4 h M 0 0 0 [(0, v_R (some a0)), (1, v_R x1), (2, v_R x2)] [] := by
  unfold f_X3_isAwaited at hm
  refine a_aload_n X dX3_isAwaited_0 rfl ?_
  refine a_aload_n X dX3_isAwaited_1 rfl ?_
  obtain ⟨a21, ea21, hm⟩ := i_b hm
  obtain ⟨k22, hm⟩ := i_c hm
  refine a_getI X 2 0 ea21 k22 (by decide) rfl fl_X3_98 dX3_isAwaited_2 ?_
  obtain ⟨a23, ea23, hm⟩ := i_b hm
  obtain ⟨k24, hm⟩ := i_c hm
  obtain ⟨r26, q25, hm⟩ := i_b hm
  refine a_callV (k' := 0) (n' := 0) (st := []) X (c_X1_placeIn q25) yv_X1_placeIn ml_X3_80 ea23 (Or.inl k24) ⟨by decide, by decide, by decide, by decide, Nat.le_of_ble_eq_true rfl⟩ rfl rfl dX3_isAwaited_5 rfl rfl ?_
  show At_ v g 4 h M 0 0 8 [(0, v_R (some a0)), (1, v_R x1), (2, v_R x2)] [v_I r26]
  refine a_istore_n (lv' := [(0, v_R (some a0)), (1, v_R x1), (2, v_R x2), (3, v_I r26)]) X dX3_isAwaited_8 (by decide) rfl ?_
  refine a_iload_n X dX3_isAwaited_9 rfl ?_
  refine a_if_lt (tgt := 39) X dX3_isAwaited_10 (by decide) hm (fun c27 hm => ?_) (fun c27 hm => ?_)
  · refine a_iconst (x := 0) X dX3_isAwaited_39 (by decide) ?_
    exact a_zret X hF (Or.inl rfl) ⟨rfl, rfl, Option.some.inj hm⟩ (by decide) dX3_isAwaited_40
  · refine a_aload_n X dX3_isAwaited_13 rfl ?_
    refine a_getI X 2 6 ea21 k22 (by decide) rfl fl_X3_128 dX3_isAwaited_14 ?_
    refine a_if_ne (tgt := 39) X dX3_isAwaited_17 (by decide) hm (fun c28 hm => ?_) (fun c28 hm => ?_)
    · refine a_iconst (x := 0) X dX3_isAwaited_39 (by decide) ?_
      exact a_zret X hF (Or.inl rfl) ⟨rfl, rfl, Option.some.inj hm⟩ (by decide) dX3_isAwaited_40
    · refine a_aload_n X dX3_isAwaited_20 rfl ?_
      refine a_getI X 2 5 ea21 k22 (by decide) rfl fl_X3_155 dX3_isAwaited_21 ?_
      refine a_if_eq (tgt := 35) X dX3_isAwaited_24 (by decide) hm (fun c29 hm => ?_) (fun c29 hm => ?_)
      · refine a_pick (lv' := [(0, v_R (some a0))]) [0] rfl ?_
        exact q_X3_isAwaited_35 X h a0 hF  hm
      · refine a_iload_n X dX3_isAwaited_27 rfl ?_
        refine a_aload_n X dX3_isAwaited_28 rfl ?_
        refine a_getI X 2 3 ea21 k22 (by decide) rfl fl_X3_162 dX3_isAwaited_29 ?_
        refine a_icmp_ge (tgt := 39) X dX3_isAwaited_32 (by decide) hm (fun c30 hm => ?_) (fun c30 hm => ?_)
        · refine a_iconst (x := 0) X dX3_isAwaited_39 (by decide) ?_
          exact a_zret X hF (Or.inl rfl) ⟨rfl, rfl, Option.some.inj hm⟩ (by decide) dX3_isAwaited_40
        · refine a_pick (lv' := [(0, v_R (some a0))]) [0] rfl ?_
          exact q_X3_isAwaited_35 X h a0 hF  hm
theorem c_X3_isAwaited {l : Launch} {g : Gvx} {h : Hpx} {M : Msx} {r : Int32} {a0 : Nat} {x1 : Option Nat} {x2 : Option Nat} (hm : f_X3_isAwaited h a0 x1 x2 = some r) : Mt_ l g yX3_isAwaited cX3_isAwaited 4 ((some .boolean)) rm_X3_isAwaited [v_R (some a0), v_R x1, v_R x2] h M (some (v_I r)) h M := mt_of (by decide) (Nat.le_of_ble_eq_true rfl) (fun v _ X hF => q_X3_isAwaited_0 X h a0 hF x1 x2 hm)
theorem yv_X3_isAwaited : Yv_ yX3_isAwaited cX3_isAwaited 4 ((some .boolean)) 2 3 := ⟨rfl, by decide, ⟨by decide, by decide, by decide +kernel⟩, co_X3_isAwaited, im_X3_isAwaited, se_X3_isAwaited, ini_X3⟩

abbrev rm_X3_leastLackingRing : Room := { frames := 2, cells := 0, slots := 0, locals := 44 }
def j_X3_leastLackingRing_2 (h : Hpx) (a0 : Nat) (rec_2 : Option Nat → Int32 → Option (Int32)) (x1 : Option Nat) (x2 : Int32) : Option (Int32) :=
  (if (8 : Int32) ≤ x2 then
  some (-1 : Int32)
  else (if h_k h a0 = 4 then
  (f_X3_ringAt h a0 x2).bind fun r24 =>
  (if r24 = none then
  rec_2 x1 (x2 + (1 : Int32))
  else (f_X3_isAwaited h a0 x1 r24).bind fun r27 =>
  (if r27 = 0 then
  rec_2 x1 (x2 + (1 : Int32))
  else x1.bind fun a29 =>
  (if h_k h a29 = 2 then
  (f_X1_placeIn h a29 x2).bind fun r32 =>
  r24.bind fun a33 =>
  (if h_k h a33 = 3 then
  (f_X2_isPublished h a33 r32).bind fun r36 =>
  (if r36 = 0 then
  some x2
  else rec_2 x1 (x2 + (1 : Int32))) else none) else none))) else none))
set_option maxHeartbeats 4000000 in
theorem q_X3_leastLackingRing_2 {v : Evx} {g : Gvx} {M : Msx} {r : Int32} (X : Cx_ v g cX3_leastLackingRing 4 RX3 "leastLackingRing" ((some .int)) rm_X3_leastLackingRing) (h : Hpx) (a0 : Nat) (hF : Fi_ v g rm_X3_leastLackingRing (some (v_I r)) h M) (rec_2 : Option Nat → Int32 → Option (Int32)) (hr_2 : ∀ (x1 : Option Nat) (x2 : Int32), rec_2 x1 x2 = some r → At_ v g 4 h M 0 0 2 [(0, v_R (some a0)), (1, v_R x1), (2, v_I x2)] []) (x1 : Option Nat) (x2 : Int32) (hm : j_X3_leastLackingRing_2 h a0 rec_2 x1 x2 = some r) : At_ v g 4 h M 0 0 2 [(0, v_R (some a0)), (1, v_R x1), (2, v_I x2)] [] := by
  unfold j_X3_leastLackingRing_2 at hm
  refine a_iload_n X dX3_leastLackingRing_2 rfl ?_
  refine a_bipush (x := 8) X dX3_leastLackingRing_3 (by decide) ?_
  refine a_icmp_ge (tgt := 47) X dX3_leastLackingRing_5 (by decide) hm (fun c21 hm => ?_) (fun c21 hm => ?_)
  · refine a_iconst (x := -1) X dX3_leastLackingRing_47 (by decide) ?_
    exact a_iret X hF ⟨rfl, rfl, Option.some.inj hm⟩ (by decide) dX3_leastLackingRing_48
  · refine a_aload_n X dX3_leastLackingRing_8 rfl ?_
    refine a_iload_n X dX3_leastLackingRing_9 rfl ?_
    obtain ⟨k22, hm⟩ := i_c hm
    obtain ⟨r24, q23, hm⟩ := i_b hm
    refine a_callV (k' := 0) (n' := 0) (st := []) X (c_X3_ringAt q23) yv_X3_ringAt ml_X3_54 rfl (Or.inl k22) ⟨by decide, by decide, by decide, by decide, Nat.le_of_ble_eq_true rfl⟩ rfl rfl dX3_leastLackingRing_10 rfl rfl ?_
    show At_ v g 4 h M 0 0 13 [(0, v_R (some a0)), (1, v_R x1), (2, v_I x2)] [v_R r24]
    refine a_astore_n (lv' := [(0, v_R (some a0)), (1, v_R x1), (2, v_I x2), (3, v_R r24)]) X dX3_leastLackingRing_13 (by decide) rfl ?_
    refine a_aload_n X dX3_leastLackingRing_14 rfl ?_
    refine a_ifnull (tgt := 41) X dX3_leastLackingRing_15 (by decide) hm (fun c25 hm => ?_) (fun c25 hm => ?_)
    · refine a_iinc (y := x2 + (1 : Int32)) (lv' := [(0, v_R (some a0)), (1, v_R x1), (2, v_I (x2 + (1 : Int32))), (3, v_R r24)]) X dX3_leastLackingRing_41 rfl rfl (by decide) rfl ?_
      refine a_goto (tgt := 2) X dX3_leastLackingRing_44 (by decide) ?_
      refine a_pick (lv' := [(0, v_R (some a0)), (1, v_R x1), (2, v_I (x2 + (1 : Int32)))]) [0, 1, 2] rfl ?_
      exact hr_2 x1 (x2 + (1 : Int32)) hm
    · refine a_aload_n X dX3_leastLackingRing_18 rfl ?_
      refine a_aload_n X dX3_leastLackingRing_19 rfl ?_
      refine a_aload_n X dX3_leastLackingRing_20 rfl ?_
      obtain ⟨r27, q26, hm⟩ := i_b hm
      refine a_callV (k' := 0) (n' := 0) (st := []) X (c_X3_isAwaited q26) yv_X3_isAwaited ml_X3_330 rfl (Or.inl k22) ⟨by decide, by decide, by decide, by decide, Nat.le_of_ble_eq_true rfl⟩ rfl rfl dX3_leastLackingRing_21 rfl rfl ?_
      show At_ v g 4 h M 0 0 24 [(0, v_R (some a0)), (1, v_R x1), (2, v_I x2), (3, v_R r24)] [v_I r27]
      refine a_if_eq (tgt := 41) X dX3_leastLackingRing_24 (by decide) hm (fun c28 hm => ?_) (fun c28 hm => ?_)
      · refine a_iinc (y := x2 + (1 : Int32)) (lv' := [(0, v_R (some a0)), (1, v_R x1), (2, v_I (x2 + (1 : Int32))), (3, v_R r24)]) X dX3_leastLackingRing_41 rfl rfl (by decide) rfl ?_
        refine a_goto (tgt := 2) X dX3_leastLackingRing_44 (by decide) ?_
        refine a_pick (lv' := [(0, v_R (some a0)), (1, v_R x1), (2, v_I (x2 + (1 : Int32)))]) [0, 1, 2] rfl ?_
        exact hr_2 x1 (x2 + (1 : Int32)) hm
      · refine a_aload_n X dX3_leastLackingRing_27 rfl ?_
        refine a_aload_n X dX3_leastLackingRing_28 rfl ?_
        refine a_iload_n X dX3_leastLackingRing_29 rfl ?_
        obtain ⟨a29, ea29, hm⟩ := i_b hm
        obtain ⟨k30, hm⟩ := i_c hm
        obtain ⟨r32, q31, hm⟩ := i_b hm
        refine a_callV (k' := 0) (n' := 0) (st := [v_R r24]) X (c_X1_placeIn q31) yv_X1_placeIn ml_X3_80 ea29 (Or.inl k30) ⟨by decide, by decide, by decide, by decide, Nat.le_of_ble_eq_true rfl⟩ rfl rfl dX3_leastLackingRing_30 rfl rfl ?_
        show At_ v g 4 h M 0 0 33 [(0, v_R (some a0)), (1, v_R x1), (2, v_I x2), (3, v_R r24)] [v_I r32, v_R r24]
        obtain ⟨a33, ea33, hm⟩ := i_b hm
        obtain ⟨k34, hm⟩ := i_c hm
        obtain ⟨r36, q35, hm⟩ := i_b hm
        refine a_callV (k' := 0) (n' := 0) (st := []) X (c_X2_isPublished q35) yv_X2_isPublished ml_X3_327 ea33 (Or.inl k34) ⟨by decide, by decide, by decide, by decide, Nat.le_of_ble_eq_true rfl⟩ rfl rfl dX3_leastLackingRing_33 rfl rfl ?_
        show At_ v g 4 h M 0 0 36 [(0, v_R (some a0)), (1, v_R x1), (2, v_I x2), (3, v_R r24)] [v_I r36]
        refine a_if_ne (tgt := 41) X dX3_leastLackingRing_36 (by decide) hm (fun c37 hm => ?_) (fun c37 hm => ?_)
        · refine a_iinc (y := x2 + (1 : Int32)) (lv' := [(0, v_R (some a0)), (1, v_R x1), (2, v_I (x2 + (1 : Int32))), (3, v_R r24)]) X dX3_leastLackingRing_41 rfl rfl (by decide) rfl ?_
          refine a_goto (tgt := 2) X dX3_leastLackingRing_44 (by decide) ?_
          refine a_pick (lv' := [(0, v_R (some a0)), (1, v_R x1), (2, v_I (x2 + (1 : Int32)))]) [0, 1, 2] rfl ?_
          exact hr_2 x1 (x2 + (1 : Int32)) hm
        · refine a_iload_n X dX3_leastLackingRing_39 rfl ?_
          exact a_iret X hF ⟨rfl, rfl, Option.some.inj hm⟩ (by decide) dX3_leastLackingRing_40
def l_X3_leastLackingRing_2 (h : Hpx) (a0 : Nat) (n : Nat) : Option Nat → Int32 → Option (Int32) := lp_ (fun rec_2 => j_X3_leastLackingRing_2 h a0 rec_2) (fun _ _ => none) n
theorem ql_X3_leastLackingRing_2 {v : Evx} {g : Gvx} {M : Msx} {r : Int32} (X : Cx_ v g cX3_leastLackingRing 4 RX3 "leastLackingRing" ((some .int)) rm_X3_leastLackingRing) (h : Hpx) (a0 : Nat) (hF : Fi_ v g rm_X3_leastLackingRing (some (v_I r)) h M) : ∀ (n : Nat) (x1 : Option Nat) (x2 : Int32), l_X3_leastLackingRing_2 h a0 n x1 x2 = some r → At_ v g 4 h M 0 0 2 [(0, v_R (some a0)), (1, v_R x1), (2, v_I x2)] [] := by
  intro n
  induction n with
  | zero => intro x1 x2 hm; cases hm
  | succ n ih =>
    intro x1 x2 hm
    exact q_X3_leastLackingRing_2 X h a0 hF (l_X3_leastLackingRing_2 h a0 n) ih x1 x2 hm
def f_X3_leastLackingRing (h : Hpx) (a0 : Nat) (x1 : Option Nat) : Option (Int32) :=
  l_X3_leastLackingRing_2 h a0 70 x1 (0 : Int32)
set_option maxHeartbeats 4000000 in
theorem q_X3_leastLackingRing_0 {v : Evx} {g : Gvx} {M : Msx} {r : Int32} (X : Cx_ v g cX3_leastLackingRing 4 RX3 "leastLackingRing" ((some .int)) rm_X3_leastLackingRing) (h : Hpx) (a0 : Nat) (hF : Fi_ v g rm_X3_leastLackingRing (some (v_I r)) h M) (x1 : Option Nat) (hm : f_X3_leastLackingRing h a0 x1 = some r) : At_ v g 4 h M 0 0 0 [(0, v_R (some a0)), (1, v_R x1)] [] := by
  unfold f_X3_leastLackingRing at hm
  refine a_iconst (x := 0) X dX3_leastLackingRing_0 (by decide) ?_
  refine a_istore_n (lv' := [(0, v_R (some a0)), (1, v_R x1), (2, v_I (0 : Int32))]) X dX3_leastLackingRing_1 (by decide) rfl ?_
  exact ql_X3_leastLackingRing_2 X h a0 hF 70 x1 (0 : Int32) hm
theorem c_X3_leastLackingRing {l : Launch} {g : Gvx} {h : Hpx} {M : Msx} {r : Int32} {a0 : Nat} {x1 : Option Nat} (hm : f_X3_leastLackingRing h a0 x1 = some r) : Mt_ l g yX3_leastLackingRing cX3_leastLackingRing 4 ((some .int)) rm_X3_leastLackingRing [v_R (some a0), v_R x1] h M (some (v_I r)) h M := mt_of (by decide) (Nat.le_of_ble_eq_true rfl) (fun v _ X hF => q_X3_leastLackingRing_0 X h a0 hF x1 hm)
theorem yv_X3_leastLackingRing : Yv_ yX3_leastLackingRing cX3_leastLackingRing 4 ((some .int)) 1 3 := ⟨rfl, by decide, ⟨by decide, by decide, by decide +kernel⟩, co_X3_leastLackingRing, im_X3_leastLackingRing, se_X3_leastLackingRing, ini_X3⟩
