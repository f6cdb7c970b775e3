abbrev rm_X4_publish : Room := { frames := 3, cells := 0, slots := 0, locals := 74 }
def f_X4_publish (M : Msx) (x1 : Int32) (x2 : Int32) (x3 : Int32) (x4 : Int32) : Option (Msx × Int32) :=
  (f_X4_isRing M x1).bind fun r22 =>
  (if r22 = 0 then
  some (M, (-1 : Int32))
  else (if x3 < 0 then
  some (M, (-1 : Int32))
  else (if (31 : Int32) < x3 then
  some (M, (-1 : Int32))
  else (if x4 < 0 then
  some (M, (-1 : Int32))
  else (if x4 ≤ (8 : Int32) then
  (if (m_I M 34 0) = 0 then
  some (M, (-2 : Int32))
  else (if in_b x1 8 = true then
  (if (m_I M 3 x1.toNatClampNeg) = (2 : Int32) then
  some (M, (-7 : Int32))
  else (f_X4_isOpen M x1 x2).bind fun r32 =>
  (if r32 = 0 then
  some (M, (-11 : Int32))
  else (f_X4_slot M x1 x2).bind fun r35 =>
  (if in_b r35 512 = true then
  b_d (n_I M 5 r35.toNatClampNeg (0 : Int32)) fun M37 =>
  (if in_b r35 512 = true then
  b_d (n_I M37 7 r35.toNatClampNeg x3) fun M39 =>
  (if in_b r35 512 = true then
  b_d (n_I M39 8 r35.toNatClampNeg x4) fun M41 =>
  (f_X4_fold M41 x1 x2).bind fun M43 =>
  some (M43, (1 : Int32)) else none) else none) else none))) else none))
  else some (M, (-1 : Int32)))))))
set_option maxHeartbeats 4000000 in
theorem q_X4_publish_0 {v : Evx} {g : Gvx} {h : Hpx} {M' : Msx} {r : Int32} (X : Cx_ v g cX4_publish 6 RX4 "publish" ((some .int)) rm_X4_publish) (hMR : MR_ h) (hF : Fi_ v g rm_X4_publish (some (v_I r)) h M') (M : Msx) (x1 : Int32) (x2 : Int32) (x3 : Int32) (x4 : Int32) (hm : f_X4_publish M x1 x2 x3 x4 = some (M', r)) : At_ v g 6 h M 0 0 0 [(0, v_R (some 5)), (1, v_I x1), (2, v_I x2), (3, v_I x3), (4, v_I x4)] [] := by
  unfold f_X4_publish at hm
  refine a_aload_n X dX4_publish_0 rfl ?_
  refine a_iload_n X dX4_publish_1 rfl ?_
  obtain ⟨r22, q21, hm⟩ := i_b hm
  refine a_callV (k' := 0) (n' := 0) (st := []) X (c_X4_isRing hMR q21) yv_X4_isRing ml_X4_142 rfl (Or.inr (mr5_ hMR)) ⟨by decide, by decide, by decide, by decide, Nat.le_of_ble_eq_true rfl⟩ rfl rfl dX4_publish_2 rfl rfl ?_
  show At_ v g 6 h M 0 0 5 [(0, v_R (some 5)), (1, v_I x1), (2, v_I x2), (3, v_I x3), (4, v_I x4)] [v_I r22]
  refine a_if_eq (tgt := 30) X dX4_publish_5 (by decide) hm (fun c23 hm => ?_) (fun c23 hm => ?_)
  · refine a_iconst (x := -1) X dX4_publish_30 (by decide) ?_
    exact a_iret X hF ⟨rfl, (Prod.mk.inj (Option.some.inj hm)).1, (Prod.mk.inj (Option.some.inj hm)).2⟩ (by decide) dX4_publish_31
  · refine a_iload_n X dX4_publish_8 rfl ?_
    refine a_if_lt (tgt := 30) X dX4_publish_9 (by decide) hm (fun c24 hm => ?_) (fun c24 hm => ?_)
    · refine a_iconst (x := -1) X dX4_publish_30 (by decide) ?_
      exact a_iret X hF ⟨rfl, (Prod.mk.inj (Option.some.inj hm)).1, (Prod.mk.inj (Option.some.inj hm)).2⟩ (by decide) dX4_publish_31
    · refine a_iload_n X dX4_publish_12 rfl ?_
      refine a_bipush (x := 31) X dX4_publish_13 (by decide) ?_
      refine a_icmp_gt (tgt := 30) X dX4_publish_15 (by decide) hm (fun c25 hm => ?_) (fun c25 hm => ?_)
      · refine a_iconst (x := -1) X dX4_publish_30 (by decide) ?_
        exact a_iret X hF ⟨rfl, (Prod.mk.inj (Option.some.inj hm)).1, (Prod.mk.inj (Option.some.inj hm)).2⟩ (by decide) dX4_publish_31
      · refine a_iload X dX4_publish_18 rfl ?_
        refine a_if_lt (tgt := 30) X dX4_publish_20 (by decide) hm (fun c26 hm => ?_) (fun c26 hm => ?_)
        · refine a_iconst (x := -1) X dX4_publish_30 (by decide) ?_
          exact a_iret X hF ⟨rfl, (Prod.mk.inj (Option.some.inj hm)).1, (Prod.mk.inj (Option.some.inj hm)).2⟩ (by decide) dX4_publish_31
        · refine a_iload X dX4_publish_23 rfl ?_
          refine a_bipush (x := 8) X dX4_publish_25 (by decide) ?_
          refine a_icmp_le (tgt := 32) X dX4_publish_27 (by decide) hm (fun c27 hm => ?_) (fun c27 hm => ?_)
          · refine a_aload_n X dX4_publish_32 rfl ?_
            refine a_mgetI X hMR 34 (by decide) rfl fl_X4_135 dX4_publish_33 ?_
            refine a_if_ne (tgt := 42) X dX4_publish_36 (by decide) hm (fun c28 hm => ?_) (fun c28 hm => ?_)
            · refine a_aload_n X dX4_publish_42 rfl ?_
              refine a_mgetA X hMR 3 (by decide) rfl rfl fl_X4_16 dX4_publish_43 ?_
              refine a_iload_n X dX4_publish_46 rfl ?_
              obtain ⟨b29, hm⟩ := i_c hm
              refine a_maldI X hMR 3 (by decide) rfl rfl rfl b29 dX4_publish_47 ?_
              refine a_iconst (x := 2) X dX4_publish_48 (by decide) ?_
              refine a_icmp_ne (tgt := 55) X dX4_publish_49 (by decide) hm (fun c30 hm => ?_) (fun c30 hm => ?_)
              · refine a_aload_n X dX4_publish_55 rfl ?_
                refine a_iload_n X dX4_publish_56 rfl ?_
                refine a_iload_n X dX4_publish_57 rfl ?_
                obtain ⟨r32, q31, hm⟩ := i_b hm
                refine a_callV (k' := 0) (n' := 0) (st := []) X (c_X4_isOpen hMR q31) yv_X4_isOpen ml_X4_180 rfl (Or.inr (mr5_ hMR)) ⟨by decide, by decide, by decide, by decide, Nat.le_of_ble_eq_true rfl⟩ rfl rfl dX4_publish_58 rfl rfl ?_
                show At_ v g 6 h M 0 0 61 [(0, v_R (some 5)), (1, v_I x1), (2, v_I x2), (3, v_I x3), (4, v_I x4)] [v_I r32]
                refine a_if_ne (tgt := 67) X dX4_publish_61 (by decide) hm (fun c33 hm => ?_) (fun c33 hm => ?_)
                · refine a_aload_n X dX4_publish_67 rfl ?_
                  refine a_iload_n X dX4_publish_68 rfl ?_
                  refine a_iload_n X dX4_publish_69 rfl ?_
                  obtain ⟨r35, q34, hm⟩ := i_b hm
                  refine a_callV (k' := 0) (n' := 0) (st := []) X (c_X4_slot hMR q34) yv_X4_slot ml_X4_171 rfl (Or.inr (mr5_ hMR)) ⟨by decide, by decide, by decide, by decide, Nat.le_of_ble_eq_true rfl⟩ rfl rfl dX4_publish_70 rfl rfl ?_
                  show At_ v g 6 h M 0 0 73 [(0, v_R (some 5)), (1, v_I x1), (2, v_I x2), (3, v_I x3), (4, v_I x4)] [v_I r35]
                  refine a_istore (lv' := [(0, v_R (some 5)), (1, v_I x1), (2, v_I x2), (3, v_I x3), (4, v_I x4), (5, v_I r35)]) X dX4_publish_73 (by decide) rfl ?_
                  refine a_aload_n X dX4_publish_75 rfl ?_
                  refine a_mgetA X hMR 5 (by decide) rfl rfl fl_X4_23 dX4_publish_76 ?_
                  refine a_iload X dX4_publish_79 rfl ?_
                  refine a_iconst (x := 0) X dX4_publish_81 (by decide) ?_
                  obtain ⟨b36, hm⟩ := i_c hm
                  obtain ⟨M37, eM37, hm⟩ := i_d hm
                  refine a_mastZ X hMR 5 (by decide) rfl rfl rfl b36 (Or.inl rfl) dX4_publish_82 ?_
                  rw [← eM37]
                  refine a_aload_n X dX4_publish_83 rfl ?_
                  refine a_mgetA X hMR 7 (by decide) rfl rfl fl_X4_30 dX4_publish_84 ?_
                  refine a_iload X dX4_publish_87 rfl ?_
                  refine a_iload_n X dX4_publish_89 rfl ?_
                  obtain ⟨b38, hm⟩ := i_c hm
                  obtain ⟨M39, eM39, hm⟩ := i_d hm
                  refine a_mastI X hMR 7 (by decide) rfl rfl rfl b38 dX4_publish_90 ?_
                  rw [← eM39]
                  refine a_aload_n X dX4_publish_91 rfl ?_
                  refine a_mgetA X hMR 8 (by decide) rfl rfl fl_X4_33 dX4_publish_92 ?_
                  refine a_iload X dX4_publish_95 rfl ?_
                  refine a_iload X dX4_publish_97 rfl ?_
                  obtain ⟨b40, hm⟩ := i_c hm
                  obtain ⟨M41, eM41, hm⟩ := i_d hm
                  refine a_mastI X hMR 8 (by decide) rfl rfl rfl b40 dX4_publish_99 ?_
                  rw [← eM41]
                  refine a_aload_n X dX4_publish_100 rfl ?_
                  refine a_iload_n X dX4_publish_101 rfl ?_
                  refine a_iload_n X dX4_publish_102 rfl ?_
                  obtain ⟨M43, q42, hm⟩ := i_b hm
                  refine a_callV (k' := 0) (n' := 0) (st := []) X (c_X4_fold hMR q42) yv_X4_fold ml_X4_207 rfl (Or.inr (mr5_ hMR)) ⟨by decide, by decide, by decide, by decide, Nat.le_of_ble_eq_true rfl⟩ rfl rfl dX4_publish_103 rfl rfl ?_
                  show At_ v g 6 h M43 0 0 106 [(0, v_R (some 5)), (1, v_I x1), (2, v_I x2), (3, v_I x3), (4, v_I x4), (5, v_I r35)] []
                  refine a_iconst (x := 1) X dX4_publish_106 (by decide) ?_
                  exact a_iret X hF ⟨rfl, (Prod.mk.inj (Option.some.inj hm)).1, (Prod.mk.inj (Option.some.inj hm)).2⟩ (by decide) dX4_publish_107
                · refine a_bipush (x := -11) X dX4_publish_64 (by decide) ?_
                  exact a_iret X hF ⟨rfl, (Prod.mk.inj (Option.some.inj hm)).1, (Prod.mk.inj (Option.some.inj hm)).2⟩ (by decide) dX4_publish_66
              · refine a_bipush (x := -7) X dX4_publish_52 (by decide) ?_
                exact a_iret X hF ⟨rfl, (Prod.mk.inj (Option.some.inj hm)).1, (Prod.mk.inj (Option.some.inj hm)).2⟩ (by decide) dX4_publish_54
            · refine a_bipush (x := -2) X dX4_publish_39 (by decide) ?_
              exact a_iret X hF ⟨rfl, (Prod.mk.inj (Option.some.inj hm)).1, (Prod.mk.inj (Option.some.inj hm)).2⟩ (by decide) dX4_publish_41
          · refine a_iconst (x := -1) X dX4_publish_30 (by decide) ?_
            exact a_iret X hF ⟨rfl, (Prod.mk.inj (Option.some.inj hm)).1, (Prod.mk.inj (Option.some.inj hm)).2⟩ (by decide) dX4_publish_31
theorem c_X4_publish {l : Launch} {g : Gvx} {h : Hpx} {M : Msx} {M' : Msx} {r : Int32} {x1 : Int32} {x2 : Int32} {x3 : Int32} {x4 : Int32} (hMR : MR_ h) (hm : f_X4_publish M x1 x2 x3 x4 = some (M', r)) : Mt_ l g yX4_publish cX4_publish 6 ((some .int)) rm_X4_publish [v_R (some 5), v_I x1, v_I x2, v_I x3, v_I x4] h M (some (v_I r)) h M' := mt_of (by decide) (Nat.le_of_ble_eq_true rfl) (fun v _ X hF => q_X4_publish_0 X hMR hF M x1 x2 x3 x4 hm)
theorem yv_X4_publish : Yv_ yX4_publish cX4_publish 6 ((some .int)) 4 4 := ⟨rfl, by decide, ⟨by decide, by decide, by decide +kernel⟩, co_X4_publish, im_X4_publish, se_X4_publish, ini_X4⟩

abbrev rm_X4_close : Room := { frames := 1, cells := 0, slots := 0, locals := 21 }
def f_X4_close (M : Msx) (x1 : Int32) : Option (Msx × Int32) :=
  (f_X4_isRing M x1).bind fun r22 =>
  (if r22 = 0 then
  some (M, (-1 : Int32))
  else (if (m_I M 34 0) = 0 then
  some (M, (-2 : Int32))
  else (if in_b x1 8 = true then
  (if (m_I M 3 x1.toNatClampNeg) ≤ 0 then
  b_d (n_I M 3 x1.toNatClampNeg (1 : Int32)) fun M27 =>
  some (M27, (1 : Int32))
  else (if (m_I M 3 x1.toNatClampNeg) = (2 : Int32) then
  some (M, (-7 : Int32))
  else some (M, (-8 : Int32)))) else none)))
set_option maxHeartbeats 4000000 in
theorem q_X4_close_0 {v : Evx} {g : Gvx} {h : Hpx} {M' : Msx} {r : Int32} (X : Cx_ v g cX4_close 2 RX4 "close" ((some .int)) rm_X4_close) (hMR : MR_ h) (hF : Fi_ v g rm_X4_close (some (v_I r)) h M') (M : Msx) (x1 : Int32) (hm : f_X4_close M x1 = some (M', r)) : At_ v g 2 h M 0 0 0 [(0, v_R (some 5)), (1, v_I x1)] [] := by
  unfold f_X4_close at hm
  refine a_aload_n X dX4_close_0 rfl ?_
  refine a_iload_n X dX4_close_1 rfl ?_
  obtain ⟨r22, q21, hm⟩ := i_b hm
  refine a_callV (k' := 0) (n' := 0) (st := []) X (c_X4_isRing hMR q21) yv_X4_isRing ml_X4_142 rfl (Or.inr (mr5_ hMR)) ⟨by decide, by decide, by decide, by decide, Nat.le_of_ble_eq_true rfl⟩ rfl rfl dX4_close_2 rfl rfl ?_
  show At_ v g 2 h M 0 0 5 [(0, v_R (some 5)), (1, v_I x1)] [v_I r22]
  refine a_if_ne (tgt := 10) X dX4_close_5 (by decide) hm (fun c23 hm => ?_) (fun c23 hm => ?_)
  · refine a_aload_n X dX4_close_10 rfl ?_
    refine a_mgetI X hMR 34 (by decide) rfl fl_X4_135 dX4_close_11 ?_
    refine a_if_ne (tgt := 20) X dX4_close_14 (by decide) hm (fun c24 hm => ?_) (fun c24 hm => ?_)
    · refine a_aload_n X dX4_close_20 rfl ?_
      refine a_mgetA X hMR 3 (by decide) rfl rfl fl_X4_16 dX4_close_21 ?_
      refine a_iload_n X dX4_close_24 rfl ?_
      obtain ⟨b25, hm⟩ := i_c hm
      refine a_maldI X hMR 3 (by decide) rfl rfl rfl b25 dX4_close_25 ?_
      refine a_if_le (tgt := 47) X dX4_close_26 (by decide) hm (fun c26 hm => ?_) (fun c26 hm => ?_)
      · refine a_aload_n X dX4_close_47 rfl ?_
        refine a_mgetA X hMR 3 (by decide) rfl rfl fl_X4_16 dX4_close_48 ?_
        refine a_iload_n X dX4_close_51 rfl ?_
        refine a_iconst (x := 1) X dX4_close_52 (by decide) ?_
        obtain ⟨M27, eM27, hm⟩ := i_d hm
        refine a_mastI X hMR 3 (by decide) rfl rfl rfl b25 dX4_close_53 ?_
        rw [← eM27]
        refine a_iconst (x := 1) X dX4_close_54 (by decide) ?_
        exact a_iret X hF ⟨rfl, (Prod.mk.inj (Option.some.inj hm)).1, (Prod.mk.inj (Option.some.inj hm)).2⟩ (by decide) dX4_close_55
      · refine a_aload_n X dX4_close_29 rfl ?_
        refine a_mgetA X hMR 3 (by decide) rfl rfl fl_X4_16 dX4_close_30 ?_
        refine a_iload_n X dX4_close_33 rfl ?_
        refine a_maldI X hMR 3 (by decide) rfl rfl rfl b25 dX4_close_34 ?_
        refine a_iconst (x := 2) X dX4_close_35 (by decide) ?_
        refine a_icmp_ne (tgt := 44) X dX4_close_36 (by decide) hm (fun c28 hm => ?_) (fun c28 hm => ?_)
        · refine a_bipush (x := -8) X dX4_close_44 (by decide) ?_
          exact a_iret X hF ⟨rfl, (Prod.mk.inj (Option.some.inj hm)).1, (Prod.mk.inj (Option.some.inj hm)).2⟩ (by decide) dX4_close_46
        · refine a_bipush (x := -7) X dX4_close_39 (by decide) ?_
          refine a_goto (tgt := 46) X dX4_close_41 (by decide) ?_
          exact a_iret X hF ⟨rfl, (Prod.mk.inj (Option.some.inj hm)).1, (Prod.mk.inj (Option.some.inj hm)).2⟩ (by decide) dX4_close_46
    · refine a_bipush (x := -2) X dX4_close_17 (by decide) ?_
      exact a_iret X hF ⟨rfl, (Prod.mk.inj (Option.some.inj hm)).1, (Prod.mk.inj (Option.some.inj hm)).2⟩ (by decide) dX4_close_19
  · refine a_iconst (x := -1) X dX4_close_8 (by decide) ?_
    exact a_iret X hF ⟨rfl, (Prod.mk.inj (Option.some.inj hm)).1, (Prod.mk.inj (Option.some.inj hm)).2⟩ (by decide) dX4_close_9
theorem c_X4_close {l : Launch} {g : Gvx} {h : Hpx} {M : Msx} {M' : Msx} {r : Int32} {x1 : Int32} (hMR : MR_ h) (hm : f_X4_close M x1 = some (M', r)) : Mt_ l g yX4_close cX4_close 2 ((some .int)) rm_X4_close [v_R (some 5), v_I x1] h M (some (v_I r)) h M' := mt_of (by decide) (Nat.le_of_ble_eq_true rfl) (fun v _ X hF => q_X4_close_0 X hMR hF M x1 hm)
theorem yv_X4_close : Yv_ yX4_close cX4_close 2 ((some .int)) 1 4 := ⟨rfl, by decide, ⟨by decide, by decide, by decide +kernel⟩, co_X4_close, im_X4_close, se_X4_close, ini_X4⟩

abbrev rm_X4_openMany : Room := { frames := 2, cells := 0, slots := 0, locals := 44 }
def j_X4_openMany_4 (M : Msx) (rec_4 : Int32 → Int32 → Int32 → Option (Int32)) (x1 : Int32) (x2 : Int32) (x3 : Int32) : Option (Int32) :=
  (if in_b x1 8 = true then
  (if (m_I M 1 x1.toNatClampNeg) ≤ x3 then
  some x2
  else (if in_b x1 8 = true then
  (f_X4_isOpen M x1 (((m_I M 2 x1.toNatClampNeg) - (1 : Int32)) - x3)).bind fun r25 =>
  (if r25 = 0 then
  rec_4 x1 (x2 + (0 : Int32)) (x3 + (1 : Int32))
  else rec_4 x1 (x2 + (1 : Int32)) (x3 + (1 : Int32))) else none)) else none)
set_option maxHeartbeats 4000000 in
theorem q_X4_openMany_4 {v : Evx} {g : Gvx} {h : Hpx} {r : Int32} (X : Cx_ v g cX4_openMany 4 RX4 "openMany" ((some .int)) rm_X4_openMany) (hMR : MR_ h) (M : Msx) (hF : Fi_ v g rm_X4_openMany (some (v_I r)) h M) (rec_4 : Int32 → Int32 → Int32 → Option (Int32)) (hr_4 : ∀ (x1 : Int32) (x2 : Int32) (x3 : Int32), rec_4 x1 x2 x3 = some r → At_ v g 4 h M 0 0 4 [(0, v_R (some 5)), (1, v_I x1), (2, v_I x2), (3, v_I x3)] []) (x1 : Int32) (x2 : Int32) (x3 : Int32) (hm : j_X4_openMany_4 M rec_4 x1 x2 x3 = some r) : At_ v g 4 h M 0 0 4 [(0, v_R (some 5)), (1, v_I x1), (2, v_I x2), (3, v_I x3)] [] := by
  unfold j_X4_openMany_4 at hm
  refine a_iload_n X dX4_openMany_4 rfl ?_
  refine a_aload_n X dX4_openMany_5 rfl ?_
  refine a_mgetA X hMR 1 (by decide) rfl rfl fl_X4_7 dX4_openMany_6 ?_
  refine a_iload_n X dX4_openMany_9 rfl ?_
  obtain ⟨b21, hm⟩ := i_c hm
  refine a_maldI X hMR 1 (by decide) rfl rfl rfl b21 dX4_openMany_10 ?_
  refine a_icmp_ge (tgt := 46) X dX4_openMany_11 (by decide) hm (fun c22 hm => ?_) (fun c22 hm => ?_)
  · refine a_iload_n X dX4_openMany_46 rfl ?_
    exact a_iret X hF ⟨rfl, rfl, Option.some.inj hm⟩ (by decide) dX4_openMany_47
  · refine a_iload_n X dX4_openMany_14 rfl ?_
    refine a_aload_n X dX4_openMany_15 rfl ?_
    refine a_iload_n X dX4_openMany_16 rfl ?_
    refine a_aload_n X dX4_openMany_17 rfl ?_
    refine a_mgetA X hMR 2 (by decide) rfl rfl fl_X4_13 dX4_openMany_18 ?_
    refine a_iload_n X dX4_openMany_21 rfl ?_
    obtain ⟨b23, hm⟩ := i_c hm
    refine a_maldI X hMR 2 (by decide) rfl rfl rfl b23 dX4_openMany_22 ?_
    refine a_iconst (x := 1) X dX4_openMany_23 (by decide) ?_
    refine a_isub X dX4_openMany_24 ?_
    refine a_iload_n X dX4_openMany_25 rfl ?_
    refine a_isub X dX4_openMany_26 ?_
    obtain ⟨r25, q24, hm⟩ := i_b hm
    refine a_callV (k' := 0) (n' := 0) (st := [v_I x2]) X (c_X4_isOpen hMR q24) yv_X4_isOpen ml_X4_180 rfl (Or.inr (mr5_ hMR)) ⟨by decide, by decide, by decide, by decide, Nat.le_of_ble_eq_true rfl⟩ rfl rfl dX4_openMany_27 rfl rfl ?_
    show At_ v g 4 h M 0 0 30 [(0, v_R (some 5)), (1, v_I x1), (2, v_I x2), (3, v_I x3)] [v_I r25, v_I x2]
    refine a_if_eq (tgt := 37) X dX4_openMany_30 (by decide) hm (fun c26 hm => ?_) (fun c26 hm => ?_)
    · refine a_iconst (x := 0) X dX4_openMany_37 (by decide) ?_
      refine a_iadd X dX4_openMany_38 ?_
      refine a_istore_n (lv' := [(0, v_R (some 5)), (1, v_I x1), (2, v_I (x2 + (0 : Int32))), (3, v_I x3)]) X dX4_openMany_39 (by decide) rfl ?_
      refine a_iinc (y := x3 + (1 : Int32)) (lv' := [(0, v_R (some 5)), (1, v_I x1), (2, v_I (x2 + (0 : Int32))), (3, v_I (x3 + (1 : Int32)))]) X dX4_openMany_40 rfl rfl (by decide) rfl ?_
      refine a_goto (tgt := 4) X dX4_openMany_43 (by decide) ?_
      exact hr_4 x1 (x2 + (0 : Int32)) (x3 + (1 : Int32)) hm
    · refine a_iconst (x := 1) X dX4_openMany_33 (by decide) ?_
      refine a_goto (tgt := 38) X dX4_openMany_34 (by decide) ?_
      refine a_iadd X dX4_openMany_38 ?_
      refine a_istore_n (lv' := [(0, v_R (some 5)), (1, v_I x1), (2, v_I (x2 + (1 : Int32))), (3, v_I x3)]) X dX4_openMany_39 (by decide) rfl ?_
      refine a_iinc (y := x3 + (1 : Int32)) (lv' := [(0, v_R (some 5)), (1, v_I x1), (2, v_I (x2 + (1 : Int32))), (3, v_I (x3 + (1 : Int32)))]) X dX4_openMany_40 rfl rfl (by decide) rfl ?_
      refine a_goto (tgt := 4) X dX4_openMany_43 (by decide) ?_
      exact hr_4 x1 (x2 + (1 : Int32)) (x3 + (1 : Int32)) hm
def l_X4_openMany_4 (M : Msx) (n : Nat) : Int32 → Int32 → Int32 → Option (Int32) := lp_ (fun rec_4 => j_X4_openMany_4 M rec_4) (fun _ _ _ => none) n
theorem ql_X4_openMany_4 {v : Evx} {g : Gvx} {h : Hpx} {r : Int32} (X : Cx_ v g cX4_openMany 4 RX4 "openMany" ((some .int)) rm_X4_openMany) (hMR : MR_ h) (M : Msx) (hF : Fi_ v g rm_X4_openMany (some (v_I r)) h M) : ∀ (n : Nat) (x1 : Int32) (x2 : Int32) (x3 : Int32), l_X4_openMany_4 M n x1 x2 x3 = some r → At_ v g 4 h M 0 0 4 [(0, v_R (some 5)), (1, v_I x1), (2, v_I x2), (3, v_I x3)] [] := by
  intro n
  induction n with
  | zero => intro x1 x2 x3 hm; cases hm
  | succ n ih =>
    intro x1 x2 x3 hm
    exact q_X4_openMany_4 X hMR M hF (l_X4_openMany_4 M n) ih x1 x2 x3 hm
def f_X4_openMany (M : Msx) (x1 : Int32) : Option (Int32) :=
  l_X4_openMany_4 M 70 x1 (0 : Int32) (0 : Int32)
set_option maxHeartbeats 4000000 in
theorem q_X4_openMany_0 {v : Evx} {g : Gvx} {h : Hpx} {r : Int32} (X : Cx_ v g cX4_openMany 4 RX4 "openMany" ((some .int)) rm_X4_openMany) (hMR : MR_ h) (M : Msx) (hF : Fi_ v g rm_X4_openMany (some (v_I r)) h M) (x1 : Int32) (hm : f_X4_openMany M x1 = some r) : At_ v g 4 h M 0 0 0 [(0, v_R (some 5)), (1, v_I x1)] [] := by
  unfold f_X4_openMany at hm
  refine a_iconst (x := 0) X dX4_openMany_0 (by decide) ?_
  refine a_istore_n (lv' := [(0, v_R (some 5)), (1, v_I x1), (2, v_I (0 : Int32))]) X dX4_openMany_1 (by decide) rfl ?_
  refine a_iconst (x := 0) X dX4_openMany_2 (by decide) ?_
  refine a_istore_n (lv' := [(0, v_R (some 5)), (1, v_I x1), (2, v_I (0 : Int32)), (3, v_I (0 : Int32))]) X dX4_openMany_3 (by decide) rfl ?_
  exact ql_X4_openMany_4 X hMR M hF 70 x1 (0 : Int32) (0 : Int32) hm
theorem c_X4_openMany {l : Launch} {g : Gvx} {h : Hpx} {M : Msx} {r : Int32} {x1 : Int32} (hMR : MR_ h) (hm : f_X4_openMany M x1 = some r) : Mt_ l g yX4_openMany cX4_openMany 4 ((some .int)) rm_X4_openMany [v_R (some 5), v_I x1] h M (some (v_I r)) h M := mt_of (by decide) (Nat.le_of_ble_eq_true rfl) (fun v _ X hF => q_X4_openMany_0 X hMR M hF x1 hm)
theorem yv_X4_openMany : Yv_ yX4_openMany cX4_openMany 4 ((some .int)) 1 4 := ⟨rfl, by decide, ⟨by decide, by decide, by decide +kernel⟩, co_X4_openMany, im_X4_openMany, se_X4_openMany, ini_X4⟩

abbrev rm_X4_leastPlace : Room := { frames := 2, cells := 0, slots := 0, locals := 47 }
def j_X4_leastPlace_35 (M : Msx) (rec_4 : Int32 → Int32 → Int32 → Option (Int32)) (x1 : Int32) (x3 : Int32) : Option (Int32) :=
  (f_X4_placeIn M x3 x1).bind fun r30 =>
  rec_4 x1 r30 (x3 + (1 : Int32))
set_option maxHeartbeats 4000000 in
theorem q_X4_leastPlace_35 {v : Evx} {g : Gvx} {h : Hpx} {r : Int32} (X : Cx_ v g cX4_leastPlace 4 RX4 "leastPlace" ((some .int)) rm_X4_leastPlace) (hMR : MR_ h) (M : Msx) (hF : Fi_ v g rm_X4_leastPlace (some (v_I r)) h M) (rec_4 : Int32 → Int32 → Int32 → Option (Int32)) (hr_4 : ∀ (x1 : Int32) (x2 : Int32) (x3 : Int32), rec_4 x1 x2 x3 = some r → At_ v g 4 h M 0 0 4 [(0, v_R (some 5)), (1, v_I x1), (2, v_I x2), (3, v_I x3)] []) (x1 : Int32) (x3 : Int32) (hm : j_X4_leastPlace_35 M rec_4 x1 x3 = some r) : At_ v g 4 h M 0 0 35 [(0, v_R (some 5)), (1, v_I x1), (3, v_I x3)] [] := by
  unfold j_X4_leastPlace_35 at hm
  refine a_aload_n X dX4_leastPlace_35 rfl ?_
  refine a_iload_n X dX4_leastPlace_36 rfl ?_
  refine a_iload_n X dX4_leastPlace_37 rfl ?_
  obtain ⟨r30, q29, hm⟩ := i_b hm
  refine a_callV (k' := 0) (n' := 0) (st := []) X (c_X4_placeIn hMR q29) yv_X4_placeIn ml_X4_177 rfl (Or.inr (mr5_ hMR)) ⟨by decide, by decide, by decide, by decide, Nat.le_of_ble_eq_true rfl⟩ rfl rfl dX4_leastPlace_38 rfl rfl ?_
  show At_ v g 4 h M 0 0 41 [(0, v_R (some 5)), (1, v_I x1), (3, v_I x3)] [v_I r30]
  refine a_istore_n (lv' := [(0, v_R (some 5)), (1, v_I x1), (2, v_I r30), (3, v_I x3)]) X dX4_leastPlace_41 (by decide) rfl ?_
  refine a_iinc (y := x3 + (1 : Int32)) (lv' := [(0, v_R (some 5)), (1, v_I x1), (2, v_I r30), (3, v_I (x3 + (1 : Int32)))]) X dX4_leastPlace_42 rfl rfl (by decide) rfl ?_
  refine a_goto (tgt := 4) X dX4_leastPlace_45 (by decide) ?_
  exact hr_4 x1 r30 (x3 + (1 : Int32)) hm
def j_X4_leastPlace_4 (M : Msx) (rec_4 : Int32 → Int32 → Int32 → Option (Int32)) (x1 : Int32) (x2 : Int32) (x3 : Int32) : Option (Int32) :=
  (if (m_I M 10 0) ≤ x3 then
  some x2
  else (f_X4_isHolder M x3 x1).bind fun r23 =>
  (if r23 = 0 then
  rec_4 x1 x2 (x3 + (1 : Int32))
  else (if x2 < 0 then
  j_X4_leastPlace_35 M rec_4 x1 x3
  else (f_X4_placeIn M x3 x1).bind fun r27 =>
  (if x2 ≤ r27 then
  rec_4 x1 x2 (x3 + (1 : Int32))
  else j_X4_leastPlace_35 M rec_4 x1 x3))))
set_option maxHeartbeats 4000000 in
theorem q_X4_leastPlace_4 {v : Evx} {g : Gvx} {h : Hpx} {r : Int32} (X : Cx_ v g cX4_leastPlace 4 RX4 "leastPlace" ((some .int)) rm_X4_leastPlace) (hMR : MR_ h) (M : Msx) (hF : Fi_ v g rm_X4_leastPlace (some (v_I r)) h M) (rec_4 : Int32 → Int32 → Int32 → Option (Int32)) (hr_4 : ∀ (x1 : Int32) (x2 : Int32) (x3 : Int32), rec_4 x1 x2 x3 = some r → At_ v g 4 h M 0 0 4 [(0, v_R (some 5)), (1, v_I x1), (2, v_I x2), (3, v_I x3)] []) (x1 : Int32) (x2 : Int32) (x3 : Int32) (hm : j_X4_leastPlace_4 M rec_4 x1 x2 x3 = some r) : At_ v g 4 h M 0 0 4 [(0, v_R (some 5)), (1, v_I x1), (2, v_I x2), (3, v_I x3)] [] := by
  unfold j_X4_leastPlace_4 at hm
  refine a_iload_n X dX4_leastPlace_4 rfl ?_
  refine a_aload_n X dX4_leastPlace_5 rfl ?_
  refine a_mgetI X hMR 10 (by decide) rfl fl_X4_124 dX4_leastPlace_6 ?_
  refine a_icmp_ge (tgt := 48) X dX4_leastPlace_9 (by decide) hm (fun c21 hm => ?_) (fun c21 hm => ?_)
  · refine a_iload_n X dX4_leastPlace_48 rfl ?_
    exact a_iret X hF ⟨rfl, rfl, Option.some.inj hm⟩ (by decide) dX4_leastPlace_49
  · refine a_aload_n X dX4_leastPlace_12 rfl ?_
    refine a_iload_n X dX4_leastPlace_13 rfl ?_
    refine a_iload_n X dX4_leastPlace_14 rfl ?_
    obtain ⟨r23, q22, hm⟩ := i_b hm
    refine a_callV (k' := 0) (n' := 0) (st := []) X (c_X4_isHolder hMR q22) yv_X4_isHolder ml_X4_174 rfl (Or.inr (mr5_ hMR)) ⟨by decide, by decide, by decide, by decide, Nat.le_of_ble_eq_true rfl⟩ rfl rfl dX4_leastPlace_15 rfl rfl ?_
    show At_ v g 4 h M 0 0 18 [(0, v_R (some 5)), (1, v_I x1), (2, v_I x2), (3, v_I x3)] [v_I r23]
    refine a_if_eq (tgt := 42) X dX4_leastPlace_18 (by decide) hm (fun c24 hm => ?_) (fun c24 hm => ?_)
    · refine a_iinc (y := x3 + (1 : Int32)) (lv' := [(0, v_R (some 5)), (1, v_I x1), (2, v_I x2), (3, v_I (x3 + (1 : Int32)))]) X dX4_leastPlace_42 rfl rfl (by decide) rfl ?_
      refine a_goto (tgt := 4) X dX4_leastPlace_45 (by decide) ?_
      exact hr_4 x1 x2 (x3 + (1 : Int32)) hm
    · refine a_iload_n X dX4_leastPlace_21 rfl ?_
      refine a_if_lt (tgt := 35) X dX4_leastPlace_22 (by decide) hm (fun c25 hm => ?_) (fun c25 hm => ?_)
      · refine a_pick (lv' := [(0, v_R (some 5)), (1, v_I x1), (3, v_I x3)]) [0, 1, 3] rfl ?_
        exact q_X4_leastPlace_35 X hMR M hF rec_4 hr_4 x1 x3 hm
      · refine a_aload_n X dX4_leastPlace_25 rfl ?_
        refine a_iload_n X dX4_leastPlace_26 rfl ?_
        refine a_iload_n X dX4_leastPlace_27 rfl ?_
        obtain ⟨r27, q26, hm⟩ := i_b hm
        refine a_callV (k' := 0) (n' := 0) (st := []) X (c_X4_placeIn hMR q26) yv_X4_placeIn ml_X4_177 rfl (Or.inr (mr5_ hMR)) ⟨by decide, by decide, by decide, by decide, Nat.le_of_ble_eq_true rfl⟩ rfl rfl dX4_leastPlace_28 rfl rfl ?_
        show At_ v g 4 h M 0 0 31 [(0, v_R (some 5)), (1, v_I x1), (2, v_I x2), (3, v_I x3)] [v_I r27]
        refine a_iload_n X dX4_leastPlace_31 rfl ?_
        refine a_icmp_ge (tgt := 42) X dX4_leastPlace_32 (by decide) hm (fun c28 hm => ?_) (fun c28 hm => ?_)
        · refine a_iinc (y := x3 + (1 : Int32)) (lv' := [(0, v_R (some 5)), (1, v_I x1), (2, v_I x2), (3, v_I (x3 + (1 : Int32)))]) X dX4_leastPlace_42 rfl rfl (by decide) rfl ?_
          refine a_goto (tgt := 4) X dX4_leastPlace_45 (by decide) ?_
          exact hr_4 x1 x2 (x3 + (1 : Int32)) hm
        · refine a_pick (lv' := [(0, v_R (some 5)), (1, v_I x1), (3, v_I x3)]) [0, 1, 3] rfl ?_
          exact q_X4_leastPlace_35 X hMR M hF rec_4 hr_4 x1 x3 hm
def l_X4_leastPlace_4 (M : Msx) (n : Nat) : Int32 → Int32 → Int32 → Option (Int32) := lp_ (fun rec_4 => j_X4_leastPlace_4 M rec_4) (fun _ _ _ => none) n
theorem ql_X4_leastPlace_4 {v : Evx} {g : Gvx} {h : Hpx} {r : Int32} (X : Cx_ v g cX4_leastPlace 4 RX4 "leastPlace" ((some .int)) rm_X4_leastPlace) (hMR : MR_ h) (M : Msx) (hF : Fi_ v g rm_X4_leastPlace (some (v_I r)) h M) : ∀ (n : Nat) (x1 : Int32) (x2 : Int32) (x3 : Int32), l_X4_leastPlace_4 M n x1 x2 x3 = some r → At_ v g 4 h M 0 0 4 [(0, v_R (some 5)), (1, v_I x1), (2, v_I x2), (3, v_I x3)] [] := by
  intro n
  induction n with
  | zero => intro x1 x2 x3 hm; cases hm
  | succ n ih =>
    intro x1 x2 x3 hm
    exact q_X4_leastPlace_4 X hMR M hF (l_X4_leastPlace_4 M n) ih x1 x2 x3 hm
def f_X4_leastPlace (M : Msx) (x1 : Int32) : Option (Int32) :=
  l_X4_leastPlace_4 M 70 x1 (-1 : Int32) (0 : Int32)
set_option maxHeartbeats 4000000 in
theorem q_X4_leastPlace_0 {v : Evx} {g : Gvx} {h : Hpx} {r : Int32} (X : Cx_ v g cX4_leastPlace 4 RX4 "leastPlace" ((some .int)) rm_X4_leastPlace) (hMR : MR_ h) (M : Msx) (hF : Fi_ v g rm_X4_leastPlace (some (v_I r)) h M) (x1 : Int32) (hm : f_X4_leastPlace M x1 = some r) : At_ v g 4 h M 0 0 0 [(0, v_R (some 5)), (1, v_I x1)] [] := by
  unfold f_X4_leastPlace at hm
  refine a_iconst (x := -1) X dX4_leastPlace_0 (by decide) ?_
  refine a_istore_n (lv' := [(0, v_R (some 5)), (1, v_I x1), (2, v_I (-1 : Int32))]) X dX4_leastPlace_1 (by decide) rfl ?_
  refine a_iconst (x := 0) X dX4_leastPlace_2 (by decide) ?_
  refine a_istore_n (lv' := [(0, v_R (some 5)), (1, v_I x1), (2, v_I (-1 : Int32)), (3, v_I (0 : Int32))]) X dX4_leastPlace_3 (by decide) rfl ?_
  exact ql_X4_leastPlace_4 X hMR M hF 70 x1 (-1 : Int32) (0 : Int32) hm
theorem c_X4_leastPlace {l : Launch} {g : Gvx} {h : Hpx} {M : Msx} {r : Int32} {x1 : Int32} (hMR : MR_ h) (hm : f_X4_leastPlace M x1 = some r) : Mt_ l g yX4_leastPlace cX4_leastPlace 4 ((some .int)) rm_X4_leastPlace [v_R (some 5), v_I x1] h M (some (v_I r)) h M := mt_of (by decide) (Nat.le_of_ble_eq_true rfl) (fun v _ X hF => q_X4_leastPlace_0 X hMR M hF x1 hm)
theorem yv_X4_leastPlace : Yv_ yX4_leastPlace cX4_leastPlace 4 ((some .int)) 1 4 := ⟨rfl, by decide, ⟨by decide, by decide, by decide +kernel⟩, co_X4_leastPlace, im_X4_leastPlace, se_X4_leastPlace, ini_X4⟩

abbrev rm_X4_give : Room := { frames := 3, cells := 0, slots := 0, locals := 70 }
def f_X4_give (M : Msx) (x1 : Int32) : Option (Msx × Int32) :=
  (f_X4_isRing M x1).bind fun r22 =>
  (if r22 = 0 then
  some (M, (-1 : Int32))
  else (if (m_I M 34 0) = 0 then
  some (M, (-2 : Int32))
  else (if in_b x1 8 = true then
  (if (m_I M 3 x1.toNatClampNeg) = (2 : Int32) then
  some (M, (-7 : Int32))
  else (f_X4_leastPlace M x1).bind fun r28 =>
  (f_X4_openMany M x1).bind fun r30 =>
  (if 0 < r30 then
  some (M, (-10 : Int32))
  else (if r28 < 0 then
  b_d (n_I M 3 x1.toNatClampNeg (2 : Int32)) fun M33 =>
  some (M33, (1 : Int32))
  else (if in_b x1 8 = true then
  (if (m_I M 2 x1.toNatClampNeg) ≤ r28 then
  b_d (n_I M 3 x1.toNatClampNeg (2 : Int32)) fun M36 =>
  some (M36, (1 : Int32))
  else some (M, (-10 : Int32))) else none)))) else none)))
set_option maxHeartbeats 4000000 in
theorem q_X4_give_0 {v : Evx} {g : Gvx} {h : Hpx} {M' : Msx} {r : Int32} (X : Cx_ v g cX4_give 3 RX4 "give" ((some .int)) rm_X4_give) (hMR : MR_ h) (hF : Fi_ v g rm_X4_give (some (v_I r)) h M') (M : Msx) (x1 : Int32) (hm : f_X4_give M x1 = some (M', r)) : At_ v g 3 h M 0 0 0 [(0, v_R (some 5)), (1, v_I x1)] [] := by
  unfold f_X4_give at hm
  refine a_aload_n X dX4_give_0 rfl ?_
  refine a_iload_n X dX4_give_1 rfl ?_
  obtain ⟨r22, q21, hm⟩ := i_b hm
  refine a_callV (k' := 0) (n' := 0) (st := []) X (c_X4_isRing hMR q21) yv_X4_isRing ml_X4_142 rfl (Or.inr (mr5_ hMR)) ⟨by decide, by decide, by decide, by decide, Nat.le_of_ble_eq_true rfl⟩ rfl rfl dX4_give_2 rfl rfl ?_
  show At_ v g 3 h M 0 0 5 [(0, v_R (some 5)), (1, v_I x1)] [v_I r22]
  refine a_if_ne (tgt := 10) X dX4_give_5 (by decide) hm (fun c23 hm => ?_) (fun c23 hm => ?_)
  · refine a_aload_n X dX4_give_10 rfl ?_
    refine a_mgetI X hMR 34 (by decide) rfl fl_X4_135 dX4_give_11 ?_
    refine a_if_ne (tgt := 20) X dX4_give_14 (by decide) hm (fun c24 hm => ?_) (fun c24 hm => ?_)
    · refine a_aload_n X dX4_give_20 rfl ?_
      refine a_mgetA X hMR 3 (by decide) rfl rfl fl_X4_16 dX4_give_21 ?_
      refine a_iload_n X dX4_give_24 rfl ?_
      obtain ⟨b25, hm⟩ := i_c hm
      refine a_maldI X hMR 3 (by decide) rfl rfl rfl b25 dX4_give_25 ?_
      refine a_iconst (x := 2) X dX4_give_26 (by decide) ?_
      refine a_icmp_ne (tgt := 33) X dX4_give_27 (by decide) hm (fun c26 hm => ?_) (fun c26 hm => ?_)
      · refine a_aload_n X dX4_give_33 rfl ?_
        refine a_iload_n X dX4_give_34 rfl ?_
        obtain ⟨r28, q27, hm⟩ := i_b hm
        refine a_callV (k' := 0) (n' := 0) (st := []) X (c_X4_leastPlace hMR q27) yv_X4_leastPlace ml_X4_210 rfl (Or.inr (mr5_ hMR)) ⟨by decide, by decide, by decide, by decide, Nat.le_of_ble_eq_true rfl⟩ rfl rfl dX4_give_35 rfl rfl ?_
        show At_ v g 3 h M 0 0 38 [(0, v_R (some 5)), (1, v_I x1)] [v_I r28]
        refine a_istore_n (lv' := [(0, v_R (some 5)), (1, v_I x1), (2, v_I r28)]) X dX4_give_38 (by decide) rfl ?_
        refine a_aload_n X dX4_give_39 rfl ?_
        refine a_iload_n X dX4_give_40 rfl ?_
        obtain ⟨r30, q29, hm⟩ := i_b hm
        refine a_callV (k' := 0) (n' := 0) (st := []) X (c_X4_openMany hMR q29) yv_X4_openMany ml_X4_213 rfl (Or.inr (mr5_ hMR)) ⟨by decide, by decide, by decide, by decide, Nat.le_of_ble_eq_true rfl⟩ rfl rfl dX4_give_41 rfl rfl ?_
        show At_ v g 3 h M 0 0 44 [(0, v_R (some 5)), (1, v_I x1), (2, v_I r28)] [v_I r30]
        refine a_if_gt (tgt := 61) X dX4_give_44 (by decide) hm (fun c31 hm => ?_) (fun c31 hm => ?_)
        · refine a_bipush (x := -10) X dX4_give_61 (by decide) ?_
          exact a_iret X hF ⟨rfl, (Prod.mk.inj (Option.some.inj hm)).1, (Prod.mk.inj (Option.some.inj hm)).2⟩ (by decide) dX4_give_63
        · refine a_iload_n X dX4_give_47 rfl ?_
          refine a_if_lt (tgt := 64) X dX4_give_48 (by decide) hm (fun c32 hm => ?_) (fun c32 hm => ?_)
          · refine a_aload_n X dX4_give_64 rfl ?_
            refine a_mgetA X hMR 3 (by decide) rfl rfl fl_X4_16 dX4_give_65 ?_
            refine a_iload_n X dX4_give_68 rfl ?_
            refine a_iconst (x := 2) X dX4_give_69 (by decide) ?_
            obtain ⟨M33, eM33, hm⟩ := i_d hm
            refine a_mastI X hMR 3 (by decide) rfl rfl rfl b25 dX4_give_70 ?_
            rw [← eM33]
            refine a_iconst (x := 1) X dX4_give_71 (by decide) ?_
            exact a_iret X hF ⟨rfl, (Prod.mk.inj (Option.some.inj hm)).1, (Prod.mk.inj (Option.some.inj hm)).2⟩ (by decide) dX4_give_72
          · refine a_iload_n X dX4_give_51 rfl ?_
            refine a_aload_n X dX4_give_52 rfl ?_
            refine a_mgetA X hMR 2 (by decide) rfl rfl fl_X4_13 dX4_give_53 ?_
            refine a_iload_n X dX4_give_56 rfl ?_
            obtain ⟨b34, hm⟩ := i_c hm
            refine a_maldI X hMR 2 (by decide) rfl rfl rfl b34 dX4_give_57 ?_
            refine a_icmp_ge (tgt := 64) X dX4_give_58 (by decide) hm (fun c35 hm => ?_) (fun c35 hm => ?_)
            · refine a_aload_n X dX4_give_64 rfl ?_
              refine a_mgetA X hMR 3 (by decide) rfl rfl fl_X4_16 dX4_give_65 ?_
              refine a_iload_n X dX4_give_68 rfl ?_
              refine a_iconst (x := 2) X dX4_give_69 (by decide) ?_
              obtain ⟨M36, eM36, hm⟩ := i_d hm
              refine a_mastI X hMR 3 (by decide) rfl rfl rfl b25 dX4_give_70 ?_
              rw [← eM36]
              refine a_iconst (x := 1) X dX4_give_71 (by decide) ?_
              exact a_iret X hF ⟨rfl, (Prod.mk.inj (Option.some.inj hm)).1, (Prod.mk.inj (Option.some.inj hm)).2⟩ (by decide) dX4_give_72
            · refine a_bipush (x := -10) X dX4_give_61 (by decide) ?_
              exact a_iret X hF ⟨rfl, (Prod.mk.inj (Option.some.inj hm)).1, (Prod.mk.inj (Option.some.inj hm)).2⟩ (by decide) dX4_give_63
      · refine a_bipush (x := -7) X dX4_give_30 (by decide) ?_
        exact a_iret X hF ⟨rfl, (Prod.mk.inj (Option.some.inj hm)).1, (Prod.mk.inj (Option.some.inj hm)).2⟩ (by decide) dX4_give_32
    · refine a_bipush (x := -2) X dX4_give_17 (by decide) ?_
      exact a_iret X hF ⟨rfl, (Prod.mk.inj (Option.some.inj hm)).1, (Prod.mk.inj (Option.some.inj hm)).2⟩ (by decide) dX4_give_19
  · refine a_iconst (x := -1) X dX4_give_8 (by decide) ?_
    exact a_iret X hF ⟨rfl, (Prod.mk.inj (Option.some.inj hm)).1, (Prod.mk.inj (Option.some.inj hm)).2⟩ (by decide) dX4_give_9
theorem c_X4_give {l : Launch} {g : Gvx} {h : Hpx} {M : Msx} {M' : Msx} {r : Int32} {x1 : Int32} (hMR : MR_ h) (hm : f_X4_give M x1 = some (M', r)) : Mt_ l g yX4_give cX4_give 3 ((some .int)) rm_X4_give [v_R (some 5), v_I x1] h M (some (v_I r)) h M' := mt_of (by decide) (Nat.le_of_ble_eq_true rfl) (fun v _ X hF => q_X4_give_0 X hMR hF M x1 hm)
theorem yv_X4_give : Yv_ yX4_give cX4_give 3 ((some .int)) 1 4 := ⟨rfl, by decide, ⟨by decide, by decide, by decide +kernel⟩, co_X4_give, im_X4_give, se_X4_give, ini_X4⟩

abbrev rm_X4_holders : Room := { frames := 2, cells := 0, slots := 0, locals := 47 }
def j_X4_holders_4 (M : Msx) (rec_4 : Int32 → Int32 → Int32 → Option (Int32)) (x1 : Int32) (x2 : Int32) (x3 : Int32) : Option (Int32) :=
  (if (m_I M 10 0) ≤ x3 then
  some x2
  else (f_X4_isHolder M x3 x1).bind fun r23 =>
  (if r23 = 0 then
  rec_4 x1 (x2 + (0 : Int32)) (x3 + (1 : Int32))
  else rec_4 x1 (x2 + (1 : Int32)) (x3 + (1 : Int32))))
set_option maxHeartbeats 4000000 in
theorem q_X4_holders_4 {v : Evx} {g : Gvx} {h : Hpx} {r : Int32} (X : Cx_ v g cX4_holders 4 RX4 "holders" ((some .int)) rm_X4_holders) (hMR : MR_ h) (M : Msx) (hF : Fi_ v g rm_X4_holders (some (v_I r)) h M) (rec_4 : Int32 → Int32 → Int32 → Option (Int32)) (hr_4 : ∀ (x1 : Int32) (x2 : Int32) (x3 : Int32), rec_4 x1 x2 x3 = some r → At_ v g 4 h M 0 0 4 [(0, v_R (some 5)), (1, v_I x1), (2, v_I x2), (3, v_I x3)] []) (x1 : Int32) (x2 : Int32) (x3 : Int32) (hm : j_X4_holders_4 M rec_4 x1 x2 x3 = some r) : At_ v g 4 h M 0 0 4 [(0, v_R (some 5)), (1, v_I x1), (2, v_I x2), (3, v_I x3)] [] := by
  unfold j_X4_holders_4 at hm
  refine a_iload_n X dX4_holders_4 rfl ?_
  refine a_aload_n X dX4_holders_5 rfl ?_
  refine a_mgetI X hMR 10 (by decide) rfl fl_X4_124 dX4_holders_6 ?_
  refine a_icmp_ge (tgt := 35) X dX4_holders_9 (by decide) hm (fun c21 hm => ?_) (fun c21 hm => ?_)
  · refine a_iload_n X dX4_holders_35 rfl ?_
    exact a_iret X hF ⟨rfl, rfl, Option.some.inj hm⟩ (by decide) dX4_holders_36
  · refine a_iload_n X dX4_holders_12 rfl ?_
    refine a_aload_n X dX4_holders_13 rfl ?_
    refine a_iload_n X dX4_holders_14 rfl ?_
    refine a_iload_n X dX4_holders_15 rfl ?_
    obtain ⟨r23, q22, hm⟩ := i_b hm
    refine a_callV (k' := 0) (n' := 0) (st := [v_I x2]) X (c_X4_isHolder hMR q22) yv_X4_isHolder ml_X4_174 rfl (Or.inr (mr5_ hMR)) ⟨by decide, by decide, by decide, by decide, Nat.le_of_ble_eq_true rfl⟩ rfl rfl dX4_holders_16 rfl rfl ?_
    show At_ v g 4 h M 0 0 19 [(0, v_R (some 5)), (1, v_I x1), (2, v_I x2), (3, v_I x3)] [v_I r23, v_I x2]
    refine a_if_eq (tgt := 26) X dX4_holders_19 (by decide) hm (fun c24 hm => ?_) (fun c24 hm => ?_)
    · refine a_iconst (x := 0) X dX4_holders_26 (by decide) ?_
      refine a_iadd X dX4_holders_27 ?_
      refine a_istore_n (lv' := [(0, v_R (some 5)), (1, v_I x1), (2, v_I (x2 + (0 : Int32))), (3, v_I x3)]) X dX4_holders_28 (by decide) rfl ?_
      refine a_iinc (y := x3 + (1 : Int32)) (lv' := [(0, v_R (some 5)), (1, v_I x1), (2, v_I (x2 + (0 : Int32))), (3, v_I (x3 + (1 : Int32)))]) X dX4_holders_29 rfl rfl (by decide) rfl ?_
      refine a_goto (tgt := 4) X dX4_holders_32 (by decide) ?_
      exact hr_4 x1 (x2 + (0 : Int32)) (x3 + (1 : Int32)) hm
    · refine a_iconst (x := 1) X dX4_holders_22 (by decide) ?_
      refine a_goto (tgt := 27) X dX4_holders_23 (by decide) ?_
      refine a_iadd X dX4_holders_27 ?_
      refine a_istore_n (lv' := [(0, v_R (some 5)), (1, v_I x1), (2, v_I (x2 + (1 : Int32))), (3, v_I x3)]) X dX4_holders_28 (by decide) rfl ?_
      refine a_iinc (y := x3 + (1 : Int32)) (lv' := [(0, v_R (some 5)), (1, v_I x1), (2, v_I (x2 + (1 : Int32))), (3, v_I (x3 + (1 : Int32)))]) X dX4_holders_29 rfl rfl (by decide) rfl ?_
      refine a_goto (tgt := 4) X dX4_holders_32 (by decide) ?_
      exact hr_4 x1 (x2 + (1 : Int32)) (x3 + (1 : Int32)) hm
def l_X4_holders_4 (M : Msx) (n : Nat) : Int32 → Int32 → Int32 → Option (Int32) := lp_ (fun rec_4 => j_X4_holders_4 M rec_4) (fun _ _ _ => none) n
theorem ql_X4_holders_4 {v : Evx} {g : Gvx} {h : Hpx} {r : Int32} (X : Cx_ v g cX4_holders 4 RX4 "holders" ((some .int)) rm_X4_holders) (hMR : MR_ h) (M : Msx) (hF : Fi_ v g rm_X4_holders (some (v_I r)) h M) : ∀ (n : Nat) (x1 : Int32) (x2 : Int32) (x3 : Int32), l_X4_holders_4 M n x1 x2 x3 = some r → At_ v g 4 h M 0 0 4 [(0, v_R (some 5)), (1, v_I x1), (2, v_I x2), (3, v_I x3)] [] := by
  intro n
  induction n with
  | zero => intro x1 x2 x3 hm; cases hm
  | succ n ih =>
    intro x1 x2 x3 hm
    exact q_X4_holders_4 X hMR M hF (l_X4_holders_4 M n) ih x1 x2 x3 hm
def f_X4_holders (M : Msx) (x1 : Int32) : Option (Int32) :=
  l_X4_holders_4 M 70 x1 (0 : Int32) (0 : Int32)
set_option maxHeartbeats 4000000 in
theorem q_X4_holders_0 {v : Evx} {g : Gvx} {h : Hpx} {r : Int32} (X : Cx_ v g cX4_holders 4 RX4 "holders" ((some .int)) rm_X4_holders) (hMR : MR_ h) (M : Msx) (hF : Fi_ v g rm_X4_holders (some (v_I r)) h M) (x1 : Int32) (hm : f_X4_holders M x1 = some r) : At_ v g 4 h M 0 0 0 [(0, v_R (some 5)), (1, v_I x1)] [] := by
  unfold f_X4_holders at hm
  refine a_iconst (x := 0) X dX4_holders_0 (by decide) ?_
  refine a_istore_n (lv' := [(0, v_R (some 5)), (1, v_I x1), (2, v_I (0 : Int32))]) X dX4_holders_1 (by decide) rfl ?_
  refine a_iconst (x := 0) X dX4_holders_2 (by decide) ?_
  refine a_istore_n (lv' := [(0, v_R (some 5)), (1, v_I x1), (2, v_I (0 : Int32)), (3, v_I (0 : Int32))]) X dX4_holders_3 (by decide) rfl ?_
  exact ql_X4_holders_4 X hMR M hF 70 x1 (0 : Int32) (0 : Int32) hm
theorem c_X4_holders {l : Launch} {g : Gvx} {h : Hpx} {M : Msx} {r : Int32} {x1 : Int32} (hMR : MR_ h) (hm : f_X4_holders M x1 = some r) : Mt_ l g yX4_holders cX4_holders 4 ((some .int)) rm_X4_holders [v_R (some 5), v_I x1] h M (some (v_I r)) h M := mt_of (by decide) (Nat.le_of_ble_eq_true rfl) (fun v _ X hF => q_X4_holders_0 X hMR M hF x1 hm)
theorem yv_X4_holders : Yv_ yX4_holders cX4_holders 4 ((some .int)) 1 4 := ⟨rfl, by decide, ⟨by decide, by decide, by decide +kernel⟩, co_X4_holders, im_X4_holders, se_X4_holders, ini_X4⟩

abbrev rm_X4_told : Room := { frames := 5, cells := 0, slots := 0, locals := 114 }
def f_X4_told (M : Msx) (x1 : Int32) (x2 : Int32) : Option (Msx × Int32) :=
  (if x2 < 0 then
  some (M, (-1 : Int32))
  else (if x2 ≤ (6 : Int32) then
  (f_X4_isRing M x1).bind fun r24 =>
  (if r24 = 0 then
  c_l (f_X4_find M (2 : Int32)) fun M45 r46 =>
  some (M45, r46)
  else (if x2 = 0 then
  (if in_b x1 8 = true then
  some (M, (m_I M 1 x1.toNatClampNeg)) else none)
  else (if x2 = 1 then
  (if in_b x1 8 = true then
  some (M, (m_I M 2 x1.toNatClampNeg)) else none)
  else (if x2 = 2 then
  (f_X4_openMany M x1).bind fun r41 =>
  some (M, r41)
  else (if x2 = 3 then
  (f_X4_leastPlace M x1).bind fun r39 =>
  some (M, r39)
  else (if x2 = 4 then
  (f_X4_holders M x1).bind fun r37 =>
  some (M, r37)
  else (if x2 = 5 then
  (f_X4_isHeldUp M x1).bind fun r34 =>
  (if r34 = 0 then
  some (M, (0 : Int32))
  else some (M, (1 : Int32)))
  else (if in_b x1 8 = true then
  some (M, (m_I M 3 x1.toNatClampNeg)) else none))))))))
  else some (M, (-1 : Int32))))
set_option maxHeartbeats 4000000 in
theorem q_X4_told_0 {v : Evx} {g : Gvx} {h : Hpx} {M' : Msx} {r : Int32} (X : Cx_ v g cX4_told 3 RX4 "told" ((some .int)) rm_X4_told) (hMR : MR_ h) (hF : Fi_ v g rm_X4_told (some (v_I r)) h M') (M : Msx) (x1 : Int32) (x2 : Int32) (hm : f_X4_told M x1 x2 = some (M', r)) : At_ v g 3 h M 0 0 0 [(0, v_R (some 5)), (1, v_I x1), (2, v_I x2)] [] := by
  unfold f_X4_told at hm
  refine a_iload_n X dX4_told_0 rfl ?_
  refine a_if_lt (tgt := 10) X dX4_told_1 (by decide) hm (fun c21 hm => ?_) (fun c21 hm => ?_)
  · refine a_iconst (x := -1) X dX4_told_10 (by decide) ?_
    exact a_iret X hF ⟨rfl, (Prod.mk.inj (Option.some.inj hm)).1, (Prod.mk.inj (Option.some.inj hm)).2⟩ (by decide) dX4_told_11
  · refine a_iload_n X dX4_told_4 rfl ?_
    refine a_bipush (x := 6) X dX4_told_5 (by decide) ?_
    refine a_icmp_le (tgt := 12) X dX4_told_7 (by decide) hm (fun c22 hm => ?_) (fun c22 hm => ?_)
    · refine a_aload_n X dX4_told_12 rfl ?_
      refine a_iload_n X dX4_told_13 rfl ?_
      obtain ⟨r24, q23, hm⟩ := i_b hm
      refine a_callV (k' := 0) (n' := 0) (st := []) X (c_X4_isRing hMR q23) yv_X4_isRing ml_X4_142 rfl (Or.inr (mr5_ hMR)) ⟨by decide, by decide, by decide, by decide, Nat.le_of_ble_eq_true rfl⟩ rfl rfl dX4_told_14 rfl rfl ?_
      show At_ v g 3 h M 0 0 17 [(0, v_R (some 5)), (1, v_I x1), (2, v_I x2)] [v_I r24]
      refine a_if_ne (tgt := 26) X dX4_told_17 (by decide) hm (fun c25 hm => ?_) (fun c25 hm => ?_)
      · refine a_iload_n X dX4_told_26 rfl ?_
        by_cases c26 : x2 = 0
        · have hm := i_p hm c26
          refine a_tsIn (c := 0) (off := 37) (tgt := 64) X dX4_told_27 c26 (by decide) (by decide) rfl (by decide) ?_
          refine a_aload_n X dX4_told_64 rfl ?_
          refine a_mgetA X hMR 1 (by decide) rfl rfl fl_X4_7 dX4_told_65 ?_
          refine a_iload_n X dX4_told_68 rfl ?_
          obtain ⟨b43, hm⟩ := i_c hm
          refine a_maldI X hMR 1 (by decide) rfl rfl rfl b43 dX4_told_69 ?_
          exact a_iret X hF ⟨rfl, (Prod.mk.inj (Option.some.inj hm)).1, (Prod.mk.inj (Option.some.inj hm)).2⟩ (by decide) dX4_told_70
        · have hm := i_n hm c26
          by_cases c27 : x2 = 1
          · have hm := i_p hm c27
            refine a_tsIn (c := 1) (off := 44) (tgt := 71) X dX4_told_27 c27 (by decide) (by decide) rfl (by decide) ?_
            refine a_aload_n X dX4_told_71 rfl ?_
            refine a_mgetA X hMR 2 (by decide) rfl rfl fl_X4_13 dX4_told_72 ?_
            refine a_iload_n X dX4_told_75 rfl ?_
            obtain ⟨b42, hm⟩ := i_c hm
            refine a_maldI X hMR 2 (by decide) rfl rfl rfl b42 dX4_told_76 ?_
            exact a_iret X hF ⟨rfl, (Prod.mk.inj (Option.some.inj hm)).1, (Prod.mk.inj (Option.some.inj hm)).2⟩ (by decide) dX4_told_77
          · have hm := i_n hm c27
            by_cases c28 : x2 = 2
            · have hm := i_p hm c28
              refine a_tsIn (c := 2) (off := 51) (tgt := 78) X dX4_told_27 c28 (by decide) (by decide) rfl (by decide) ?_
              refine a_aload_n X dX4_told_78 rfl ?_
              refine a_iload_n X dX4_told_79 rfl ?_
              obtain ⟨r41, q40, hm⟩ := i_b hm
              refine a_callV (k' := 0) (n' := 0) (st := []) X (c_X4_openMany hMR q40) yv_X4_openMany ml_X4_213 rfl (Or.inr (mr5_ hMR)) ⟨by decide, by decide, by decide, by decide, Nat.le_of_ble_eq_true rfl⟩ rfl rfl dX4_told_80 rfl rfl ?_
              show At_ v g 3 h M 0 0 83 [(0, v_R (some 5)), (1, v_I x1), (2, v_I x2)] [v_I r41]
              exact a_iret X hF ⟨rfl, (Prod.mk.inj (Option.some.inj hm)).1, (Prod.mk.inj (Option.some.inj hm)).2⟩ (by decide) dX4_told_83
            · have hm := i_n hm c28
              by_cases c29 : x2 = 3
              · have hm := i_p hm c29
                refine a_tsIn (c := 3) (off := 57) (tgt := 84) X dX4_told_27 c29 (by decide) (by decide) rfl (by decide) ?_
                refine a_aload_n X dX4_told_84 rfl ?_
                refine a_iload_n X dX4_told_85 rfl ?_
                obtain ⟨r39, q38, hm⟩ := i_b hm
                refine a_callV (k' := 0) (n' := 0) (st := []) X (c_X4_leastPlace hMR q38) yv_X4_leastPlace ml_X4_210 rfl (Or.inr (mr5_ hMR)) ⟨by decide, by decide, by decide, by decide, Nat.le_of_ble_eq_true rfl⟩ rfl rfl dX4_told_86 rfl rfl ?_
                show At_ v g 3 h M 0 0 89 [(0, v_R (some 5)), (1, v_I x1), (2, v_I x2)] [v_I r39]
                exact a_iret X hF ⟨rfl, (Prod.mk.inj (Option.some.inj hm)).1, (Prod.mk.inj (Option.some.inj hm)).2⟩ (by decide) dX4_told_89
              · have hm := i_n hm c29
                by_cases c30 : x2 = 4
                · have hm := i_p hm c30
                  refine a_tsIn (c := 4) (off := 63) (tgt := 90) X dX4_told_27 c30 (by decide) (by decide) rfl (by decide) ?_
                  refine a_aload_n X dX4_told_90 rfl ?_
                  refine a_iload_n X dX4_told_91 rfl ?_
                  obtain ⟨r37, q36, hm⟩ := i_b hm
                  refine a_callV (k' := 0) (n' := 0) (st := []) X (c_X4_holders hMR q36) yv_X4_holders ml_X4_216 rfl (Or.inr (mr5_ hMR)) ⟨by decide, by decide, by decide, by decide, Nat.le_of_ble_eq_true rfl⟩ rfl rfl dX4_told_92 rfl rfl ?_
                  show At_ v g 3 h M 0 0 95 [(0, v_R (some 5)), (1, v_I x1), (2, v_I x2)] [v_I r37]
                  exact a_iret X hF ⟨rfl, (Prod.mk.inj (Option.some.inj hm)).1, (Prod.mk.inj (Option.some.inj hm)).2⟩ (by decide) dX4_told_95
                · have hm := i_n hm c30
                  by_cases c31 : x2 = 5
                  · have hm := i_p hm c31
                    refine a_tsIn (c := 5) (off := 69) (tgt := 96) X dX4_told_27 c31 (by decide) (by decide) rfl (by decide) ?_
                    refine a_aload_n X dX4_told_96 rfl ?_
                    refine a_iload_n X dX4_told_97 rfl ?_
                    obtain ⟨r34, q33, hm⟩ := i_b hm
                    refine a_callV (k' := 0) (n' := 0) (st := []) X (c_X4_isHeldUp hMR q33) yv_X4_isHeldUp ml_X4_219 rfl (Or.inr (mr5_ hMR)) ⟨by decide, by decide, by decide, by decide, Nat.le_of_ble_eq_true rfl⟩ rfl rfl dX4_told_98 rfl rfl ?_
                    show At_ v g 3 h M 0 0 101 [(0, v_R (some 5)), (1, v_I x1), (2, v_I x2)] [v_I r34]
                    refine a_if_eq (tgt := 108) X dX4_told_101 (by decide) hm (fun c35 hm => ?_) (fun c35 hm => ?_)
                    · refine a_iconst (x := 0) X dX4_told_108 (by decide) ?_
                      exact a_iret X hF ⟨rfl, (Prod.mk.inj (Option.some.inj hm)).1, (Prod.mk.inj (Option.some.inj hm)).2⟩ (by decide) dX4_told_109
                    · refine a_iconst (x := 1) X dX4_told_104 (by decide) ?_
                      refine a_goto (tgt := 109) X dX4_told_105 (by decide) ?_
                      exact a_iret X hF ⟨rfl, (Prod.mk.inj (Option.some.inj hm)).1, (Prod.mk.inj (Option.some.inj hm)).2⟩ (by decide) dX4_told_109
                  · have hm := i_n hm c31
                    have wc26 : ¬ (x2).toInt = 0 := lv_neT c26 rfl
                    have wc27 : ¬ (x2).toInt = 1 := lv_neT c27 rfl
                    have wc28 : ¬ (x2).toInt = 2 := lv_neT c28 rfl
                    have wc29 : ¬ (x2).toInt = 3 := lv_neT c29 rfl
                    have wc30 : ¬ (x2).toInt = 4 := lv_neT c30 rfl
                    have wc31 : ¬ (x2).toInt = 5 := lv_neT c31 rfl
                    refine a_tsOut (tgt := 110) X dX4_told_27 (by omega) (by decide) ?_
                    refine a_aload_n X dX4_told_110 rfl ?_
                    refine a_mgetA X hMR 3 (by decide) rfl rfl fl_X4_16 dX4_told_111 ?_
                    refine a_iload_n X dX4_told_114 rfl ?_
                    obtain ⟨b32, hm⟩ := i_c hm
                    refine a_maldI X hMR 3 (by decide) rfl rfl rfl b32 dX4_told_115 ?_
                    exact a_iret X hF ⟨rfl, (Prod.mk.inj (Option.some.inj hm)).1, (Prod.mk.inj (Option.some.inj hm)).2⟩ (by decide) dX4_told_116
      · refine a_aload_n X dX4_told_20 rfl ?_
        refine a_iconst (x := 2) X dX4_told_21 (by decide) ?_
        obtain ⟨M45, r46, q44, hm⟩ := i_l hm
        refine a_callV (k' := 0) (n' := 0) (st := []) X (c_X4_find hMR q44) yv_X4_find ml_X4_131 rfl (Or.inr (mr5_ hMR)) ⟨by decide, by decide, by decide, by decide, Nat.le_of_ble_eq_true rfl⟩ rfl rfl dX4_told_22 rfl rfl ?_
        show At_ v g 3 h M45 0 0 25 [(0, v_R (some 5)), (1, v_I x1), (2, v_I x2)] [v_I r46]
        exact a_iret X hF ⟨rfl, (Prod.mk.inj (Option.some.inj hm)).1, (Prod.mk.inj (Option.some.inj hm)).2⟩ (by decide) dX4_told_25
    · refine a_iconst (x := -1) X dX4_told_10 (by decide) ?_
      exact a_iret X hF ⟨rfl, (Prod.mk.inj (Option.some.inj hm)).1, (Prod.mk.inj (Option.some.inj hm)).2⟩ (by decide) dX4_told_11
theorem c_X4_told {l : Launch} {g : Gvx} {h : Hpx} {M : Msx} {M' : Msx} {r : Int32} {x1 : Int32} {x2 : Int32} (hMR : MR_ h) (hm : f_X4_told M x1 x2 = some (M', r)) : Mt_ l g yX4_told cX4_told 3 ((some .int)) rm_X4_told [v_R (some 5), v_I x1, v_I x2] h M (some (v_I r)) h M' := mt_of (by decide) (Nat.le_of_ble_eq_true rfl) (fun v _ X hF => q_X4_told_0 X hMR hF M x1 x2 hm)
theorem yv_X4_told : Yv_ yX4_told cX4_told 3 ((some .int)) 2 4 := ⟨rfl, by decide, ⟨by decide, by decide, by decide +kernel⟩, co_X4_told, im_X4_told, se_X4_told, ini_X4⟩

abbrev rm_X4_last : Room := { frames := 1, cells := 0, slots := 0, locals := 21 }
def f_X4_last (M : Msx) (x1 : Int32) : Option (Int64) :=
  (f_X4_isRing M x1).bind fun r22 =>
  (if r22 = 0 then
  some (0 : Int64)
  else (if in_b x1 8 = true then
  some (m_J M 4 x1.toNatClampNeg) else none))
set_option maxHeartbeats 4000000 in
theorem q_X4_last_0 {v : Evx} {g : Gvx} {h : Hpx} {r : Int64} (X : Cx_ v g cX4_last 2 RX4 "last" ((some .long)) rm_X4_last) (hMR : MR_ h) (M : Msx) (hF : Fi_ v g rm_X4_last (some (v_J r)) h M) (x1 : Int32) (hm : f_X4_last M x1 = some r) : At_ v g 2 h M 0 0 0 [(0, v_R (some 5)), (1, v_I x1)] [] := by
  unfold f_X4_last at hm
  refine a_aload_n X dX4_last_0 rfl ?_
  refine a_iload_n X dX4_last_1 rfl ?_
  obtain ⟨r22, q21, hm⟩ := i_b hm
  refine a_callV (k' := 0) (n' := 0) (st := []) X (c_X4_isRing hMR q21) yv_X4_isRing ml_X4_142 rfl (Or.inr (mr5_ hMR)) ⟨by decide, by decide, by decide, by decide, Nat.le_of_ble_eq_true rfl⟩ rfl rfl dX4_last_2 rfl rfl ?_
  show At_ v g 2 h M 0 0 5 [(0, v_R (some 5)), (1, v_I x1)] [v_I r22]
  refine a_if_eq (tgt := 17) X dX4_last_5 (by decide) hm (fun c23 hm => ?_) (fun c23 hm => ?_)
  · refine a_lconst (x := 0) X dX4_last_17 (by decide) ?_
    exact a_lret X hF ⟨rfl, rfl, Option.some.inj hm⟩ (by decide) dX4_last_18
  · refine a_aload_n X dX4_last_8 rfl ?_
    refine a_mgetA X hMR 4 (by decide) rfl rfl fl_X4_19 dX4_last_9 ?_
    refine a_iload_n X dX4_last_12 rfl ?_
    obtain ⟨b24, hm⟩ := i_c hm
    refine a_maldJ X hMR 4 (by decide) rfl rfl rfl b24 dX4_last_13 ?_
    refine a_goto (tgt := 18) X dX4_last_14 (by decide) ?_
    exact a_lret X hF ⟨rfl, rfl, Option.some.inj hm⟩ (by decide) dX4_last_18
theorem c_X4_last {l : Launch} {g : Gvx} {h : Hpx} {M : Msx} {r : Int64} {x1 : Int32} (hMR : MR_ h) (hm : f_X4_last M x1 = some r) : Mt_ l g yX4_last cX4_last 2 ((some .long)) rm_X4_last [v_R (some 5), v_I x1] h M (some (v_J r)) h M := mt_of (by decide) (Nat.le_of_ble_eq_true rfl) (fun v _ X hF => q_X4_last_0 X hMR M hF x1 hm)
theorem yv_X4_last : Yv_ yX4_last cX4_last 2 ((some .long)) 1 4 := ⟨rfl, by decide, ⟨by decide, by decide, by decide +kernel⟩, co_X4_last, im_X4_last, se_X4_last, ini_X4⟩

abbrev rm_X4_seen : Room := { frames := 2, cells := 0, slots := 0, locals := 44 }
def j_X4_seen_45 (M : Msx) (x1 : Int32) (x2 : Int32) : Option (Int32) :=
  (f_X4_isPublished M x1 x2).bind fun r30 =>
  (if r30 = 0 then
  some (-1 : Int32)
  else some x2)
set_option maxHeartbeats 4000000 in
theorem q_X4_seen_45 {v : Evx} {g : Gvx} {h : Hpx} {r : Int32} (X : Cx_ v g cX4_seen 3 RX4 "seen" ((some .int)) rm_X4_seen) (hMR : MR_ h) (M : Msx) (hF : Fi_ v g rm_X4_seen (some (v_I r)) h M) (x1 : Int32) (x2 : Int32) (hm : j_X4_seen_45 M x1 x2 = some r) : At_ v g 3 h M 0 0 45 [(0, v_R (some 5)), (1, v_I x1), (2, v_I x2)] [] := by
  unfold j_X4_seen_45 at hm
  refine a_aload_n X dX4_seen_45 rfl ?_
  refine a_iload_n X dX4_seen_46 rfl ?_
  refine a_iload_n X dX4_seen_47 rfl ?_
  obtain ⟨r30, q29, hm⟩ := i_b hm
  refine a_callV (k' := 0) (n' := 0) (st := []) X (c_X4_isPublished hMR q29) yv_X4_isPublished ml_X4_222 rfl (Or.inr (mr5_ hMR)) ⟨by decide, by decide, by decide, by decide, Nat.le_of_ble_eq_true rfl⟩ rfl rfl dX4_seen_48 rfl rfl ?_
  show At_ v g 3 h M 0 0 51 [(0, v_R (some 5)), (1, v_I x1), (2, v_I x2)] [v_I r30]
  refine a_if_eq (tgt := 58) X dX4_seen_51 (by decide) hm (fun c31 hm => ?_) (fun c31 hm => ?_)
  · refine a_iconst (x := -1) X dX4_seen_58 (by decide) ?_
    exact a_iret X hF ⟨rfl, rfl, Option.some.inj hm⟩ (by decide) dX4_seen_59
  · refine a_iload_n X dX4_seen_54 rfl ?_
    refine a_goto (tgt := 59) X dX4_seen_55 (by decide) ?_
    exact a_iret X hF ⟨rfl, rfl, Option.some.inj hm⟩ (by decide) dX4_seen_59
def j_X4_seen_9 (M : Msx) (rec_9 : Int32 → Int32 → Option (Int32)) (x1 : Int32) (x2 : Int32) : Option (Int32) :=
  (if x2 < 0 then
  j_X4_seen_45 M x1 x2
  else (if in_b x1 8 = true then
  (if in_b x1 8 = true then
  (if x2 < ((m_I M 2 x1.toNatClampNeg) - (m_I M 1 x1.toNatClampNeg)) then
  j_X4_seen_45 M x1 x2
  else (f_X4_isPublished M x1 x2).bind fun r27 =>
  (if r27 = 0 then
  rec_9 x1 (x2 + (-1 : Int32))
  else j_X4_seen_45 M x1 x2)) else none) else none))
set_option maxHeartbeats 4000000 in
theorem q_X4_seen_9 {v : Evx} {g : Gvx} {h : Hpx} {r : Int32} (X : Cx_ v g cX4_seen 3 RX4 "seen" ((some .int)) rm_X4_seen) (hMR : MR_ h) (M : Msx) (hF : Fi_ v g rm_X4_seen (some (v_I r)) h M) (rec_9 : Int32 → Int32 → Option (Int32)) (hr_9 : ∀ (x1 : Int32) (x2 : Int32), rec_9 x1 x2 = some r → At_ v g 3 h M 0 0 9 [(0, v_R (some 5)), (1, v_I x1), (2, v_I x2)] []) (x1 : Int32) (x2 : Int32) (hm : j_X4_seen_9 M rec_9 x1 x2 = some r) : At_ v g 3 h M 0 0 9 [(0, v_R (some 5)), (1, v_I x1), (2, v_I x2)] [] := by
  unfold j_X4_seen_9 at hm
  refine a_iload_n X dX4_seen_9 rfl ?_
  refine a_if_lt (tgt := 45) X dX4_seen_10 (by decide) hm (fun c22 hm => ?_) (fun c22 hm => ?_)
  · exact q_X4_seen_45 X hMR M hF x1 x2 hm
  · refine a_iload_n X dX4_seen_13 rfl ?_
    refine a_aload_n X dX4_seen_14 rfl ?_
    refine a_mgetA X hMR 2 (by decide) rfl rfl fl_X4_13 dX4_seen_15 ?_
    refine a_iload_n X dX4_seen_18 rfl ?_
    obtain ⟨b23, hm⟩ := i_c hm
    refine a_maldI X hMR 2 (by decide) rfl rfl rfl b23 dX4_seen_19 ?_
    refine a_aload_n X dX4_seen_20 rfl ?_
    refine a_mgetA X hMR 1 (by decide) rfl rfl fl_X4_7 dX4_seen_21 ?_
    refine a_iload_n X dX4_seen_24 rfl ?_
    obtain ⟨b24, hm⟩ := i_c hm
    refine a_maldI X hMR 1 (by decide) rfl rfl rfl b24 dX4_seen_25 ?_
    refine a_isub X dX4_seen_26 ?_
    refine a_icmp_lt (tgt := 45) X dX4_seen_27 (by decide) hm (fun c25 hm => ?_) (fun c25 hm => ?_)
    · exact q_X4_seen_45 X hMR M hF x1 x2 hm
    · refine a_aload_n X dX4_seen_30 rfl ?_
      refine a_iload_n X dX4_seen_31 rfl ?_
      refine a_iload_n X dX4_seen_32 rfl ?_
      obtain ⟨r27, q26, hm⟩ := i_b hm
      refine a_callV (k' := 0) (n' := 0) (st := []) X (c_X4_isPublished hMR q26) yv_X4_isPublished ml_X4_222 rfl (Or.inr (mr5_ hMR)) ⟨by decide, by decide, by decide, by decide, Nat.le_of_ble_eq_true rfl⟩ rfl rfl dX4_seen_33 rfl rfl ?_
      show At_ v g 3 h M 0 0 36 [(0, v_R (some 5)), (1, v_I x1), (2, v_I x2)] [v_I r27]
      refine a_if_ne (tgt := 45) X dX4_seen_36 (by decide) hm (fun c28 hm => ?_) (fun c28 hm => ?_)
      · exact q_X4_seen_45 X hMR M hF x1 x2 hm
      · refine a_iinc (y := x2 + (-1 : Int32)) (lv' := [(0, v_R (some 5)), (1, v_I x1), (2, v_I (x2 + (-1 : Int32)))]) X dX4_seen_39 rfl rfl (by decide) rfl ?_
        refine a_goto (tgt := 9) X dX4_seen_42 (by decide) ?_
        exact hr_9 x1 (x2 + (-1 : Int32)) hm
def l_X4_seen_9 (M : Msx) (n : Nat) : Int32 → Int32 → Option (Int32) := lp_ (fun rec_9 => j_X4_seen_9 M rec_9) (fun _ _ => none) n
theorem ql_X4_seen_9 {v : Evx} {g : Gvx} {h : Hpx} {r : Int32} (X : Cx_ v g cX4_seen 3 RX4 "seen" ((some .int)) rm_X4_seen) (hMR : MR_ h) (M : Msx) (hF : Fi_ v g rm_X4_seen (some (v_I r)) h M) : ∀ (n : Nat) (x1 : Int32) (x2 : Int32), l_X4_seen_9 M n x1 x2 = some r → At_ v g 3 h M 0 0 9 [(0, v_R (some 5)), (1, v_I x1), (2, v_I x2)] [] := by
  intro n
  induction n with
  | zero => intro x1 x2 hm; cases hm
  | succ n ih =>
    intro x1 x2 hm
    exact q_X4_seen_9 X hMR M hF (l_X4_seen_9 M n) ih x1 x2 hm
def f_X4_seen (M : Msx) (x1 : Int32) : Option (Int32) :=
  (if in_b x1 8 = true then
  l_X4_seen_9 M 70 x1 ((m_I M 2 x1.toNatClampNeg) - (1 : Int32)) else none)
set_option maxHeartbeats 4000000 in
theorem q_X4_seen_0 {v : Evx} {g : Gvx} {h : Hpx} {r : Int32} (X : Cx_ v g cX4_seen 3 RX4 "seen" ((some .int)) rm_X4_seen) (hMR : MR_ h) (M : Msx) (hF : Fi_ v g rm_X4_seen (some (v_I r)) h M) (x1 : Int32) (hm : f_X4_seen M x1 = some r) : At_ v g 3 h M 0 0 0 [(0, v_R (some 5)), (1, v_I x1)] [] := by
  unfold f_X4_seen at hm
  refine a_aload_n X dX4_seen_0 rfl ?_
  refine a_mgetA X hMR 2 (by decide) rfl rfl fl_X4_13 dX4_seen_1 ?_
  refine a_iload_n X dX4_seen_4 rfl ?_
  obtain ⟨b21, hm⟩ := i_c hm
  refine a_maldI X hMR 2 (by decide) rfl rfl rfl b21 dX4_seen_5 ?_
  refine a_iconst (x := 1) X dX4_seen_6 (by decide) ?_
  refine a_isub X dX4_seen_7 ?_
  refine a_istore_n (lv' := [(0, v_R (some 5)), (1, v_I x1), (2, v_I ((m_I M 2 x1.toNatClampNeg) - (1 : Int32)))]) X dX4_seen_8 (by decide) rfl ?_
  exact ql_X4_seen_9 X hMR M hF 70 x1 ((m_I M 2 x1.toNatClampNeg) - (1 : Int32)) hm
theorem c_X4_seen {l : Launch} {g : Gvx} {h : Hpx} {M : Msx} {r : Int32} {x1 : Int32} (hMR : MR_ h) (hm : f_X4_seen M x1 = some r) : Mt_ l g yX4_seen cX4_seen 3 ((some .int)) rm_X4_seen [v_R (some 5), v_I x1] h M (some (v_I r)) h M := mt_of (by decide) (Nat.le_of_ble_eq_true rfl) (fun v _ X hF => q_X4_seen_0 X hMR M hF x1 hm)
theorem yv_X4_seen : Yv_ yX4_seen cX4_seen 3 ((some .int)) 1 4 := ⟨rfl, by decide, ⟨by decide, by decide, by decide +kernel⟩, co_X4_seen, im_X4_seen, se_X4_seen, ini_X4⟩

abbrev rm_X4_from : Room := { frames := 0, cells := 0, slots := 0, locals := 0 }
def f_X4_from (M : Msx) (x1 : Int32) : Option (Int32) :=
  (if in_b ((4 : Int32) * x1) 64 = true then
  (if in_b ((4 : Int32) * x1) 64 = true then
  (if in_b (m_I M 12 ((4 : Int32) * x1).toNatClampNeg) 8 = true then
  (if in_b (m_I M 12 ((4 : Int32) * x1).toNatClampNeg) 8 = true then
  (if in_b x1 16 = true then
  (if (m_I M 11 x1.toNatClampNeg) = (3 : Int32) then
  (if ((m_I M 2 (m_I M 12 ((4 : Int32) * x1).toNatClampNeg).toNatClampNeg) - (m_I M 1 (m_I M 12 ((4 : Int32) * x1).toNatClampNeg).toNatClampNeg)) ≤ (m_I M 13 ((4 : Int32) * x1).toNatClampNeg) then
  some (m_I M 13 ((4 : Int32) * x1).toNatClampNeg)
  else some ((m_I M 2 (m_I M 12 ((4 : Int32) * x1).toNatClampNeg).toNatClampNeg) - (m_I M 1 (m_I M 12 ((4 : Int32) * x1).toNatClampNeg).toNatClampNeg)))
  else some (m_I M 13 ((4 : Int32) * x1).toNatClampNeg)) else none) else none) else none) else none) else none)
set_option maxHeartbeats 4000000 in
theorem q_X4_from_0 {v : Evx} {g : Gvx} {h : Hpx} {r : Int32} (X : Cx_ v g cX4_from 5 RX4 "from" ((some .int)) rm_X4_from) (hMR : MR_ h) (M : Msx) (hF : Fi_ v g rm_X4_from (some (v_I r)) h M) (x1 : Int32) (hm : f_X4_from M x1 = some r) : At_ v g 5 h M 0 0 0 [(0, v_R (some 5)), (1, v_I x1)] [] := by
  unfold f_X4_from at hm
  refine a_aload_n X dX4_from_0 rfl ?_
  refine a_mgetA X hMR 12 (by decide) rfl rfl fl_X4_42 dX4_from_1 ?_
  refine a_iconst (x := 4) X dX4_from_4 (by decide) ?_
  refine a_iload_n X dX4_from_5 rfl ?_
  refine a_imul X dX4_from_6 ?_
  obtain ⟨b21, hm⟩ := i_c hm
  refine a_maldI X hMR 12 (by decide) rfl rfl rfl b21 dX4_from_7 ?_
  refine a_istore_n (lv' := [(0, v_R (some 5)), (1, v_I x1), (2, v_I (m_I M 12 ((4 : Int32) * x1).toNatClampNeg))]) X dX4_from_8 (by decide) rfl ?_
  refine a_aload_n X dX4_from_9 rfl ?_
  refine a_mgetA X hMR 13 (by decide) rfl rfl fl_X4_45 dX4_from_10 ?_
  refine a_iconst (x := 4) X dX4_from_13 (by decide) ?_
  refine a_iload_n X dX4_from_14 rfl ?_
  refine a_imul X dX4_from_15 ?_
  obtain ⟨b22, hm⟩ := i_c hm
  refine a_maldI X hMR 13 (by decide) rfl rfl rfl b22 dX4_from_16 ?_
  refine a_istore_n (lv' := [(0, v_R (some 5)), (1, v_I x1), (2, v_I (m_I M 12 ((4 : Int32) * x1).toNatClampNeg)), (3, v_I (m_I M 13 ((4 : Int32) * x1).toNatClampNeg))]) X dX4_from_17 (by decide) rfl ?_
  refine a_aload_n X dX4_from_18 rfl ?_
  refine a_mgetA X hMR 2 (by decide) rfl rfl fl_X4_13 dX4_from_19 ?_
  refine a_iload_n X dX4_from_22 rfl ?_
  obtain ⟨b23, hm⟩ := i_c hm
  refine a_maldI X hMR 2 (by decide) rfl rfl rfl b23 dX4_from_23 ?_
  refine a_aload_n X dX4_from_24 rfl ?_
  refine a_mgetA X hMR 1 (by decide) rfl rfl fl_X4_7 dX4_from_25 ?_
  refine a_iload_n X dX4_from_28 rfl ?_
  obtain ⟨b24, hm⟩ := i_c hm
  refine a_maldI X hMR 1 (by decide) rfl rfl rfl b24 dX4_from_29 ?_
  refine a_isub X dX4_from_30 ?_
  refine a_istore (lv' := [(0, v_R (some 5)), (1, v_I x1), (2, v_I (m_I M 12 ((4 : Int32) * x1).toNatClampNeg)), (3, v_I (m_I M 13 ((4 : Int32) * x1).toNatClampNeg)), (4, v_I ((m_I M 2 (m_I M 12 ((4 : Int32) * x1).toNatClampNeg).toNatClampNeg) - (m_I M 1 (m_I M 12 ((4 : Int32) * x1).toNatClampNeg).toNatClampNeg)))]) X dX4_from_31 (by decide) rfl ?_
  refine a_aload_n X dX4_from_33 rfl ?_
  refine a_mgetA X hMR 11 (by decide) rfl rfl fl_X4_39 dX4_from_34 ?_
  refine a_iload_n X dX4_from_37 rfl ?_
  obtain ⟨b25, hm⟩ := i_c hm
  refine a_maldI X hMR 11 (by decide) rfl rfl rfl b25 dX4_from_38 ?_
  refine a_iconst (x := 3) X dX4_from_39 (by decide) ?_
  refine a_icmp_ne (tgt := 54) X dX4_from_40 (by decide) hm (fun c26 hm => ?_) (fun c26 hm => ?_)
  · refine a_iload_n X dX4_from_54 rfl ?_
    exact a_iret X hF ⟨rfl, rfl, Option.some.inj hm⟩ (by decide) dX4_from_55
  · refine a_iload X dX4_from_43 rfl ?_
    refine a_iload_n X dX4_from_45 rfl ?_
    refine a_icmp_le (tgt := 54) X dX4_from_46 (by decide) hm (fun c27 hm => ?_) (fun c27 hm => ?_)
    · refine a_iload_n X dX4_from_54 rfl ?_
      exact a_iret X hF ⟨rfl, rfl, Option.some.inj hm⟩ (by decide) dX4_from_55
    · refine a_iload X dX4_from_49 rfl ?_
      refine a_goto (tgt := 55) X dX4_from_51 (by decide) ?_
      exact a_iret X hF ⟨rfl, rfl, Option.some.inj hm⟩ (by decide) dX4_from_55
theorem c_X4_from {l : Launch} {g : Gvx} {h : Hpx} {M : Msx} {r : Int32} {x1 : Int32} (hMR : MR_ h) (hm : f_X4_from M x1 = some r) : Mt_ l g yX4_from cX4_from 5 ((some .int)) rm_X4_from [v_R (some 5), v_I x1] h M (some (v_I r)) h M := mt_of (by decide) (Nat.le_of_ble_eq_true rfl) (fun v _ X hF => q_X4_from_0 X hMR M hF x1 hm)
theorem yv_X4_from : Yv_ yX4_from cX4_from 5 ((some .int)) 1 4 := ⟨rfl, by decide, ⟨by decide, by decide, by decide +kernel⟩, co_X4_from, im_X4_from, se_X4_from, ini_X4⟩

abbrev rm_X4_behind : Room := { frames := 2, cells := 0, slots := 0, locals := 47 }
def j_X4_behind_78 (M : Msx) (rec_14 : Int32 → Int32 → Int32 → Int32 → Option (Int32)) (x1 : Int32) (x2 : Int32) (x4 : Int32) (x5 : Int32) : Option (Int32) :=
  rec_14 x1 x2 x5 (x4 + (1 : Int32))
set_option maxHeartbeats 4000000 in
theorem q_X4_behind_78 {v : Evx} {g : Gvx} {h : Hpx} {r : Int32} (X : Cx_ v g cX4_behind 7 RX4 "behind" ((some .int)) rm_X4_behind) (hMR : MR_ h) (M : Msx) (hF : Fi_ v g rm_X4_behind (some (v_I r)) h M) (rec_14 : Int32 → Int32 → Int32 → Int32 → Option (Int32)) (hr_14 : ∀ (x1 : Int32) (x2 : Int32) (x3 : Int32) (x4 : Int32), rec_14 x1 x2 x3 x4 = some r → At_ v g 7 h M 0 0 14 [(0, v_R (some 5)), (1, v_I x1), (2, v_I x2), (3, v_I x3), (4, v_I x4)] []) (x1 : Int32) (x2 : Int32) (x4 : Int32) (x5 : Int32) (hm : j_X4_behind_78 M rec_14 x1 x2 x4 x5 = some r) : At_ v g 7 h M 0 0 78 [(0, v_R (some 5)), (1, v_I x1), (2, v_I x2), (4, v_I x4), (5, v_I x5)] [] := by
  unfold j_X4_behind_78 at hm
  refine a_iload X dX4_behind_78 rfl ?_
  refine a_goto (tgt := 84) X dX4_behind_80 (by decide) ?_
  refine a_istore_n (lv' := [(0, v_R (some 5)), (1, v_I x1), (2, v_I x2), (3, v_I x5), (4, v_I x4), (5, v_I x5)]) X dX4_behind_84 (by decide) rfl ?_
  refine a_iinc (y := x4 + (1 : Int32)) (lv' := [(0, v_R (some 5)), (1, v_I x1), (2, v_I x2), (3, v_I x5), (4, v_I (x4 + (1 : Int32))), (5, v_I x5)]) X dX4_behind_85 rfl rfl (by decide) rfl ?_
  refine a_goto (tgt := 14) X dX4_behind_88 (by decide) ?_
  refine a_pick (lv' := [(0, v_R (some 5)), (1, v_I x1), (2, v_I x2), (3, v_I x5), (4, v_I (x4 + (1 : Int32)))]) [0, 1, 2, 3, 4] rfl ?_
  exact hr_14 x1 x2 x5 (x4 + (1 : Int32)) hm
def j_X4_behind_61 (M : Msx) (rec_14 : Int32 → Int32 → Int32 → Int32 → Option (Int32)) (x1 : Int32) (x2 : Int32) (x3 : Int32) (x4 : Int32) (x5 : Int32) (y0 : Int32) : Option (Int32) :=
  (if y0 = 0 then
  rec_14 x1 x2 x3 (x4 + (1 : Int32))
  else (if x3 < 0 then
  j_X4_behind_78 M rec_14 x1 x2 x4 x5
  else (if x3 ≤ x5 then
  rec_14 x1 x2 x3 (x4 + (1 : Int32))
  else j_X4_behind_78 M rec_14 x1 x2 x4 x5)))
set_option maxHeartbeats 4000000 in
theorem q_X4_behind_61 {v : Evx} {g : Gvx} {h : Hpx} {r : Int32} (X : Cx_ v g cX4_behind 7 RX4 "behind" ((some .int)) rm_X4_behind) (hMR : MR_ h) (M : Msx) (hF : Fi_ v g rm_X4_behind (some (v_I r)) h M) (rec_14 : Int32 → Int32 → Int32 → Int32 → Option (Int32)) (hr_14 : ∀ (x1 : Int32) (x2 : Int32) (x3 : Int32) (x4 : Int32), rec_14 x1 x2 x3 x4 = some r → At_ v g 7 h M 0 0 14 [(0, v_R (some 5)), (1, v_I x1), (2, v_I x2), (3, v_I x3), (4, v_I x4)] []) (x1 : Int32) (x2 : Int32) (x3 : Int32) (x4 : Int32) (x5 : Int32) (y0 : Int32) (hm : j_X4_behind_61 M rec_14 x1 x2 x3 x4 x5 y0 = some r) : At_ v g 7 h M 0 0 61 [(0, v_R (some 5)), (1, v_I x1), (2, v_I x2), (3, v_I x3), (4, v_I x4), (5, v_I x5)] [v_I y0] := by
  unfold j_X4_behind_61 at hm
  refine a_istore (lv' := [(0, v_R (some 5)), (1, v_I x1), (2, v_I x2), (3, v_I x3), (4, v_I x4), (5, v_I x5), (6, v_I y0)]) X dX4_behind_61 (by decide) rfl ?_
  refine a_iload X dX4_behind_63 rfl ?_
  refine a_if_eq (tgt := 83) X dX4_behind_65 (by decide) hm (fun c29 hm => ?_) (fun c29 hm => ?_)
  · refine a_iload_n X dX4_behind_83 rfl ?_
    refine a_istore_n (lv' := [(0, v_R (some 5)), (1, v_I x1), (2, v_I x2), (3, v_I x3), (4, v_I x4), (5, v_I x5), (6, v_I y0)]) X dX4_behind_84 (by decide) rfl ?_
    refine a_iinc (y := x4 + (1 : Int32)) (lv' := [(0, v_R (some 5)), (1, v_I x1), (2, v_I x2), (3, v_I x3), (4, v_I (x4 + (1 : Int32))), (5, v_I x5), (6, v_I y0)]) X dX4_behind_85 rfl rfl (by decide) rfl ?_
    refine a_goto (tgt := 14) X dX4_behind_88 (by decide) ?_
    refine a_pick (lv' := [(0, v_R (some 5)), (1, v_I x1), (2, v_I x2), (3, v_I x3), (4, v_I (x4 + (1 : Int32)))]) [0, 1, 2, 3, 4] rfl ?_
    exact hr_14 x1 x2 x3 (x4 + (1 : Int32)) hm
  · refine a_iload_n X dX4_behind_68 rfl ?_
    refine a_if_lt (tgt := 78) X dX4_behind_69 (by decide) hm (fun c30 hm => ?_) (fun c30 hm => ?_)
    · refine a_pick (lv' := [(0, v_R (some 5)), (1, v_I x1), (2, v_I x2), (4, v_I x4), (5, v_I x5)]) [0, 1, 2, 4, 5] rfl ?_
      exact q_X4_behind_78 X hMR M hF rec_14 hr_14 x1 x2 x4 x5 hm
    · refine a_iload X dX4_behind_72 rfl ?_
      refine a_iload_n X dX4_behind_74 rfl ?_
      refine a_icmp_ge (tgt := 83) X dX4_behind_75 (by decide) hm (fun c31 hm => ?_) (fun c31 hm => ?_)
      · refine a_iload_n X dX4_behind_83 rfl ?_
        refine a_istore_n (lv' := [(0, v_R (some 5)), (1, v_I x1), (2, v_I x2), (3, v_I x3), (4, v_I x4), (5, v_I x5), (6, v_I y0)]) X dX4_behind_84 (by decide) rfl ?_
        refine a_iinc (y := x4 + (1 : Int32)) (lv' := [(0, v_R (some 5)), (1, v_I x1), (2, v_I x2), (3, v_I x3), (4, v_I (x4 + (1 : Int32))), (5, v_I x5), (6, v_I y0)]) X dX4_behind_85 rfl rfl (by decide) rfl ?_
        refine a_goto (tgt := 14) X dX4_behind_88 (by decide) ?_
        refine a_pick (lv' := [(0, v_R (some 5)), (1, v_I x1), (2, v_I x2), (3, v_I x3), (4, v_I (x4 + (1 : Int32)))]) [0, 1, 2, 3, 4] rfl ?_
        exact hr_14 x1 x2 x3 (x4 + (1 : Int32)) hm
      · refine a_pick (lv' := [(0, v_R (some 5)), (1, v_I x1), (2, v_I x2), (4, v_I x4), (5, v_I x5)]) [0, 1, 2, 4, 5] rfl ?_
        exact q_X4_behind_78 X hMR M hF rec_14 hr_14 x1 x2 x4 x5 hm
def j_X4_behind_14 (M : Msx) (rec_14 : Int32 → Int32 → Int32 → Int32 → Option (Int32)) (x1 : Int32) (x2 : Int32) (x3 : Int32) (x4 : Int32) : Option (Int32) :=
  (if in_b x1 16 = true then
  (if (m_I M 16 x1.toNatClampNeg) ≤ x4 then
  some x3
  else (if in_b (((4 : Int32) * x1) + x4) 64 = true then
  (f_X4_placeIn M (m_I M 15 (((4 : Int32) * x1) + x4).toNatClampNeg) x2).bind fun r26 =>
  (if in_b ((4 : Int32) * x1) 64 = true then
  (if (m_I M 13 ((4 : Int32) * x1).toNatClampNeg) < r26 then
  j_X4_behind_61 M rec_14 x1 x2 x3 x4 (m_I M 15 (((4 : Int32) * x1) + x4).toNatClampNeg) (0 : Int32)
  else j_X4_behind_61 M rec_14 x1 x2 x3 x4 (m_I M 15 (((4 : Int32) * x1) + x4).toNatClampNeg) (1 : Int32)) else none) else none)) else none)
set_option maxHeartbeats 4000000 in
theorem q_X4_behind_14 {v : Evx} {g : Gvx} {h : Hpx} {r : Int32} (X : Cx_ v g cX4_behind 7 RX4 "behind" ((some .int)) rm_X4_behind) (hMR : MR_ h) (M : Msx) (hF : Fi_ v g rm_X4_behind (some (v_I r)) h M) (rec_14 : Int32 → Int32 → Int32 → Int32 → Option (Int32)) (hr_14 : ∀ (x1 : Int32) (x2 : Int32) (x3 : Int32) (x4 : Int32), rec_14 x1 x2 x3 x4 = some r → At_ v g 7 h M 0 0 14 [(0, v_R (some 5)), (1, v_I x1), (2, v_I x2), (3, v_I x3), (4, v_I x4)] []) (x1 : Int32) (x2 : Int32) (x3 : Int32) (x4 : Int32) (hm : j_X4_behind_14 M rec_14 x1 x2 x3 x4 = some r) : At_ v g 7 h M 0 0 14 [(0, v_R (some 5)), (1, v_I x1), (2, v_I x2), (3, v_I x3), (4, v_I x4)] [] := by
  unfold j_X4_behind_14 at hm
  refine a_iload X dX4_behind_14 rfl ?_
  refine a_aload_n X dX4_behind_16 rfl ?_
  refine a_mgetA X hMR 16 (by decide) rfl rfl fl_X4_54 dX4_behind_17 ?_
  refine a_iload_n X dX4_behind_20 rfl ?_
  obtain ⟨b22, hm⟩ := i_c hm
  refine a_maldI X hMR 16 (by decide) rfl rfl rfl b22 dX4_behind_21 ?_
  refine a_icmp_ge (tgt := 91) X dX4_behind_22 (by decide) hm (fun c23 hm => ?_) (fun c23 hm => ?_)
  · refine a_iload_n X dX4_behind_91 rfl ?_
    exact a_iret X hF ⟨rfl, rfl, Option.some.inj hm⟩ (by decide) dX4_behind_92
  · refine a_aload_n X dX4_behind_25 rfl ?_
    refine a_mgetA X hMR 15 (by decide) rfl rfl fl_X4_51 dX4_behind_26 ?_
    refine a_iconst (x := 4) X dX4_behind_29 (by decide) ?_
    refine a_iload_n X dX4_behind_30 rfl ?_
    refine a_imul X dX4_behind_31 ?_
    refine a_iload X dX4_behind_32 rfl ?_
    refine a_iadd X dX4_behind_34 ?_
    obtain ⟨b24, hm⟩ := i_c hm
    refine a_maldI X hMR 15 (by decide) rfl rfl rfl b24 dX4_behind_35 ?_
    refine a_istore (lv' := [(0, v_R (some 5)), (1, v_I x1), (2, v_I x2), (3, v_I x3), (4, v_I x4), (5, v_I (m_I M 15 (((4 : Int32) * x1) + x4).toNatClampNeg))]) X dX4_behind_36 (by decide) rfl ?_
    refine a_aload_n X dX4_behind_38 rfl ?_
    refine a_iload X dX4_behind_39 rfl ?_
    refine a_iload_n X dX4_behind_41 rfl ?_
    obtain ⟨r26, q25, hm⟩ := i_b hm
    refine a_callV (k' := 0) (n' := 0) (st := []) X (c_X4_placeIn hMR q25) yv_X4_placeIn ml_X4_177 rfl (Or.inr (mr5_ hMR)) ⟨by decide, by decide, by decide, by decide, Nat.le_of_ble_eq_true rfl⟩ rfl rfl dX4_behind_42 rfl rfl ?_
    show At_ v g 7 h M 0 0 45 [(0, v_R (some 5)), (1, v_I x1), (2, v_I x2), (3, v_I x3), (4, v_I x4), (5, v_I (m_I M 15 (((4 : Int32) * x1) + x4).toNatClampNeg))] [v_I r26]
    refine a_aload_n X dX4_behind_45 rfl ?_
    refine a_mgetA X hMR 13 (by decide) rfl rfl fl_X4_45 dX4_behind_46 ?_
    refine a_iconst (x := 4) X dX4_behind_49 (by decide) ?_
    refine a_iload_n X dX4_behind_50 rfl ?_
    refine a_imul X dX4_behind_51 ?_
    obtain ⟨b27, hm⟩ := i_c hm
    refine a_maldI X hMR 13 (by decide) rfl rfl rfl b27 dX4_behind_52 ?_
    refine a_icmp_gt (tgt := 60) X dX4_behind_53 (by decide) hm (fun c28 hm => ?_) (fun c28 hm => ?_)
    · refine a_iconst (x := 0) X dX4_behind_60 (by decide) ?_
      exact q_X4_behind_61 X hMR M hF rec_14 hr_14 x1 x2 x3 x4 (m_I M 15 (((4 : Int32) * x1) + x4).toNatClampNeg) (0 : Int32) hm
    · refine a_iconst (x := 1) X dX4_behind_56 (by decide) ?_
      refine a_goto (tgt := 61) X dX4_behind_57 (by decide) ?_
      exact q_X4_behind_61 X hMR M hF rec_14 hr_14 x1 x2 x3 x4 (m_I M 15 (((4 : Int32) * x1) + x4).toNatClampNeg) (1 : Int32) hm
def l_X4_behind_14 (M : Msx) (n : Nat) : Int32 → Int32 → Int32 → Int32 → Option (Int32) := lp_ (fun rec_14 => j_X4_behind_14 M rec_14) (fun _ _ _ _ => none) n
theorem ql_X4_behind_14 {v : Evx} {g : Gvx} {h : Hpx} {r : Int32} (X : Cx_ v g cX4_behind 7 RX4 "behind" ((some .int)) rm_X4_behind) (hMR : MR_ h) (M : Msx) (hF : Fi_ v g rm_X4_behind (some (v_I r)) h M) : ∀ (n : Nat) (x1 : Int32) (x2 : Int32) (x3 : Int32) (x4 : Int32), l_X4_behind_14 M n x1 x2 x3 x4 = some r → At_ v g 7 h M 0 0 14 [(0, v_R (some 5)), (1, v_I x1), (2, v_I x2), (3, v_I x3), (4, v_I x4)] [] := by
  intro n
  induction n with
  | zero => intro x1 x2 x3 x4 hm; cases hm
  | succ n ih =>
    intro x1 x2 x3 x4 hm
    exact q_X4_behind_14 X hMR M hF (l_X4_behind_14 M n) ih x1 x2 x3 x4 hm
def f_X4_behind (M : Msx) (x1 : Int32) : Option (Int32) :=
  (if in_b ((4 : Int32) * x1) 64 = true then
  l_X4_behind_14 M 70 x1 (m_I M 12 ((4 : Int32) * x1).toNatClampNeg) (-1 : Int32) (0 : Int32) else none)
set_option maxHeartbeats 4000000 in
theorem q_X4_behind_0 {v : Evx} {g : Gvx} {h : Hpx} {r : Int32} (X : Cx_ v g cX4_behind 7 RX4 "behind" ((some .int)) rm_X4_behind) (hMR : MR_ h) (M : Msx) (hF : Fi_ v g rm_X4_behind (some (v_I r)) h M) (x1 : Int32) (hm : f_X4_behind M x1 = some r) : At_ v g 7 h M 0 0 0 [(0, v_R (some 5)), (1, v_I x1)] [] := by
  unfold f_X4_behind at hm
  refine a_aload_n X dX4_behind_0 rfl ?_
  refine a_mgetA X hMR 12 (by decide) rfl rfl fl_X4_42 dX4_behind_1 ?_
  refine a_iconst (x := 4) X dX4_behind_4 (by decide) ?_
  refine a_iload_n X dX4_behind_5 rfl ?_
  refine a_imul X dX4_behind_6 ?_
  obtain ⟨b21, hm⟩ := i_c hm
  refine a_maldI X hMR 12 (by decide) rfl rfl rfl b21 dX4_behind_7 ?_
  refine a_istore_n (lv' := [(0, v_R (some 5)), (1, v_I x1), (2, v_I (m_I M 12 ((4 : Int32) * x1).toNatClampNeg))]) X dX4_behind_8 (by decide) rfl ?_
  refine a_iconst (x := -1) X dX4_behind_9 (by decide) ?_
  refine a_istore_n (lv' := [(0, v_R (some 5)), (1, v_I x1), (2, v_I (m_I M 12 ((4 : Int32) * x1).toNatClampNeg)), (3, v_I (-1 : Int32))]) X dX4_behind_10 (by decide) rfl ?_
  refine a_iconst (x := 0) X dX4_behind_11 (by decide) ?_
  refine a_istore (lv' := [(0, v_R (some 5)), (1, v_I x1), (2, v_I (m_I M 12 ((4 : Int32) * x1).toNatClampNeg)), (3, v_I (-1 : Int32)), (4, v_I (0 : Int32))]) X dX4_behind_12 (by decide) rfl ?_
  exact ql_X4_behind_14 X hMR M hF 70 x1 (m_I M 12 ((4 : Int32) * x1).toNatClampNeg) (-1 : Int32) (0 : Int32) hm
theorem c_X4_behind {l : Launch} {g : Gvx} {h : Hpx} {M : Msx} {r : Int32} {x1 : Int32} (hMR : MR_ h) (hm : f_X4_behind M x1 = some r) : Mt_ l g yX4_behind cX4_behind 7 ((some .int)) rm_X4_behind [v_R (some 5), v_I x1] h M (some (v_I r)) h M := mt_of (by decide) (Nat.le_of_ble_eq_true rfl) (fun v _ X hF => q_X4_behind_0 X hMR M hF x1 hm)
theorem yv_X4_behind : Yv_ yX4_behind cX4_behind 7 ((some .int)) 1 4 := ⟨rfl, by decide, ⟨by decide, by decide, by decide +kernel⟩, co_X4_behind, im_X4_behind, se_X4_behind, ini_X4⟩

abbrev rm_X4_isPassed : Room := { frames := 0, cells := 0, slots := 0, locals := 0 }
def j_X4_isPassed_50 (M : Msx) : Option (Int32) :=
  some (1 : Int32)
set_option maxHeartbeats 4000000 in
theorem q_X4_isPassed_50 {v : Evx} {g : Gvx} {h : Hpx} {r : Int32} (X : Cx_ v g cX4_isPassed 4 RX4 "isPassed" ((some .boolean)) rm_X4_isPassed) (hMR : MR_ h) (M : Msx) (hF : Fi_ v g rm_X4_isPassed (some (v_I r)) h M) (hm : j_X4_isPassed_50 M  = some r) : At_ v g 4 h M 0 0 50 [(0, v_R (some 5))] [] := by
  unfold j_X4_isPassed_50 at hm
  refine a_iconst (x := 1) X dX4_isPassed_50 (by decide) ?_
  refine a_goto (tgt := 55) X dX4_isPassed_51 (by decide) ?_
  exact a_zret X hF (Or.inr rfl) ⟨rfl, rfl, Option.some.inj hm⟩ (by decide) dX4_isPassed_55
def f_X4_isPassed (M : Msx) (x1 : Int32) (x2 : Int32) : Option (Int32) :=
  (if in_b (((4 : Int32) * x1) + x2) 64 = true then
  (if in_b (m_I M 12 (((4 : Int32) * x1) + x2).toNatClampNeg) 8 = true then
  (if (m_I M 3 (m_I M 12 (((4 : Int32) * x1) + x2).toNatClampNeg).toNatClampNeg) = (2 : Int32) then
  j_X4_isPassed_50 M 
  else (if (m_I M 3 (m_I M 12 (((4 : Int32) * x1) + x2).toNatClampNeg).toNatClampNeg) = (1 : Int32) then
  (if in_b (((4 : Int32) * x1) + x2) 64 = true then
  (if in_b (m_I M 12 (((4 : Int32) * x1) + x2).toNatClampNeg) 8 = true then
  (if (m_I M 13 (((4 : Int32) * x1) + x2).toNatClampNeg) = (m_I M 2 (m_I M 12 (((4 : Int32) * x1) + x2).toNatClampNeg).toNatClampNeg) then
  j_X4_isPassed_50 M 
  else some (0 : Int32)) else none) else none)
  else some (0 : Int32))) else none) else none)
set_option maxHeartbeats 4000000 in
theorem q_X4_isPassed_0 {v : Evx} {g : Gvx} {h : Hpx} {r : Int32} (X : Cx_ v g cX4_isPassed 4 RX4 "isPassed" ((some .boolean)) rm_X4_isPassed) (hMR : MR_ h) (M : Msx) (hF : Fi_ v g rm_X4_isPassed (some (v_I r)) h M) (x1 : Int32) (x2 : Int32) (hm : f_X4_isPassed M x1 x2 = some r) : At_ v g 4 h M 0 0 0 [(0, v_R (some 5)), (1, v_I x1), (2, v_I x2)] [] := by
  unfold f_X4_isPassed at hm
  refine a_aload_n X dX4_isPassed_0 rfl ?_
  refine a_mgetA X hMR 12 (by decide) rfl rfl fl_X4_42 dX4_isPassed_1 ?_
  refine a_iconst (x := 4) X dX4_isPassed_4 (by decide) ?_
  refine a_iload_n X dX4_isPassed_5 rfl ?_
  refine a_imul X dX4_isPassed_6 ?_
  refine a_iload_n X dX4_isPassed_7 rfl ?_
  refine a_iadd X dX4_isPassed_8 ?_
  obtain ⟨b21, hm⟩ := i_c hm
  refine a_maldI X hMR 12 (by decide) rfl rfl rfl b21 dX4_isPassed_9 ?_
  refine a_istore_n (lv' := [(0, v_R (some 5)), (1, v_I x1), (2, v_I x2), (3, v_I (m_I M 12 (((4 : Int32) * x1) + x2).toNatClampNeg))]) X dX4_isPassed_10 (by decide) rfl ?_
  refine a_aload_n X dX4_isPassed_11 rfl ?_
  refine a_mgetA X hMR 3 (by decide) rfl rfl fl_X4_16 dX4_isPassed_12 ?_
  refine a_iload_n X dX4_isPassed_15 rfl ?_
  obtain ⟨b22, hm⟩ := i_c hm
  refine a_maldI X hMR 3 (by decide) rfl rfl rfl b22 dX4_isPassed_16 ?_
  refine a_iconst (x := 2) X dX4_isPassed_17 (by decide) ?_
  refine a_icmp_eq (tgt := 50) X dX4_isPassed_18 (by decide) hm (fun c23 hm => ?_) (fun c23 hm => ?_)
  · refine a_pick (lv' := [(0, v_R (some 5))]) [0] rfl ?_
    exact q_X4_isPassed_50 X hMR M hF  hm
  · refine a_aload_n X dX4_isPassed_21 rfl ?_
    refine a_mgetA X hMR 3 (by decide) rfl rfl fl_X4_16 dX4_isPassed_22 ?_
    refine a_iload_n X dX4_isPassed_25 rfl ?_
    refine a_maldI X hMR 3 (by decide) rfl rfl rfl b22 dX4_isPassed_26 ?_
    refine a_iconst (x := 1) X dX4_isPassed_27 (by decide) ?_
    refine a_icmp_ne (tgt := 54) X dX4_isPassed_28 (by decide) hm (fun c24 hm => ?_) (fun c24 hm => ?_)
    · refine a_iconst (x := 0) X dX4_isPassed_54 (by decide) ?_
      exact a_zret X hF (Or.inl rfl) ⟨rfl, rfl, Option.some.inj hm⟩ (by decide) dX4_isPassed_55
    · refine a_aload_n X dX4_isPassed_31 rfl ?_
      refine a_mgetA X hMR 13 (by decide) rfl rfl fl_X4_45 dX4_isPassed_32 ?_
      refine a_iconst (x := 4) X dX4_isPassed_35 (by decide) ?_
      refine a_iload_n X dX4_isPassed_36 rfl ?_
      refine a_imul X dX4_isPassed_37 ?_
      refine a_iload_n X dX4_isPassed_38 rfl ?_
      refine a_iadd X dX4_isPassed_39 ?_
      obtain ⟨b25, hm⟩ := i_c hm
      refine a_maldI X hMR 13 (by decide) rfl rfl rfl b25 dX4_isPassed_40 ?_
      refine a_aload_n X dX4_isPassed_41 rfl ?_
      refine a_mgetA X hMR 2 (by decide) rfl rfl fl_X4_13 dX4_isPassed_42 ?_
      refine a_iload_n X dX4_isPassed_45 rfl ?_
      obtain ⟨b26, hm⟩ := i_c hm
      refine a_maldI X hMR 2 (by decide) rfl rfl rfl b26 dX4_isPassed_46 ?_
      refine a_icmp_ne (tgt := 54) X dX4_isPassed_47 (by decide) hm (fun c27 hm => ?_) (fun c27 hm => ?_)
      · refine a_iconst (x := 0) X dX4_isPassed_54 (by decide) ?_
        exact a_zret X hF (Or.inl rfl) ⟨rfl, rfl, Option.some.inj hm⟩ (by decide) dX4_isPassed_55
      · refine a_pick (lv' := [(0, v_R (some 5))]) [0] rfl ?_
        exact q_X4_isPassed_50 X hMR M hF  hm
theorem c_X4_isPassed {l : Launch} {g : Gvx} {h : Hpx} {M : Msx} {r : Int32} {x1 : Int32} {x2 : Int32} (hMR : MR_ h) (hm : f_X4_isPassed M x1 x2 = some r) : Mt_ l g yX4_isPassed cX4_isPassed 4 ((some .boolean)) rm_X4_isPassed [v_R (some 5), v_I x1, v_I x2] h M (some (v_I r)) h M := mt_of (by decide) (Nat.le_of_ble_eq_true rfl) (fun v _ X hF => q_X4_isPassed_0 X hMR M hF x1 x2 hm)
theorem yv_X4_isPassed : Yv_ yX4_isPassed cX4_isPassed 4 ((some .boolean)) 2 4 := ⟨rfl, by decide, ⟨by decide, by decide, by decide +kernel⟩, co_X4_isPassed, im_X4_isPassed, se_X4_isPassed, ini_X4⟩

abbrev rm_X4_lacking : Room := { frames := 2, cells := 0, slots := 0, locals := 44 }
def j_X4_lacking_9 (M : Msx) (rec_9 : Int32 → Int32 → Int32 → Int32 → Option (Int32)) (x1 : Int32) (x2 : Int32) (x3 : Int32) (x4 : Int32) : Option (Int32) :=
  (if in_b x1 16 = true then
  (if (m_I M 14 x1.toNatClampNeg) ≤ x4 then
  (if (8 : Int32) ≤ x3 then
  some x2
  else some x3)
  else (if in_b (((4 : Int32) * x1) + x4) 64 = true then
  (f_X4_isPassed M x1 x4).bind fun r26 =>
  (if r26 = 0 then
  (if in_b (((4 : Int32) * x1) + x4) 64 = true then
  (f_X4_isPublished M (m_I M 12 (((4 : Int32) * x1) + x4).toNatClampNeg) (m_I M 13 (((4 : Int32) * x1) + x4).toNatClampNeg)).bind fun r30 =>
  (if r30 = 0 then
  (if x3 ≤ (m_I M 12 (((4 : Int32) * x1) + x4).toNatClampNeg) then
  rec_9 x1 (-1 : Int32) x3 (x4 + (1 : Int32))
  else rec_9 x1 (-1 : Int32) (m_I M 12 (((4 : Int32) * x1) + x4).toNatClampNeg) (x4 + (1 : Int32)))
  else rec_9 x1 (-1 : Int32) x3 (x4 + (1 : Int32))) else none)
  else rec_9 x1 x2 x3 (x4 + (1 : Int32))) else none)) else none)
set_option maxHeartbeats 4000000 in
theorem q_X4_lacking_9 {v : Evx} {g : Gvx} {h : Hpx} {r : Int32} (X : Cx_ v g cX4_lacking 6 RX4 "lacking" ((some .int)) rm_X4_lacking) (hMR : MR_ h) (M : Msx) (hF : Fi_ v g rm_X4_lacking (some (v_I r)) h M) (rec_9 : Int32 → Int32 → Int32 → Int32 → Option (Int32)) (hr_9 : ∀ (x1 : Int32) (x2 : Int32) (x3 : Int32) (x4 : Int32), rec_9 x1 x2 x3 x4 = some r → At_ v g 6 h M 0 0 9 [(0, v_R (some 5)), (1, v_I x1), (2, v_I x2), (3, v_I x3), (4, v_I x4)] []) (x1 : Int32) (x2 : Int32) (x3 : Int32) (x4 : Int32) (hm : j_X4_lacking_9 M rec_9 x1 x2 x3 x4 = some r) : At_ v g 6 h M 0 0 9 [(0, v_R (some 5)), (1, v_I x1), (2, v_I x2), (3, v_I x3), (4, v_I x4)] [] := by
  unfold j_X4_lacking_9 at hm
  refine a_iload X dX4_lacking_9 rfl ?_
  refine a_aload_n X dX4_lacking_11 rfl ?_
  refine a_mgetA X hMR 14 (by decide) rfl rfl fl_X4_48 dX4_lacking_12 ?_
  refine a_iload_n X dX4_lacking_15 rfl ?_
  obtain ⟨b21, hm⟩ := i_c hm
  refine a_maldI X hMR 14 (by decide) rfl rfl rfl b21 dX4_lacking_16 ?_
  refine a_icmp_ge (tgt := 84) X dX4_lacking_17 (by decide) hm (fun c22 hm => ?_) (fun c22 hm => ?_)
  · refine a_iload_n X dX4_lacking_84 rfl ?_
    refine a_bipush (x := 8) X dX4_lacking_85 (by decide) ?_
    refine a_icmp_ge (tgt := 94) X dX4_lacking_87 (by decide) hm (fun c23 hm => ?_) (fun c23 hm => ?_)
    · refine a_iload_n X dX4_lacking_94 rfl ?_
      exact a_iret X hF ⟨rfl, rfl, Option.some.inj hm⟩ (by decide) dX4_lacking_95
    · refine a_iload_n X dX4_lacking_90 rfl ?_
      refine a_goto (tgt := 95) X dX4_lacking_91 (by decide) ?_
      exact a_iret X hF ⟨rfl, rfl, Option.some.inj hm⟩ (by decide) dX4_lacking_95
  · refine a_aload_n X dX4_lacking_20 rfl ?_
    refine a_mgetA X hMR 12 (by decide) rfl rfl fl_X4_42 dX4_lacking_21 ?_
    refine a_iconst (x := 4) X dX4_lacking_24 (by decide) ?_
    refine a_iload_n X dX4_lacking_25 rfl ?_
    refine a_imul X dX4_lacking_26 ?_
    refine a_iload X dX4_lacking_27 rfl ?_
    refine a_iadd X dX4_lacking_29 ?_
    obtain ⟨b24, hm⟩ := i_c hm
    refine a_maldI X hMR 12 (by decide) rfl rfl rfl b24 dX4_lacking_30 ?_
    refine a_istore (lv' := [(0, v_R (some 5)), (1, v_I x1), (2, v_I x2), (3, v_I x3), (4, v_I x4), (5, v_I (m_I M 12 (((4 : Int32) * x1) + x4).toNatClampNeg))]) X dX4_lacking_31 (by decide) rfl ?_
    refine a_aload_n X dX4_lacking_33 rfl ?_
    refine a_iload_n X dX4_lacking_34 rfl ?_
    refine a_iload X dX4_lacking_35 rfl ?_
    obtain ⟨r26, q25, hm⟩ := i_b hm
    refine a_callV (k' := 0) (n' := 0) (st := []) X (c_X4_isPassed hMR q25) yv_X4_isPassed ml_X4_225 rfl (Or.inr (mr5_ hMR)) ⟨by decide, by decide, by decide, by decide, Nat.le_of_ble_eq_true rfl⟩ rfl rfl dX4_lacking_37 rfl rfl ?_
    show At_ v g 6 h M 0 0 40 [(0, v_R (some 5)), (1, v_I x1), (2, v_I x2), (3, v_I x3), (4, v_I x4), (5, v_I (m_I M 12 (((4 : Int32) * x1) + x4).toNatClampNeg))] [v_I r26]
    refine a_if_ne (tgt := 78) X dX4_lacking_40 (by decide) hm (fun c27 hm => ?_) (fun c27 hm => ?_)
    · refine a_iinc (y := x4 + (1 : Int32)) (lv' := [(0, v_R (some 5)), (1, v_I x1), (2, v_I x2), (3, v_I x3), (4, v_I (x4 + (1 : Int32))), (5, v_I (m_I M 12 (((4 : Int32) * x1) + x4).toNatClampNeg))]) X dX4_lacking_78 rfl rfl (by decide) rfl ?_
      refine a_goto (tgt := 9) X dX4_lacking_81 (by decide) ?_
      refine a_pick (lv' := [(0, v_R (some 5)), (1, v_I x1), (2, v_I x2), (3, v_I x3), (4, v_I (x4 + (1 : Int32)))]) [0, 1, 2, 3, 4] rfl ?_
      exact hr_9 x1 x2 x3 (x4 + (1 : Int32)) hm
    · refine a_iconst (x := -1) X dX4_lacking_43 (by decide) ?_
      refine a_istore_n (lv' := [(0, v_R (some 5)), (1, v_I x1), (2, v_I (-1 : Int32)), (3, v_I x3), (4, v_I x4), (5, v_I (m_I M 12 (((4 : Int32) * x1) + x4).toNatClampNeg))]) X dX4_lacking_44 (by decide) rfl ?_
      refine a_aload_n X dX4_lacking_45 rfl ?_
      refine a_iload X dX4_lacking_46 rfl ?_
      refine a_aload_n X dX4_lacking_48 rfl ?_
      refine a_mgetA X hMR 13 (by decide) rfl rfl fl_X4_45 dX4_lacking_49 ?_
      refine a_iconst (x := 4) X dX4_lacking_52 (by decide) ?_
      refine a_iload_n X dX4_lacking_53 rfl ?_
      refine a_imul X dX4_lacking_54 ?_
      refine a_iload X dX4_lacking_55 rfl ?_
      refine a_iadd X dX4_lacking_57 ?_
      obtain ⟨b28, hm⟩ := i_c hm
      refine a_maldI X hMR 13 (by decide) rfl rfl rfl b28 dX4_lacking_58 ?_
      obtain ⟨r30, q29, hm⟩ := i_b hm
      refine a_callV (k' := 0) (n' := 0) (st := []) X (c_X4_isPublished hMR q29) yv_X4_isPublished ml_X4_222 rfl (Or.inr (mr5_ hMR)) ⟨by decide, by decide, by decide, by decide, Nat.le_of_ble_eq_true rfl⟩ rfl rfl dX4_lacking_59 rfl rfl ?_
      show At_ v g 6 h M 0 0 62 [(0, v_R (some 5)), (1, v_I x1), (2, v_I (-1 : Int32)), (3, v_I x3), (4, v_I x4), (5, v_I (m_I M 12 (((4 : Int32) * x1) + x4).toNatClampNeg))] [v_I r30]
      refine a_if_ne (tgt := 76) X dX4_lacking_62 (by decide) hm (fun c31 hm => ?_) (fun c31 hm => ?_)
      · refine a_iload_n X dX4_lacking_76 rfl ?_
        refine a_istore_n (lv' := [(0, v_R (some 5)), (1, v_I x1), (2, v_I (-1 : Int32)), (3, v_I x3), (4, v_I x4), (5, v_I (m_I M 12 (((4 : Int32) * x1) + x4).toNatClampNeg))]) X dX4_lacking_77 (by decide) rfl ?_
        refine a_iinc (y := x4 + (1 : Int32)) (lv' := [(0, v_R (some 5)), (1, v_I x1), (2, v_I (-1 : Int32)), (3, v_I x3), (4, v_I (x4 + (1 : Int32))), (5, v_I (m_I M 12 (((4 : Int32) * x1) + x4).toNatClampNeg))]) X dX4_lacking_78 rfl rfl (by decide) rfl ?_
        refine a_goto (tgt := 9) X dX4_lacking_81 (by decide) ?_
        refine a_pick (lv' := [(0, v_R (some 5)), (1, v_I x1), (2, v_I (-1 : Int32)), (3, v_I x3), (4, v_I (x4 + (1 : Int32)))]) [0, 1, 2, 3, 4] rfl ?_
        exact hr_9 x1 (-1 : Int32) x3 (x4 + (1 : Int32)) hm
      · refine a_iload X dX4_lacking_65 rfl ?_
        refine a_iload_n X dX4_lacking_67 rfl ?_
        refine a_icmp_ge (tgt := 76) X dX4_lacking_68 (by decide) hm (fun c32 hm => ?_) (fun c32 hm => ?_)
        · refine a_iload_n X dX4_lacking_76 rfl ?_
          refine a_istore_n (lv' := [(0, v_R (some 5)), (1, v_I x1), (2, v_I (-1 : Int32)), (3, v_I x3), (4, v_I x4), (5, v_I (m_I M 12 (((4 : Int32) * x1) + x4).toNatClampNeg))]) X dX4_lacking_77 (by decide) rfl ?_
          refine a_iinc (y := x4 + (1 : Int32)) (lv' := [(0, v_R (some 5)), (1, v_I x1), (2, v_I (-1 : Int32)), (3, v_I x3), (4, v_I (x4 + (1 : Int32))), (5, v_I (m_I M 12 (((4 : Int32) * x1) + x4).toNatClampNeg))]) X dX4_lacking_78 rfl rfl (by decide) rfl ?_
          refine a_goto (tgt := 9) X dX4_lacking_81 (by decide) ?_
          refine a_pick (lv' := [(0, v_R (some 5)), (1, v_I x1), (2, v_I (-1 : Int32)), (3, v_I x3), (4, v_I (x4 + (1 : Int32)))]) [0, 1, 2, 3, 4] rfl ?_
          exact hr_9 x1 (-1 : Int32) x3 (x4 + (1 : Int32)) hm
        · refine a_iload X dX4_lacking_71 rfl ?_
          refine a_goto (tgt := 77) X dX4_lacking_73 (by decide) ?_
          refine a_istore_n (lv' := [(0, v_R (some 5)), (1, v_I x1), (2, v_I (-1 : Int32)), (3, v_I (m_I M 12 (((4 : Int32) * x1) + x4).toNatClampNeg)), (4, v_I x4), (5, v_I (m_I M 12 (((4 : Int32) * x1) + x4).toNatClampNeg))]) X dX4_lacking_77 (by decide) rfl ?_
          refine a_iinc (y := x4 + (1 : Int32)) (lv' := [(0, v_R (some 5)), (1, v_I x1), (2, v_I (-1 : Int32)), (3, v_I (m_I M 12 (((4 : Int32) * x1) + x4).toNatClampNeg)), (4, v_I (x4 + (1 : Int32))), (5, v_I (m_I M 12 (((4 : Int32) * x1) + x4).toNatClampNeg))]) X dX4_lacking_78 rfl rfl (by decide) rfl ?_
          refine a_goto (tgt := 9) X dX4_lacking_81 (by decide) ?_
          refine a_pick (lv' := [(0, v_R (some 5)), (1, v_I x1), (2, v_I (-1 : Int32)), (3, v_I (m_I M 12 (((4 : Int32) * x1) + x4).toNatClampNeg)), (4, v_I (x4 + (1 : Int32)))]) [0, 1, 2, 3, 4] rfl ?_
          exact hr_9 x1 (-1 : Int32) (m_I M 12 (((4 : Int32) * x1) + x4).toNatClampNeg) (x4 + (1 : Int32)) hm
def l_X4_lacking_9 (M : Msx) (n : Nat) : Int32 → Int32 → Int32 → Int32 → Option (Int32) := lp_ (fun rec_9 => j_X4_lacking_9 M rec_9) (fun _ _ _ _ => none) n
theorem ql_X4_lacking_9 {v : Evx} {g : Gvx} {h : Hpx} {r : Int32} (X : Cx_ v g cX4_lacking 6 RX4 "lacking" ((some .int)) rm_X4_lacking) (hMR : MR_ h) (M : Msx) (hF : Fi_ v g rm_X4_lacking (some (v_I r)) h M) : ∀ (n : Nat) (x1 : Int32) (x2 : Int32) (x3 : Int32) (x4 : Int32), l_X4_lacking_9 M n x1 x2 x3 x4 = some r → At_ v g 6 h M 0 0 9 [(0, v_R (some 5)), (1, v_I x1), (2, v_I x2), (3, v_I x3), (4, v_I x4)] [] := by
  intro n
  induction n with
  | zero => intro x1 x2 x3 x4 hm; cases hm
  | succ n ih =>
    intro x1 x2 x3 x4 hm
    exact q_X4_lacking_9 X hMR M hF (l_X4_lacking_9 M n) ih x1 x2 x3 x4 hm
def f_X4_lacking (M : Msx) (x1 : Int32) : Option (Int32) :=
  l_X4_lacking_9 M 70 x1 (-2 : Int32) (8 : Int32) (0 : Int32)
set_option maxHeartbeats 4000000 in
theorem q_X4_lacking_0 {v : Evx} {g : Gvx} {h : Hpx} {r : Int32} (X : Cx_ v g cX4_lacking 6 RX4 "lacking" ((some .int)) rm_X4_lacking) (hMR : MR_ h) (M : Msx) (hF : Fi_ v g rm_X4_lacking (some (v_I r)) h M) (x1 : Int32) (hm : f_X4_lacking M x1 = some r) : At_ v g 6 h M 0 0 0 [(0, v_R (some 5)), (1, v_I x1)] [] := by
  unfold f_X4_lacking at hm
  refine a_bipush (x := -2) X dX4_lacking_0 (by decide) ?_
  refine a_istore_n (lv' := [(0, v_R (some 5)), (1, v_I x1), (2, v_I (-2 : Int32))]) X dX4_lacking_2 (by decide) rfl ?_
  refine a_bipush (x := 8) X dX4_lacking_3 (by decide) ?_
  refine a_istore_n (lv' := [(0, v_R (some 5)), (1, v_I x1), (2, v_I (-2 : Int32)), (3, v_I (8 : Int32))]) X dX4_lacking_5 (by decide) rfl ?_
  refine a_iconst (x := 0) X dX4_lacking_6 (by decide) ?_
  refine a_istore (lv' := [(0, v_R (some 5)), (1, v_I x1), (2, v_I (-2 : Int32)), (3, v_I (8 : Int32)), (4, v_I (0 : Int32))]) X dX4_lacking_7 (by decide) rfl ?_
  exact ql_X4_lacking_9 X hMR M hF 70 x1 (-2 : Int32) (8 : Int32) (0 : Int32) hm
theorem c_X4_lacking {l : Launch} {g : Gvx} {h : Hpx} {M : Msx} {r : Int32} {x1 : Int32} (hMR : MR_ h) (hm : f_X4_lacking M x1 = some r) : Mt_ l g yX4_lacking cX4_lacking 6 ((some .int)) rm_X4_lacking [v_R (some 5), v_I x1] h M (some (v_I r)) h M := mt_of (by decide) (Nat.le_of_ble_eq_true rfl) (fun v _ X hF => q_X4_lacking_0 X hMR M hF x1 hm)
theorem yv_X4_lacking : Yv_ yX4_lacking cX4_lacking 6 ((some .int)) 1 4 := ⟨rfl, by decide, ⟨by decide, by decide, by decide +kernel⟩, co_X4_lacking, im_X4_lacking, se_X4_lacking, ini_X4⟩

abbrev rm_X4_whyOne : Room := { frames := 5, cells := 0, slots := 0, locals := 114 }
def j_X4_whyOne_122 (M : Msx) : Option (Int32) :=
  some (0 : Int32)
set_option maxHeartbeats 4000000 in
theorem q_X4_whyOne_122 {v : Evx} {g : Gvx} {h : Hpx} {r : Int32} (X : Cx_ v g cX4_whyOne 6 RX4 "whyOne" ((some .int)) rm_X4_whyOne) (hMR : MR_ h) (M : Msx) (hF : Fi_ v g rm_X4_whyOne (some (v_I r)) h M) (hm : j_X4_whyOne_122 M  = some r) : At_ v g 6 h M 0 0 122 [(0, v_R (some 5))] [] := by
  unfold j_X4_whyOne_122 at hm
  refine a_iconst (x := 0) X dX4_whyOne_122 (by decide) ?_
  refine a_goto (tgt := 127) X dX4_whyOne_123 (by decide) ?_
  exact a_iret X hF ⟨rfl, rfl, Option.some.inj hm⟩ (by decide) dX4_whyOne_127
def j_X4_whyOne_203 (M : Msx) : Option (Int32) :=
  some (5 : Int32)
set_option maxHeartbeats 4000000 in
theorem q_X4_whyOne_203 {v : Evx} {g : Gvx} {h : Hpx} {r : Int32} (X : Cx_ v g cX4_whyOne 6 RX4 "whyOne" ((some .int)) rm_X4_whyOne) (hMR : MR_ h) (M : Msx) (hF : Fi_ v g rm_X4_whyOne (some (v_I r)) h M) (hm : j_X4_whyOne_203 M  = some r) : At_ v g 6 h M 0 0 203 [(0, v_R (some 5))] [] := by
  unfold j_X4_whyOne_203 at hm
  refine a_iconst (x := 5) X dX4_whyOne_203 (by decide) ?_
  refine a_goto (tgt := 208) X dX4_whyOne_204 (by decide) ?_
  exact a_iret X hF ⟨rfl, rfl, Option.some.inj hm⟩ (by decide) dX4_whyOne_208
def f_X4_whyOne (M : Msx) (x1 : Int32) : Option (Int32) :=
  (if in_b x1 16 = true then
  (if in_b ((4 : Int32) * x1) 64 = true then
  (if (m_I M 11 x1.toNatClampNeg) = (4 : Int32) then
  (if in_b x1 16 = true then
  (if (m_I M 28 x1.toNatClampNeg) ≤ 0 then
  some (2 : Int32)
  else some (0 : Int32)) else none)
  else (if (m_I M 11 x1.toNatClampNeg) = (5 : Int32) then
  (f_X4_lacking M x1).bind fun r53 =>
  (if r53 = (-2 : Int32) then
  some (6 : Int32)
  else (if r53 = (-1 : Int32) then
  some (0 : Int32)
  else some (7 : Int32)))
  else (if in_b (m_I M 12 ((4 : Int32) * x1).toNatClampNeg) 8 = true then
  (if (m_I M 3 (m_I M 12 ((4 : Int32) * x1).toNatClampNeg).toNatClampNeg) = (2 : Int32) then
  some (1 : Int32)
  else (if (m_I M 11 x1.toNatClampNeg) = (1 : Int32) then
  (f_X4_seen M (m_I M 12 ((4 : Int32) * x1).toNatClampNeg)).bind fun r46 =>
  (if r46 < 0 then
  some (2 : Int32)
  else (if in_b x1 16 = true then
  (if (m_I M 21 x1.toNatClampNeg) = 0 then
  j_X4_whyOne_122 M 
  else (if in_b x1 16 = true then
  (if r46 ≤ (m_I M 23 x1.toNatClampNeg) then
  some (2 : Int32)
  else j_X4_whyOne_122 M ) else none)) else none))
  else (f_X4_from M x1).bind fun r29 =>
  (if in_b (m_I M 12 ((4 : Int32) * x1).toNatClampNeg) 8 = true then
  (if r29 < (m_I M 2 (m_I M 12 ((4 : Int32) * x1).toNatClampNeg).toNatClampNeg) then
  (f_X4_isOpen M (m_I M 12 ((4 : Int32) * x1).toNatClampNeg) r29).bind fun r33 =>
  (if r33 = 0 then
  (f_X4_behind M x1).bind fun r36 =>
  (if r36 < 0 then
  (if in_b x1 16 = true then
  (if (m_I M 11 x1.toNatClampNeg) = (7 : Int32) then
  (if in_b (m_I M 17 x1.toNatClampNeg) 8 = true then
  (if 0 < (m_I M 3 (m_I M 17 x1.toNatClampNeg).toNatClampNeg) then
  j_X4_whyOne_203 M 
  else (f_X4_isHeldUp M (m_I M 17 x1.toNatClampNeg)).bind fun r43 =>
  (if r43 = 0 then
  some (0 : Int32)
  else j_X4_whyOne_203 M )) else none)
  else some (0 : Int32)) else none)
  else some (4 : Int32))
  else some (3 : Int32))
  else some (2 : Int32)) else none))) else none))) else none) else none)
set_option maxHeartbeats 4000000 in
theorem q_X4_whyOne_0 {v : Evx} {g : Gvx} {h : Hpx} {r : Int32} (X : Cx_ v g cX4_whyOne 6 RX4 "whyOne" ((some .int)) rm_X4_whyOne) (hMR : MR_ h) (M : Msx) (hF : Fi_ v g rm_X4_whyOne (some (v_I r)) h M) (x1 : Int32) (hm : f_X4_whyOne M x1 = some r) : At_ v g 6 h M 0 0 0 [(0, v_R (some 5)), (1, v_I x1)] [] := by
  unfold f_X4_whyOne at hm
  refine a_aload_n X dX4_whyOne_0 rfl ?_
  refine a_mgetA X hMR 11 (by decide) rfl rfl fl_X4_39 dX4_whyOne_1 ?_
  refine a_iload_n X dX4_whyOne_4 rfl ?_
  obtain ⟨b21, hm⟩ := i_c hm
  refine a_maldI X hMR 11 (by decide) rfl rfl rfl b21 dX4_whyOne_5 ?_
  refine a_istore_n (lv' := [(0, v_R (some 5)), (1, v_I x1), (2, v_I (m_I M 11 x1.toNatClampNeg))]) X dX4_whyOne_6 (by decide) rfl ?_
  refine a_aload_n X dX4_whyOne_7 rfl ?_
  refine a_mgetA X hMR 12 (by decide) rfl rfl fl_X4_42 dX4_whyOne_8 ?_
  refine a_iconst (x := 4) X dX4_whyOne_11 (by decide) ?_
  refine a_iload_n X dX4_whyOne_12 rfl ?_
  refine a_imul X dX4_whyOne_13 ?_
  obtain ⟨b22, hm⟩ := i_c hm
  refine a_maldI X hMR 12 (by decide) rfl rfl rfl b22 dX4_whyOne_14 ?_
  refine a_istore_n (lv' := [(0, v_R (some 5)), (1, v_I x1), (2, v_I (m_I M 11 x1.toNatClampNeg)), (3, v_I (m_I M 12 ((4 : Int32) * x1).toNatClampNeg))]) X dX4_whyOne_15 (by decide) rfl ?_
  refine a_iload_n X dX4_whyOne_16 rfl ?_
  refine a_iconst (x := 4) X dX4_whyOne_17 (by decide) ?_
  refine a_icmp_ne (tgt := 36) X dX4_whyOne_18 (by decide) hm (fun c23 hm => ?_) (fun c23 hm => ?_)
  · refine a_iload_n X dX4_whyOne_36 rfl ?_
    refine a_iconst (x := 5) X dX4_whyOne_37 (by decide) ?_
    refine a_icmp_ne (tgt := 73) X dX4_whyOne_38 (by decide) hm (fun c24 hm => ?_) (fun c24 hm => ?_)
    · refine a_aload_n X dX4_whyOne_73 rfl ?_
      refine a_mgetA X hMR 3 (by decide) rfl rfl fl_X4_16 dX4_whyOne_74 ?_
      refine a_iload_n X dX4_whyOne_77 rfl ?_
      obtain ⟨b25, hm⟩ := i_c hm
      refine a_maldI X hMR 3 (by decide) rfl rfl rfl b25 dX4_whyOne_78 ?_
      refine a_iconst (x := 2) X dX4_whyOne_79 (by decide) ?_
      refine a_icmp_ne (tgt := 85) X dX4_whyOne_80 (by decide) hm (fun c26 hm => ?_) (fun c26 hm => ?_)
      · refine a_iload_n X dX4_whyOne_85 rfl ?_
        refine a_iconst (x := 1) X dX4_whyOne_86 (by decide) ?_
        refine a_icmp_ne (tgt := 128) X dX4_whyOne_87 (by decide) hm (fun c27 hm => ?_) (fun c27 hm => ?_)
        · refine a_aload_n X dX4_whyOne_128 rfl ?_
          refine a_iload_n X dX4_whyOne_129 rfl ?_
          obtain ⟨r29, q28, hm⟩ := i_b hm
          refine a_callV (k' := 0) (n' := 0) (st := []) X (c_X4_from hMR q28) yv_X4_from ml_X4_234 rfl (Or.inr (mr5_ hMR)) ⟨by decide, by decide, by decide, by decide, Nat.le_of_ble_eq_true rfl⟩ rfl rfl dX4_whyOne_130 rfl rfl ?_
          show At_ v g 6 h M 0 0 133 [(0, v_R (some 5)), (1, v_I x1), (2, v_I (m_I M 11 x1.toNatClampNeg)), (3, v_I (m_I M 12 ((4 : Int32) * x1).toNatClampNeg))] [v_I r29]
          refine a_istore (lv' := [(0, v_R (some 5)), (1, v_I x1), (2, v_I (m_I M 11 x1.toNatClampNeg)), (3, v_I (m_I M 12 ((4 : Int32) * x1).toNatClampNeg)), (4, v_I r29)]) X dX4_whyOne_133 (by decide) rfl ?_
          refine a_iload X dX4_whyOne_135 rfl ?_
          refine a_aload_n X dX4_whyOne_137 rfl ?_
          refine a_mgetA X hMR 2 (by decide) rfl rfl fl_X4_13 dX4_whyOne_138 ?_
          refine a_iload_n X dX4_whyOne_141 rfl ?_
          obtain ⟨b30, hm⟩ := i_c hm
          refine a_maldI X hMR 2 (by decide) rfl rfl rfl b30 dX4_whyOne_142 ?_
          refine a_icmp_lt (tgt := 148) X dX4_whyOne_143 (by decide) hm (fun c31 hm => ?_) (fun c31 hm => ?_)
          · refine a_aload_n X dX4_whyOne_148 rfl ?_
            refine a_iload_n X dX4_whyOne_149 rfl ?_
            refine a_iload X dX4_whyOne_150 rfl ?_
            obtain ⟨r33, q32, hm⟩ := i_b hm
            refine a_callV (k' := 0) (n' := 0) (st := []) X (c_X4_isOpen hMR q32) yv_X4_isOpen ml_X4_180 rfl (Or.inr (mr5_ hMR)) ⟨by decide, by decide, by decide, by decide, Nat.le_of_ble_eq_true rfl⟩ rfl rfl dX4_whyOne_152 rfl rfl ?_
            show At_ v g 6 h M 0 0 155 [(0, v_R (some 5)), (1, v_I x1), (2, v_I (m_I M 11 x1.toNatClampNeg)), (3, v_I (m_I M 12 ((4 : Int32) * x1).toNatClampNeg)), (4, v_I r29)] [v_I r33]
            refine a_if_eq (tgt := 160) X dX4_whyOne_155 (by decide) hm (fun c34 hm => ?_) (fun c34 hm => ?_)
            · refine a_aload_n X dX4_whyOne_160 rfl ?_
              refine a_iload_n X dX4_whyOne_161 rfl ?_
              obtain ⟨r36, q35, hm⟩ := i_b hm
              refine a_callV (k' := 0) (n' := 0) (st := []) X (c_X4_behind hMR q35) yv_X4_behind ml_X4_237 rfl (Or.inr (mr5_ hMR)) ⟨by decide, by decide, by decide, by decide, Nat.le_of_ble_eq_true rfl⟩ rfl rfl dX4_whyOne_162 rfl rfl ?_
              show At_ v g 6 h M 0 0 165 [(0, v_R (some 5)), (1, v_I x1), (2, v_I (m_I M 11 x1.toNatClampNeg)), (3, v_I (m_I M 12 ((4 : Int32) * x1).toNatClampNeg)), (4, v_I r29)] [v_I r36]
              refine a_if_lt (tgt := 170) X dX4_whyOne_165 (by decide) hm (fun c37 hm => ?_) (fun c37 hm => ?_)
              · refine a_aload_n X dX4_whyOne_170 rfl ?_
                refine a_mgetA X hMR 17 (by decide) rfl rfl fl_X4_57 dX4_whyOne_171 ?_
                refine a_iload_n X dX4_whyOne_174 rfl ?_
                obtain ⟨b38, hm⟩ := i_c hm
                refine a_maldI X hMR 17 (by decide) rfl rfl rfl b38 dX4_whyOne_175 ?_
                refine a_istore (lv' := [(0, v_R (some 5)), (1, v_I x1), (2, v_I (m_I M 11 x1.toNatClampNeg)), (3, v_I (m_I M 12 ((4 : Int32) * x1).toNatClampNeg)), (4, v_I r29), (5, v_I (m_I M 17 x1.toNatClampNeg))]) X dX4_whyOne_176 (by decide) rfl ?_
                refine a_iload_n X dX4_whyOne_178 rfl ?_
                refine a_bipush (x := 7) X dX4_whyOne_179 (by decide) ?_
                refine a_icmp_ne (tgt := 207) X dX4_whyOne_181 (by decide) hm (fun c39 hm => ?_) (fun c39 hm => ?_)
                · refine a_iconst (x := 0) X dX4_whyOne_207 (by decide) ?_
                  exact a_iret X hF ⟨rfl, rfl, Option.some.inj hm⟩ (by decide) dX4_whyOne_208
                · refine a_aload_n X dX4_whyOne_184 rfl ?_
                  refine a_mgetA X hMR 3 (by decide) rfl rfl fl_X4_16 dX4_whyOne_185 ?_
                  refine a_iload X dX4_whyOne_188 rfl ?_
                  obtain ⟨b40, hm⟩ := i_c hm
                  refine a_maldI X hMR 3 (by decide) rfl rfl rfl b40 dX4_whyOne_190 ?_
                  refine a_if_gt (tgt := 203) X dX4_whyOne_191 (by decide) hm (fun c41 hm => ?_) (fun c41 hm => ?_)
                  · refine a_pick (lv' := [(0, v_R (some 5))]) [0] rfl ?_
                    exact q_X4_whyOne_203 X hMR M hF  hm
                  · refine a_aload_n X dX4_whyOne_194 rfl ?_
                    refine a_iload X dX4_whyOne_195 rfl ?_
                    obtain ⟨r43, q42, hm⟩ := i_b hm
                    refine a_callV (k' := 0) (n' := 0) (st := []) X (c_X4_isHeldUp hMR q42) yv_X4_isHeldUp ml_X4_219 rfl (Or.inr (mr5_ hMR)) ⟨by decide, by decide, by decide, by decide, Nat.le_of_ble_eq_true rfl⟩ rfl rfl dX4_whyOne_197 rfl rfl ?_
                    show At_ v g 6 h M 0 0 200 [(0, v_R (some 5)), (1, v_I x1), (2, v_I (m_I M 11 x1.toNatClampNeg)), (3, v_I (m_I M 12 ((4 : Int32) * x1).toNatClampNeg)), (4, v_I r29), (5, v_I (m_I M 17 x1.toNatClampNeg))] [v_I r43]
                    refine a_if_eq (tgt := 207) X dX4_whyOne_200 (by decide) hm (fun c44 hm => ?_) (fun c44 hm => ?_)
                    · refine a_iconst (x := 0) X dX4_whyOne_207 (by decide) ?_
                      exact a_iret X hF ⟨rfl, rfl, Option.some.inj hm⟩ (by decide) dX4_whyOne_208
                    · refine a_pick (lv' := [(0, v_R (some 5))]) [0] rfl ?_
                      exact q_X4_whyOne_203 X hMR M hF  hm
              · refine a_iconst (x := 4) X dX4_whyOne_168 (by decide) ?_
                exact a_iret X hF ⟨rfl, rfl, Option.some.inj hm⟩ (by decide) dX4_whyOne_169
            · refine a_iconst (x := 3) X dX4_whyOne_158 (by decide) ?_
              exact a_iret X hF ⟨rfl, rfl, Option.some.inj hm⟩ (by decide) dX4_whyOne_159
          · refine a_iconst (x := 2) X dX4_whyOne_146 (by decide) ?_
            exact a_iret X hF ⟨rfl, rfl, Option.some.inj hm⟩ (by decide) dX4_whyOne_147
        · refine a_aload_n X dX4_whyOne_90 rfl ?_
          refine a_iload_n X dX4_whyOne_91 rfl ?_
          obtain ⟨r46, q45, hm⟩ := i_b hm
          refine a_callV (k' := 0) (n' := 0) (st := []) X (c_X4_seen hMR q45) yv_X4_seen ml_X4_231 rfl (Or.inr (mr5_ hMR)) ⟨by decide, by decide, by decide, by decide, Nat.le_of_ble_eq_true rfl⟩ rfl rfl dX4_whyOne_92 rfl rfl ?_
          show At_ v g 6 h M 0 0 95 [(0, v_R (some 5)), (1, v_I x1), (2, v_I (m_I M 11 x1.toNatClampNeg)), (3, v_I (m_I M 12 ((4 : Int32) * x1).toNatClampNeg))] [v_I r46]
          refine a_istore (lv' := [(0, v_R (some 5)), (1, v_I x1), (2, v_I (m_I M 11 x1.toNatClampNeg)), (3, v_I (m_I M 12 ((4 : Int32) * x1).toNatClampNeg)), (4, v_I r46)]) X dX4_whyOne_95 (by decide) rfl ?_
          refine a_iload X dX4_whyOne_97 rfl ?_
          refine a_if_lt (tgt := 126) X dX4_whyOne_99 (by decide) hm (fun c47 hm => ?_) (fun c47 hm => ?_)
          · refine a_iconst (x := 2) X dX4_whyOne_126 (by decide) ?_
            exact a_iret X hF ⟨rfl, rfl, Option.some.inj hm⟩ (by decide) dX4_whyOne_127
          · refine a_aload_n X dX4_whyOne_102 rfl ?_
            refine a_mgetA X hMR 21 (by decide) rfl rfl fl_X4_69 dX4_whyOne_103 ?_
            refine a_iload_n X dX4_whyOne_106 rfl ?_
            obtain ⟨b48, hm⟩ := i_c hm
            refine a_maldI X hMR 21 (by decide) rfl rfl rfl b48 dX4_whyOne_107 ?_
            refine a_if_eq (tgt := 122) X dX4_whyOne_108 (by decide) hm (fun c49 hm => ?_) (fun c49 hm => ?_)
            · refine a_pick (lv' := [(0, v_R (some 5))]) [0] rfl ?_
              exact q_X4_whyOne_122 X hMR M hF  hm
            · refine a_iload X dX4_whyOne_111 rfl ?_
              refine a_aload_n X dX4_whyOne_113 rfl ?_
              refine a_mgetA X hMR 23 (by decide) rfl rfl fl_X4_75 dX4_whyOne_114 ?_
              refine a_iload_n X dX4_whyOne_117 rfl ?_
              obtain ⟨b50, hm⟩ := i_c hm
              refine a_maldI X hMR 23 (by decide) rfl rfl rfl b50 dX4_whyOne_118 ?_
              refine a_icmp_le (tgt := 126) X dX4_whyOne_119 (by decide) hm (fun c51 hm => ?_) (fun c51 hm => ?_)
              · refine a_iconst (x := 2) X dX4_whyOne_126 (by decide) ?_
                exact a_iret X hF ⟨rfl, rfl, Option.some.inj hm⟩ (by decide) dX4_whyOne_127
              · refine a_pick (lv' := [(0, v_R (some 5))]) [0] rfl ?_
                exact q_X4_whyOne_122 X hMR M hF  hm
      · refine a_iconst (x := 1) X dX4_whyOne_83 (by decide) ?_
        exact a_iret X hF ⟨rfl, rfl, Option.some.inj hm⟩ (by decide) dX4_whyOne_84
    · refine a_aload_n X dX4_whyOne_41 rfl ?_
      refine a_iload_n X dX4_whyOne_42 rfl ?_
      obtain ⟨r53, q52, hm⟩ := i_b hm
      refine a_callV (k' := 0) (n' := 0) (st := []) X (c_X4_lacking hMR q52) yv_X4_lacking ml_X4_228 rfl (Or.inr (mr5_ hMR)) ⟨by decide, by decide, by decide, by decide, Nat.le_of_ble_eq_true rfl⟩ rfl rfl dX4_whyOne_43 rfl rfl ?_
      show At_ v g 6 h M 0 0 46 [(0, v_R (some 5)), (1, v_I x1), (2, v_I (m_I M 11 x1.toNatClampNeg)), (3, v_I (m_I M 12 ((4 : Int32) * x1).toNatClampNeg))] [v_I r53]
      refine a_istore (lv' := [(0, v_R (some 5)), (1, v_I x1), (2, v_I (m_I M 11 x1.toNatClampNeg)), (3, v_I (m_I M 12 ((4 : Int32) * x1).toNatClampNeg)), (4, v_I r53)]) X dX4_whyOne_46 (by decide) rfl ?_
      refine a_iload X dX4_whyOne_48 rfl ?_
      refine a_bipush (x := -2) X dX4_whyOne_50 (by decide) ?_
      refine a_icmp_ne (tgt := 60) X dX4_whyOne_52 (by decide) hm (fun c54 hm => ?_) (fun c54 hm => ?_)
      · refine a_iload X dX4_whyOne_60 rfl ?_
        refine a_iconst (x := -1) X dX4_whyOne_62 (by decide) ?_
        refine a_icmp_ne (tgt := 70) X dX4_whyOne_63 (by decide) hm (fun c55 hm => ?_) (fun c55 hm => ?_)
        · refine a_bipush (x := 7) X dX4_whyOne_70 (by decide) ?_
          exact a_iret X hF ⟨rfl, rfl, Option.some.inj hm⟩ (by decide) dX4_whyOne_72
        · refine a_iconst (x := 0) X dX4_whyOne_66 (by decide) ?_
          refine a_goto (tgt := 72) X dX4_whyOne_67 (by decide) ?_
          exact a_iret X hF ⟨rfl, rfl, Option.some.inj hm⟩ (by decide) dX4_whyOne_72
      · refine a_bipush (x := 6) X dX4_whyOne_55 (by decide) ?_
        refine a_goto (tgt := 72) X dX4_whyOne_57 (by decide) ?_
        exact a_iret X hF ⟨rfl, rfl, Option.some.inj hm⟩ (by decide) dX4_whyOne_72
  · refine a_aload_n X dX4_whyOne_21 rfl ?_
    refine a_mgetA X hMR 28 (by decide) rfl rfl fl_X4_90 dX4_whyOne_22 ?_
    refine a_iload_n X dX4_whyOne_25 rfl ?_
    obtain ⟨b56, hm⟩ := i_c hm
    refine a_maldI X hMR 28 (by decide) rfl rfl rfl b56 dX4_whyOne_26 ?_
    refine a_if_le (tgt := 34) X dX4_whyOne_27 (by decide) hm (fun c57 hm => ?_) (fun c57 hm => ?_)
    · refine a_iconst (x := 2) X dX4_whyOne_34 (by decide) ?_
      exact a_iret X hF ⟨rfl, rfl, Option.some.inj hm⟩ (by decide) dX4_whyOne_35
    · refine a_iconst (x := 0) X dX4_whyOne_30 (by decide) ?_
      refine a_goto (tgt := 35) X dX4_whyOne_31 (by decide) ?_
      exact a_iret X hF ⟨rfl, rfl, Option.some.inj hm⟩ (by decide) dX4_whyOne_35
theorem c_X4_whyOne {l : Launch} {g : Gvx} {h : Hpx} {M : Msx} {r : Int32} {x1 : Int32} (hMR : MR_ h) (hm : f_X4_whyOne M x1 = some r) : Mt_ l g yX4_whyOne cX4_whyOne 6 ((some .int)) rm_X4_whyOne [v_R (some 5), v_I x1] h M (some (v_I r)) h M := mt_of (by decide) (Nat.le_of_ble_eq_true rfl) (fun v _ X hF => q_X4_whyOne_0 X hMR M hF x1 hm)
theorem yv_X4_whyOne : Yv_ yX4_whyOne cX4_whyOne 6 ((some .int)) 1 4 := ⟨rfl, by decide, ⟨by decide, by decide, by decide +kernel⟩, co_X4_whyOne, im_X4_whyOne, se_X4_whyOne, ini_X4⟩

abbrev rm_X4_why : Room := { frames := 6, cells := 0, slots := 0, locals := 139 }
def f_X4_why (M : Msx) (x1 : Int32) : Option (Int32) :=
  (if (m_I M 34 0) = 0 then
  some (-2 : Int32)
  else (f_X4_isReader M x1).bind fun r23 =>
  (if r23 = 0 then
  some (-1 : Int32)
  else (f_X4_whyOne M x1).bind fun r26 =>
  some r26))
set_option maxHeartbeats 4000000 in
theorem q_X4_why_0 {v : Evx} {g : Gvx} {h : Hpx} {r : Int32} (X : Cx_ v g cX4_why 2 RX4 "why" ((some .int)) rm_X4_why) (hMR : MR_ h) (M : Msx) (hF : Fi_ v g rm_X4_why (some (v_I r)) h M) (x1 : Int32) (hm : f_X4_why M x1 = some r) : At_ v g 2 h M 0 0 0 [(0, v_R (some 5)), (1, v_I x1)] [] := by
  unfold f_X4_why at hm
  refine a_aload_n X dX4_why_0 rfl ?_
  refine a_mgetI X hMR 34 (by decide) rfl fl_X4_135 dX4_why_1 ?_
  refine a_if_ne (tgt := 10) X dX4_why_4 (by decide) hm (fun c21 hm => ?_) (fun c21 hm => ?_)
  · refine a_aload_n X dX4_why_10 rfl ?_
    refine a_iload_n X dX4_why_11 rfl ?_
    obtain ⟨r23, q22, hm⟩ := i_b hm
    refine a_callV (k' := 0) (n' := 0) (st := []) X (c_X4_isReader hMR q22) yv_X4_isReader ml_X4_146 rfl (Or.inr (mr5_ hMR)) ⟨by decide, by decide, by decide, by decide, Nat.le_of_ble_eq_true rfl⟩ rfl rfl dX4_why_12 rfl rfl ?_
    show At_ v g 2 h M 0 0 15 [(0, v_R (some 5)), (1, v_I x1)] [v_I r23]
    refine a_if_eq (tgt := 26) X dX4_why_15 (by decide) hm (fun c24 hm => ?_) (fun c24 hm => ?_)
    · refine a_iconst (x := -1) X dX4_why_26 (by decide) ?_
      exact a_iret X hF ⟨rfl, rfl, Option.some.inj hm⟩ (by decide) dX4_why_27
    · refine a_aload_n X dX4_why_18 rfl ?_
      refine a_iload_n X dX4_why_19 rfl ?_
      obtain ⟨r26, q25, hm⟩ := i_b hm
      refine a_callV (k' := 0) (n' := 0) (st := []) X (c_X4_whyOne hMR q25) yv_X4_whyOne ml_X4_240 rfl (Or.inr (mr5_ hMR)) ⟨by decide, by decide, by decide, by decide, Nat.le_of_ble_eq_true rfl⟩ rfl rfl dX4_why_20 rfl rfl ?_
      show At_ v g 2 h M 0 0 23 [(0, v_R (some 5)), (1, v_I x1)] [v_I r26]
      refine a_goto (tgt := 27) X dX4_why_23 (by decide) ?_
      exact a_iret X hF ⟨rfl, rfl, Option.some.inj hm⟩ (by decide) dX4_why_27
  · refine a_bipush (x := -2) X dX4_why_7 (by decide) ?_
    exact a_iret X hF ⟨rfl, rfl, Option.some.inj hm⟩ (by decide) dX4_why_9
theorem c_X4_why {l : Launch} {g : Gvx} {h : Hpx} {M : Msx} {r : Int32} {x1 : Int32} (hMR : MR_ h) (hm : f_X4_why M x1 = some r) : Mt_ l g yX4_why cX4_why 2 ((some .int)) rm_X4_why [v_R (some 5), v_I x1] h M (some (v_I r)) h M := mt_of (by decide) (Nat.le_of_ble_eq_true rfl) (fun v _ X hF => q_X4_why_0 X hMR M hF x1 hm)
theorem yv_X4_why : Yv_ yX4_why cX4_why 2 ((some .int)) 1 4 := ⟨rfl, by decide, ⟨by decide, by decide, by decide +kernel⟩, co_X4_why, im_X4_why, se_X4_why, ini_X4⟩

abbrev rm_X4_on : Room := { frames := 7, cells := 0, slots := 0, locals := 160 }
def f_X4_on (M : Msx) (x1 : Int32) : Option (Int32) :=
  (f_X4_why M x1).bind fun r22 =>
  (if r22 = 3 then
  (f_X4_from M x1).bind fun r34 =>
  some r34
  else (if r22 = 4 then
  (f_X4_behind M x1).bind fun r32 =>
  some r32
  else (if r22 = 5 then
  (if in_b x1 16 = true then
  some (m_I M 17 x1.toNatClampNeg) else none)
  else (if r22 = 6 then
  some (-1 : Int32)
  else (if r22 = 7 then
  (f_X4_lacking M x1).bind fun r29 =>
  some r29
  else some (-1 : Int32))))))
set_option maxHeartbeats 4000000 in
theorem q_X4_on_0 {v : Evx} {g : Gvx} {h : Hpx} {r : Int32} (X : Cx_ v g cX4_on 2 RX4 "on" ((some .int)) rm_X4_on) (hMR : MR_ h) (M : Msx) (hF : Fi_ v g rm_X4_on (some (v_I r)) h M) (x1 : Int32) (hm : f_X4_on M x1 = some r) : At_ v g 2 h M 0 0 0 [(0, v_R (some 5)), (1, v_I x1)] [] := by
  unfold f_X4_on at hm
  refine a_aload_n X dX4_on_0 rfl ?_
  refine a_iload_n X dX4_on_1 rfl ?_
  obtain ⟨r22, q21, hm⟩ := i_b hm
  refine a_callV (k' := 0) (n' := 0) (st := []) X (c_X4_why hMR q21) yv_X4_why ml_X4_243 rfl (Or.inr (mr5_ hMR)) ⟨by decide, by decide, by decide, by decide, Nat.le_of_ble_eq_true rfl⟩ rfl rfl dX4_on_2 rfl rfl ?_
  show At_ v g 2 h M 0 0 5 [(0, v_R (some 5)), (1, v_I x1)] [v_I r22]
  by_cases c23 : r22 = 3
  · have hm := i_p hm c23
    refine a_tsIn (c := 3) (off := 35) (tgt := 40) X dX4_on_5 c23 (by decide) (by decide) rfl (by decide) ?_
    refine a_aload_n X dX4_on_40 rfl ?_
    refine a_iload_n X dX4_on_41 rfl ?_
    obtain ⟨r34, q33, hm⟩ := i_b hm
    refine a_callV (k' := 0) (n' := 0) (st := []) X (c_X4_from hMR q33) yv_X4_from ml_X4_234 rfl (Or.inr (mr5_ hMR)) ⟨by decide, by decide, by decide, by decide, Nat.le_of_ble_eq_true rfl⟩ rfl rfl dX4_on_42 rfl rfl ?_
    show At_ v g 2 h M 0 0 45 [(0, v_R (some 5)), (1, v_I x1)] [v_I r34]
    exact a_iret X hF ⟨rfl, rfl, Option.some.inj hm⟩ (by decide) dX4_on_45
  · have hm := i_n hm c23
    by_cases c24 : r22 = 4
    · have hm := i_p hm c24
      refine a_tsIn (c := 4) (off := 41) (tgt := 46) X dX4_on_5 c24 (by decide) (by decide) rfl (by decide) ?_
      refine a_aload_n X dX4_on_46 rfl ?_
      refine a_iload_n X dX4_on_47 rfl ?_
      obtain ⟨r32, q31, hm⟩ := i_b hm
      refine a_callV (k' := 0) (n' := 0) (st := []) X (c_X4_behind hMR q31) yv_X4_behind ml_X4_237 rfl (Or.inr (mr5_ hMR)) ⟨by decide, by decide, by decide, by decide, Nat.le_of_ble_eq_true rfl⟩ rfl rfl dX4_on_48 rfl rfl ?_
      show At_ v g 2 h M 0 0 51 [(0, v_R (some 5)), (1, v_I x1)] [v_I r32]
      exact a_iret X hF ⟨rfl, rfl, Option.some.inj hm⟩ (by decide) dX4_on_51
    · have hm := i_n hm c24
      by_cases c25 : r22 = 5
      · have hm := i_p hm c25
        refine a_tsIn (c := 5) (off := 47) (tgt := 52) X dX4_on_5 c25 (by decide) (by decide) rfl (by decide) ?_
        refine a_aload_n X dX4_on_52 rfl ?_
        refine a_mgetA X hMR 17 (by decide) rfl rfl fl_X4_57 dX4_on_53 ?_
        refine a_iload_n X dX4_on_56 rfl ?_
        obtain ⟨b30, hm⟩ := i_c hm
        refine a_maldI X hMR 17 (by decide) rfl rfl rfl b30 dX4_on_57 ?_
        exact a_iret X hF ⟨rfl, rfl, Option.some.inj hm⟩ (by decide) dX4_on_58
      · have hm := i_n hm c25
        by_cases c26 : r22 = 6
        · have hm := i_p hm c26
          refine a_tsIn (c := 6) (off := 60) (tgt := 65) X dX4_on_5 c26 (by decide) (by decide) rfl (by decide) ?_
          refine a_iconst (x := -1) X dX4_on_65 (by decide) ?_
          exact a_iret X hF ⟨rfl, rfl, Option.some.inj hm⟩ (by decide) dX4_on_66
        · have hm := i_n hm c26
          by_cases c27 : r22 = 7
          · have hm := i_p hm c27
            refine a_tsIn (c := 7) (off := 54) (tgt := 59) X dX4_on_5 c27 (by decide) (by decide) rfl (by decide) ?_
            refine a_aload_n X dX4_on_59 rfl ?_
            refine a_iload_n X dX4_on_60 rfl ?_
            obtain ⟨r29, q28, hm⟩ := i_b hm
            refine a_callV (k' := 0) (n' := 0) (st := []) X (c_X4_lacking hMR q28) yv_X4_lacking ml_X4_228 rfl (Or.inr (mr5_ hMR)) ⟨by decide, by decide, by decide, by decide, Nat.le_of_ble_eq_true rfl⟩ rfl rfl dX4_on_61 rfl rfl ?_
            show At_ v g 2 h M 0 0 64 [(0, v_R (some 5)), (1, v_I x1)] [v_I r29]
            exact a_iret X hF ⟨rfl, rfl, Option.some.inj hm⟩ (by decide) dX4_on_64
          · have hm := i_n hm c27
            have wc23 : ¬ (r22).toInt = 3 := lv_neT c23 rfl
            have wc24 : ¬ (r22).toInt = 4 := lv_neT c24 rfl
            have wc25 : ¬ (r22).toInt = 5 := lv_neT c25 rfl
            have wc26 : ¬ (r22).toInt = 6 := lv_neT c26 rfl
            have wc27 : ¬ (r22).toInt = 7 := lv_neT c27 rfl
            refine a_tsOut (tgt := 65) X dX4_on_5 (by omega) (by decide) ?_
            refine a_iconst (x := -1) X dX4_on_65 (by decide) ?_
            exact a_iret X hF ⟨rfl, rfl, Option.some.inj hm⟩ (by decide) dX4_on_66
theorem c_X4_on {l : Launch} {g : Gvx} {h : Hpx} {M : Msx} {r : Int32} {x1 : Int32} (hMR : MR_ h) (hm : f_X4_on M x1 = some r) : Mt_ l g yX4_on cX4_on 2 ((some .int)) rm_X4_on [v_R (some 5), v_I x1] h M (some (v_I r)) h M := mt_of (by decide) (Nat.le_of_ble_eq_true rfl) (fun v _ X hF => q_X4_on_0 X hMR M hF x1 hm)
theorem yv_X4_on : Yv_ yX4_on cX4_on 2 ((some .int)) 1 4 := ⟨rfl, by decide, ⟨by decide, by decide, by decide +kernel⟩, co_X4_on, im_X4_on, se_X4_on, ini_X4⟩
