section LWR2
variable {v : Evx} {g : Gvx} {cc : ByteArray} {nL : Nat} {own nm : String} {rt : Option FieldType} {rm : Room} {h : Hpx} {M : Msx} {k n pc : Nat} {lv lv' : List (Nat × Vlx)} {st : List Vlx}
theorem a_gtT (X : Cx_ v g cc nL own nm rt rm) {x y : Int32} {off : Int} {tgt : Nat} (hc : y < x) (hd : decode cc pc = .ok (.if_icmp .gt off, 3)) (ht : (pc : Int) + off = (tgt : Int)) (kk : At_ v g nL h M k n tgt lv st) : At_ v g nL h M k n pc lv (v_I y :: v_I x :: st) := fun H locs ls w hl => lv_icmp_gt X.1 X.2.1 hd ht (fun _ => kk H locs ls w hl) (fun c => absurd hc c)
theorem a_gtF (X : Cx_ v g cc nL own nm rt rm) {x y : Int32} {off : Int} {tgt : Nat} (hc : ¬ y < x) (ht : (pc : Int) + off = (tgt : Int)) (hd : decode cc pc = .ok (.if_icmp .gt off, 3)) (kk : At_ v g nL h M k n (pc + 3) lv st) : At_ v g nL h M k n pc lv (v_I y :: v_I x :: st) := fun H locs ls w hl => lv_icmp_gt X.1 X.2.1 hd ht (fun c => absurd c hc) (fun _ => kk H locs ls w hl)
end LWR2
def Oks_ (Inv : Nat → Hpx → Msx → Prop) : Prop := Ok_ring Inv ∧ Ok_reader Inv ∧ Ok_join Inv ∧ Ok_name Inv ∧ Ok_circle Inv ∧ Ok_begin Inv ∧ Ok_made Inv ∧ Ok_claim Inv ∧ Ok_batch Inv ∧ Ok_by Inv ∧ Ok_again Inv ∧ Ok_fill Inv ∧ Ok_copy Inv ∧ Ok_publish Inv ∧ Ok_close Inv ∧ Ok_give Inv ∧ Ok_told Inv ∧ Ok_last Inv ∧ Ok_read Inv ∧ Ok_round Inv ∧ Ok_got Inv ∧ Ok_word Inv ∧ Ok_of Inv ∧ Ok_place Inv ∧ Ok_named Inv ∧ Ok_entry Inv ∧ Ok_target Inv ∧ Ok_why Inv ∧ Ok_on Inv ∧ Ok_stuck Inv ∧ Ok_found Inv
theorem sub6 {L : Nat} (hL : L ≤ 3072) : (nI L - 6).toInt = (L : Int) - 6 := by
  have := pk_sub_toInt (a := L) (b := 6) (by omega) (by omega)
  exact this
set_option maxHeartbeats 4000000 in
theorem lw_loop {nm : String} {v : Evx} {g : Gvx} {Inv : Nat → Hpx → Msx → Prop} {b L : Nat} {xs : Nat → Int32} (X : Cx_ v g code 4 RL nm ret room_1) (hX : va_X b L xs (e_s v) (e_s v).heap) (hbl : b < (e_s v).heap.size) (hba : ¬ g.2.2 ≤ b) (hL2 : L ≤ 3072) (hI0 : ∀ n h M, Inv n h M → MR_ h ∧ h_k h 0 = 4) (hmo : ∀ n h M, Inv n h M → Inv (n + 1) h M) (oks : Oks_ Inv) (hQ : ∀ (h : Hpx) (M : Msx) (k n : Nat), k ≤ 1196082 → n ≤ 5514002 → At_ v g 4 h M k n 1165 [] [v_I 1]) : ∀ (m t : Nat) (h : Hpx) (M : Msx) (k n : Nat), L + 6 ≤ 6 * t + 6 * m → 6 * t ≤ L → Inv t h M → k + 146 * (513 - t) ≤ 1196082 → n + 1124 * (513 - t) ≤ 5514002 → At_ v g 4 h M k n 18 [(0, v_X b), (1, v_R (some 0)), (2, v_R (some 5)), (3, v_I (nI (6 * t)))] [] := by
  obtain ⟨o_ring, o_reader, o_join, o_name, o_circle, o_begin, o_made, o_claim, o_batch, o_by, o_again, o_fill, o_copy, o_publish, o_close, o_give, o_told, o_last, o_read, o_round, o_got, o_word, o_of, o_place, o_named, o_entry, o_target, o_why, o_on, o_stuck, o_found⟩ := oks
  intro m
  induction m with
  | zero => intro t h M k n h1 h2; omega
  | succ m ih =>
    intro t h M k n h1 h2 I hk hn
    refine a_iload_n X dL_law_18 rfl ?_
    refine a_xload_n X dL_law_19 rfl ?_
    refine a_slen X hX hbl hba dL_law_20 ?_
    refine a_bipush (x := 6) X dL_law_21 (by decide) ?_
    refine a_isub X dL_law_23 ?_
    have e6 := sub6 hL2
    by_cases hc : nI L - 6 < nI (6 * t)
    · refine a_gtT (tgt := 1164) X hc dL_law_24 (by decide) ?_
      refine a_iconst (x := 1) X dL_law_1164 (by decide) ?_
      exact a_pick (lv' := []) [] rfl (hQ h M k n (by omega) (by omega))
    · refine a_gtF (tgt := 1164) X hc (by decide) dL_law_24 ?_
      have hlt : 6 * t + 6 ≤ L := by
        have := Int32.not_lt.mp hc
        rw [Int32.le_iff_toInt_le, e6, nI_toInt (by omega)] at this
        omega
      refine a_xload_n X dL_law_27 rfl ?_
      refine a_iload_n X dL_law_28 rfl ?_
      refine a_sld (jn := 6 * t) X hX hbl hba (by omega) rfl (by omega) dL_law_29 ?_
      refine a_bipush (x := 31) X dL_law_30 (by decide) ?_
      refine a_iand X dL_law_32 ?_
      have kk : ∀ (h' : Hpx) (M' : Msx) (k' n' : Nat), k' ≤ k + 146 → n' ≤ n + 1124 → Inv (t + 1) h' M' → At_ v g 4 h' M' k' n' 1158 [(0, v_X b), (1, v_R (some 0)), (2, v_R (some 5)), (3, v_I (nI (6 * t)))] [] := by
        intro h' M' k' n' hk' hn' I'
        refine a_iinc (y := nI (6 * t) + 6) (lv' := [(0, v_X b), (1, v_R (some 0)), (2, v_R (some 5)), (3, v_I (nI (6 * t) + 6))]) X dL_law_1158 rfl rfl (by decide) rfl ?_
        refine a_goto (tgt := 18) X dL_law_1161 (by decide) ?_
        have e : nI (6 * t) + 6 = nI (6 * (t + 1)) := nI_add (6 * t) 6
        rw [e]
        exact ih (t + 1) h' M' k' n' (by omega) (by omega) I' (by omega) (by omega)
      obtain ⟨j, hj, ej⟩ := pk_andE (xs (6 * t)) (m := 31) 5 (by decide)
      rw [ej]
      have hkn : k + 146 ≤ 1196082 ∧ n + 1124 ≤ 5514002 := by omega
      clear ih hk hn h1 h2 e6 hc ej
      rcases Nat.lt_or_ge j 1 with hj0 | hj0
      · obtain rfl : j = 0 := by omega
        exact a_tsIn (c := 0) (off := 139) (tgt := 172) X dL_law_33 rfl (by decide) (by decide) rfl (by decide) (lc_ring X hX hbl hba hlt hL2 hI0 I hkn o_ring kk)
      rcases Nat.lt_or_ge j 2 with hj1 | hj1
      · obtain rfl : j = 1 := by omega
        exact a_tsIn (c := 1) (off := 162) (tgt := 195) X dL_law_33 rfl (by decide) (by decide) rfl (by decide) (lc_reader X hX hbl hba hlt hL2 hI0 I hkn o_reader kk)
      rcases Nat.lt_or_ge j 3 with hj2 | hj2
      · obtain rfl : j = 2 := by omega
        exact a_tsIn (c := 2) (off := 205) (tgt := 238) X dL_law_33 rfl (by decide) (by decide) rfl (by decide) (lc_join X hX hbl hba hlt hL2 hI0 I hkn o_join kk)
      rcases Nat.lt_or_ge j 4 with hj3 | hj3
      · obtain rfl : j = 3 := by omega
        exact a_tsIn (c := 3) (off := 238) (tgt := 271) X dL_law_33 rfl (by decide) (by decide) rfl (by decide) (lc_name X hX hbl hba hlt hL2 hI0 I hkn o_name kk)
      rcases Nat.lt_or_ge j 5 with hj4 | hj4
      · obtain rfl : j = 4 := by omega
        exact a_tsIn (c := 4) (off := 271) (tgt := 304) X dL_law_33 rfl (by decide) (by decide) rfl (by decide) (lc_circle X hX hbl hba hlt hL2 hI0 I hkn o_circle kk)
      rcases Nat.lt_or_ge j 6 with hj5 | hj5
      · obtain rfl : j = 5 := by omega
        exact a_tsIn (c := 5) (off := 294) (tgt := 327) X dL_law_33 rfl (by decide) (by decide) rfl (by decide) (lc_begin X hX hbl hba hlt hL2 hI0 I hkn o_begin kk)
      rcases Nat.lt_or_ge j 7 with hj6 | hj6
      · obtain rfl : j = 6 := by omega
        exact a_tsIn (c := 6) (off := 307) (tgt := 340) X dL_law_33 rfl (by decide) (by decide) rfl (by decide) (lc_made X hX hbl hba hlt hL2 hI0 I hkn o_made kk)
      rcases Nat.lt_or_ge j 8 with hj7 | hj7
      · obtain rfl : j = 7 := by omega
        exact a_tsIn (c := 7) (off := 320) (tgt := 353) X dL_law_33 rfl (by decide) (by decide) rfl (by decide) (lc_claim X hX hbl hba hlt hL2 hI0 I hkn o_claim kk)
      rcases Nat.lt_or_ge j 9 with hj8 | hj8
      · obtain rfl : j = 8 := by omega
        exact a_tsIn (c := 8) (off := 383) (tgt := 416) X dL_law_33 rfl (by decide) (by decide) rfl (by decide) (lc_batch X hX hbl hba hlt hL2 hI0 I hkn o_batch kk)
      rcases Nat.lt_or_ge j 10 with hj9 | hj9
      · obtain rfl : j = 9 := by omega
        exact a_tsIn (c := 9) (off := 456) (tgt := 489) X dL_law_33 rfl (by decide) (by decide) rfl (by decide) (lc_by X hX hbl hba hlt hL2 hI0 I hkn o_by kk)
      rcases Nat.lt_or_ge j 11 with hj10 | hj10
      · obtain rfl : j = 10 := by omega
        exact a_tsIn (c := 10) (off := 469) (tgt := 502) X dL_law_33 rfl (by decide) (by decide) rfl (by decide) (lc_again X hX hbl hba hlt hL2 hI0 I hkn o_again kk)
      rcases Nat.lt_or_ge j 12 with hj11 | hj11
      · obtain rfl : j = 11 := by omega
        exact a_tsIn (c := 11) (off := 482) (tgt := 515) X dL_law_33 rfl (by decide) (by decide) rfl (by decide) (lc_fill X hX hbl hba hlt hL2 hI0 I hkn o_fill kk)
      rcases Nat.lt_or_ge j 13 with hj12 | hj12
      · obtain rfl : j = 12 := by omega
        exact a_tsIn (c := 12) (off := 565) (tgt := 598) X dL_law_33 rfl (by decide) (by decide) rfl (by decide) (lc_copy X hX hbl hba hlt hL2 hI0 I hkn o_copy kk)
      rcases Nat.lt_or_ge j 14 with hj13 | hj13
      · obtain rfl : j = 13 := by omega
        exact a_tsIn (c := 13) (off := 628) (tgt := 661) X dL_law_33 rfl (by decide) (by decide) rfl (by decide) (lc_publish X hX hbl hba hlt hL2 hI0 I hkn o_publish kk)
      rcases Nat.lt_or_ge j 15 with hj14 | hj14
      · obtain rfl : j = 14 := by omega
        exact a_tsIn (c := 14) (off := 681) (tgt := 714) X dL_law_33 rfl (by decide) (by decide) rfl (by decide) (lc_close X hX hbl hba hlt hL2 hI0 I hkn o_close kk)
      rcases Nat.lt_or_ge j 16 with hj15 | hj15
      · obtain rfl : j = 15 := by omega
        exact a_tsIn (c := 15) (off := 704) (tgt := 737) X dL_law_33 rfl (by decide) (by decide) rfl (by decide) (lc_give X hX hbl hba hlt hL2 hI0 I hkn o_give kk)
      rcases Nat.lt_or_ge j 17 with hj16 | hj16
      · obtain rfl : j = 16 := by omega
        exact a_tsIn (c := 16) (off := 727) (tgt := 760) X dL_law_33 rfl (by decide) (by decide) rfl (by decide) (lc_told X hX hbl hba hlt hL2 hI0 I hkn o_told kk)
      rcases Nat.lt_or_ge j 18 with hj17 | hj17
      · obtain rfl : j = 17 := by omega
        exact a_tsIn (c := 17) (off := 760) (tgt := 793) X dL_law_33 rfl (by decide) (by decide) rfl (by decide) (lc_last X hX hbl hba hlt hL2 hI0 I hkn o_last kk)
      rcases Nat.lt_or_ge j 19 with hj18 | hj18
      · obtain rfl : j = 18 := by omega
        exact a_tsIn (c := 18) (off := 784) (tgt := 817) X dL_law_33 rfl (by decide) (by decide) rfl (by decide) (lc_read X hX hbl hba hlt hL2 hI0 I hkn o_read kk)
      rcases Nat.lt_or_ge j 20 with hj19 | hj19
      · obtain rfl : j = 19 := by omega
        exact a_tsIn (c := 19) (off := 807) (tgt := 840) X dL_law_33 rfl (by decide) (by decide) rfl (by decide) (lc_round X hX hbl hba hlt hL2 hI0 I hkn o_round kk)
      rcases Nat.lt_or_ge j 21 with hj20 | hj20
      · obtain rfl : j = 20 := by omega
        exact a_tsIn (c := 20) (off := 820) (tgt := 853) X dL_law_33 rfl (by decide) (by decide) rfl (by decide) (lc_got X hX hbl hba hlt hL2 hI0 I hkn o_got kk)
      rcases Nat.lt_or_ge j 22 with hj21 | hj21
      · obtain rfl : j = 21 := by omega
        exact a_tsIn (c := 21) (off := 854) (tgt := 887) X dL_law_33 rfl (by decide) (by decide) rfl (by decide) (lc_word X hX hbl hba hlt hL2 hI0 I hkn o_word kk)
      rcases Nat.lt_or_ge j 23 with hj22 | hj22
      · obtain rfl : j = 22 := by omega
        exact a_tsIn (c := 22) (off := 888) (tgt := 921) X dL_law_33 rfl (by decide) (by decide) rfl (by decide) (lc_of X hX hbl hba hlt hL2 hI0 I hkn o_of kk)
      rcases Nat.lt_or_ge j 24 with hj23 | hj23
      · obtain rfl : j = 23 := by omega
        exact a_tsIn (c := 23) (off := 921) (tgt := 954) X dL_law_33 rfl (by decide) (by decide) rfl (by decide) (lc_place X hX hbl hba hlt hL2 hI0 I hkn o_place kk)
      rcases Nat.lt_or_ge j 25 with hj24 | hj24
      · obtain rfl : j = 24 := by omega
        exact a_tsIn (c := 24) (off := 954) (tgt := 987) X dL_law_33 rfl (by decide) (by decide) rfl (by decide) (lc_named X hX hbl hba hlt hL2 hI0 I hkn o_named kk)
      rcases Nat.lt_or_ge j 26 with hj25 | hj25
      · obtain rfl : j = 25 := by omega
        exact a_tsIn (c := 25) (off := 987) (tgt := 1020) X dL_law_33 rfl (by decide) (by decide) rfl (by decide) (lc_entry X hX hbl hba hlt hL2 hI0 I hkn o_entry kk)
      rcases Nat.lt_or_ge j 27 with hj26 | hj26
      · obtain rfl : j = 26 := by omega
        exact a_tsIn (c := 26) (off := 1020) (tgt := 1053) X dL_law_33 rfl (by decide) (by decide) rfl (by decide) (lc_target X hX hbl hba hlt hL2 hI0 I hkn o_target kk)
      rcases Nat.lt_or_ge j 28 with hj27 | hj27
      · obtain rfl : j = 27 := by omega
        exact a_tsIn (c := 27) (off := 1043) (tgt := 1076) X dL_law_33 rfl (by decide) (by decide) rfl (by decide) (lc_why X hX hbl hba hlt hL2 hI0 I hkn o_why kk)
      rcases Nat.lt_or_ge j 29 with hj28 | hj28
      · obtain rfl : j = 28 := by omega
        exact a_tsIn (c := 28) (off := 1066) (tgt := 1099) X dL_law_33 rfl (by decide) (by decide) rfl (by decide) (lc_on X hX hbl hba hlt hL2 hI0 I hkn o_on kk)
      rcases Nat.lt_or_ge j 30 with hj29 | hj29
      · obtain rfl : j = 29 := by omega
        exact a_tsIn (c := 29) (off := 1089) (tgt := 1122) X dL_law_33 rfl (by decide) (by decide) rfl (by decide) (lc_stuck X hX hbl hba hlt hL2 hI0 I hkn o_stuck kk)
      rcases Nat.lt_or_ge j 31 with hj30 | hj30
      · obtain rfl : j = 30 := by omega
        exact a_tsIn (c := 30) (off := 1102) (tgt := 1135) X dL_law_33 rfl (by decide) (by decide) rfl (by decide) (lc_found X hX hbl hba hlt hL2 hI0 I hkn o_found kk)
      obtain rfl : j = 31 := by omega
      exact a_tsOut (tgt := 1158) X dL_law_33 (by decide) (by decide) (kk h M k n (by omega) (by omega) (hmo _ _ _ I))
