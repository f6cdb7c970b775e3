theorem u_J7_fill_d0a16_6 (n : Nat) : l_J7_fill_d0a16_6 (n + 1) = j_J7_fill_d0a16_6 (l_J7_fill_d0a16_6 n) := rfl
theorem u_J7_fill_53178_5 (n : Nat) : l_J7_fill_53178_5 (n + 1) = j_J7_fill_53178_5 (l_J7_fill_53178_5 n) := rfl
theorem u_X1_init_74 (a0 : Nat) (n : Nat) : l_X1_init_74 a0 (n + 1) = j_X1_init_74 a0 (l_X1_init_74 a0 n) := rfl
theorem u_X1_foldIn_2 (a0 : Nat) (n : Nat) : l_X1_foldIn_2 a0 (n + 1) = j_X1_foldIn_2 a0 (l_X1_foldIn_2 a0 n) := rfl
theorem u_X1_takeEntry_31 (a0 : Nat) (n : Nat) : l_X1_takeEntry_31 a0 (n + 1) = j_X1_takeEntry_31 a0 (l_X1_takeEntry_31 a0 n) := rfl
theorem u_X2_init_24 (a0 : Nat) (n : Nat) : l_X2_init_24 a0 (n + 1) = j_X2_init_24 a0 (l_X2_init_24 a0 n) := rfl
theorem u_X2_countOpen_4 (h : Hpx) (a0 : Nat) (n : Nat) : l_X2_countOpen_4 h a0 (n + 1) = j_X2_countOpen_4 h a0 (l_X2_countOpen_4 h a0 n) := rfl
theorem u_X2_newestPublished_2 (h : Hpx) (a0 : Nat) (n : Nat) : l_X2_newestPublished_2 h a0 (n + 1) = j_X2_newestPublished_2 h a0 (l_X2_newestPublished_2 h a0 n) := rfl
theorem u_X3_namesOfAll_4 (h : Hpx) (a0 : Nat) (n : Nat) : l_X3_namesOfAll_4 h a0 (n + 1) = j_X3_namesOfAll_4 h a0 (l_X3_namesOfAll_4 h a0 n) := rfl
theorem u_X3_leadsTo_11 (h : Hpx) (a0 : Nat) (n : Nat) : l_X3_leadsTo_11 h a0 (n + 1) = j_X3_leadsTo_11 h a0 (l_X3_leadsTo_11 h a0 n) := rfl
theorem u_X3_leastTowards_21 (h : Hpx) (a0 : Nat) (n : Nat) : l_X3_leastTowards_21 h a0 (n + 1) = j_X3_leastTowards_21 h a0 (l_X3_leastTowards_21 h a0 n) := rfl
theorem u_X3_keepCircle_29 (a0 : Nat) (n : Nat) : l_X3_keepCircle_29 a0 (n + 1) = j_X3_keepCircle_29 a0 (l_X3_keepCircle_29 a0 n) := rfl
theorem u_X3_holderUpTo_2 (h : Hpx) (a0 : Nat) (n : Nat) : l_X3_holderUpTo_2 h a0 (n + 1) = j_X3_holderUpTo_2 h a0 (l_X3_holderUpTo_2 h a0 n) := rfl
theorem u_X3_refusalOfClaims_73 (a0 : Nat) (n : Nat) : l_X3_refusalOfClaims_73 a0 (n + 1) = j_X3_refusalOfClaims_73 a0 (l_X3_refusalOfClaims_73 a0 n) := rfl
theorem u_X3_claimSome_37 (a0 : Nat) (n : Nat) : l_X3_claimSome_37 a0 (n + 1) = j_X3_claimSome_37 a0 (l_X3_claimSome_37 a0 n) := rfl
theorem u_X3_publishSlot_18 (a0 : Nat) (n : Nat) : l_X3_publishSlot_18 a0 (n + 1) = j_X3_publishSlot_18 a0 (l_X3_publishSlot_18 a0 n) := rfl
theorem u_X3_countHolders_4 (h : Hpx) (a0 : Nat) (n : Nat) : l_X3_countHolders_4 h a0 (n + 1) = j_X3_countHolders_4 h a0 (l_X3_countHolders_4 h a0 n) := rfl
theorem u_X3_leastHolderPlace_4 (h : Hpx) (a0 : Nat) (n : Nat) : l_X3_leastHolderPlace_4 h a0 (n + 1) = j_X3_leastHolderPlace_4 h a0 (l_X3_leastHolderPlace_4 h a0 n) := rfl
theorem u_X3_leastNamedBehind_10 (h : Hpx) (a0 : Nat) (n : Nat) : l_X3_leastNamedBehind_10 h a0 (n + 1) = j_X3_leastNamedBehind_10 h a0 (l_X3_leastNamedBehind_10 h a0 n) := rfl
theorem u_X3_leastLackingRing_2 (h : Hpx) (a0 : Nat) (n : Nat) : l_X3_leastLackingRing_2 h a0 (n + 1) = j_X3_leastLackingRing_2 h a0 (l_X3_leastLackingRing_2 h a0 n) := rfl
theorem u_X3_ringOfLeastStamp_7 (h : Hpx) (a0 : Nat) (n : Nat) : l_X3_ringOfLeastStamp_7 h a0 (n + 1) = j_X3_ringOfLeastStamp_7 h a0 (l_X3_ringOfLeastStamp_7 h a0 n) := rfl
theorem u_X3_round_14 (a0 : Nat) (n : Nat) : l_X3_round_14 a0 (n + 1) = j_X3_round_14 a0 (l_X3_round_14 a0 n) := rfl
theorem u_X3_isAnyReady_2 (h : Hpx) (a0 : Nat) (n : Nat) : l_X3_isAnyReady_2 h a0 (n + 1) = j_X3_isAnyReady_2 h a0 (l_X3_isAnyReady_2 h a0 n) := rfl
theorem u_X3_stuck_20 (h : Hpx) (a0 : Nat) (n : Nat) : l_X3_stuck_20 h a0 (n + 1) = j_X3_stuck_20 h a0 (l_X3_stuck_20 h a0 n) := rfl
theorem u_X4_index_25 (M : Msx) (n : Nat) : l_X4_index_25 M (n + 1) = j_X4_index_25 M (l_X4_index_25 M n) := rfl
theorem u_X4_doesName_5 (M : Msx) (n : Nat) : l_X4_doesName_5 M (n + 1) = j_X4_doesName_5 M (l_X4_doesName_5 M n) := rfl
theorem u_X4_reach_42 (rec_23 : Msx → Int32 → Int32 → Option (Msx)) (rec_31 : Msx → Int32 → Int32 → Int32 → Option (Msx)) (n : Nat) : l_X4_reach_42 rec_23 rec_31 (n + 1) = j_X4_reach_42 rec_23 rec_31 (l_X4_reach_42 rec_23 rec_31 n) := rfl
theorem u_X4_reach_31 (rec_23 : Msx → Int32 → Int32 → Option (Msx)) (n : Nat) : l_X4_reach_31 rec_23 (n + 1) = j_X4_reach_31 rec_23 (l_X4_reach_31 rec_23 n) := rfl
theorem u_X4_reach_23 (n : Nat) : l_X4_reach_23 (n + 1) = j_X4_reach_23 (l_X4_reach_23 n) := rfl
theorem u_X4_reach_2 (n : Nat) : l_X4_reach_2 (n + 1) = j_X4_reach_2 (l_X4_reach_2 n) := rfl
theorem u_X4_go_44 (rec_19 : Msx → Int32 → Option (Msx)) (n : Nat) : l_X4_go_44 rec_19 (n + 1) = j_X4_go_44 rec_19 (l_X4_go_44 rec_19 n) := rfl
theorem u_X4_go_19 (n : Nat) : l_X4_go_19 (n + 1) = j_X4_go_19 (l_X4_go_19 n) := rfl
theorem u_X4_holderOf_10 (M : Msx) (n : Nat) : l_X4_holderOf_10 M (n + 1) = j_X4_holderOf_10 M (l_X4_holderOf_10 M n) := rfl
theorem u_X4_make_48 (n : Nat) : l_X4_make_48 (n + 1) = j_X4_make_48 (l_X4_make_48 n) := rfl
theorem u_X4_hinders_89 (n : Nat) : l_X4_hinders_89 (n + 1) = j_X4_hinders_89 (l_X4_hinders_89 n) := rfl
theorem u_X4_makeAll_35 (n : Nat) : l_X4_makeAll_35 (n + 1) = j_X4_makeAll_35 (l_X4_makeAll_35 n) := rfl
theorem u_X4_copy_92 (n : Nat) : l_X4_copy_92 (n + 1) = j_X4_copy_92 (l_X4_copy_92 n) := rfl
theorem u_X4_enter_71 (n : Nat) : l_X4_enter_71 (n + 1) = j_X4_enter_71 (l_X4_enter_71 n) := rfl
theorem u_X4_fold_51 (rec_15 : Msx → Int32 → Int32 → Int32 → Int32 → Option (Msx)) (n : Nat) : l_X4_fold_51 rec_15 (n + 1) = j_X4_fold_51 rec_15 (l_X4_fold_51 rec_15 n) := rfl
theorem u_X4_fold_15 (n : Nat) : l_X4_fold_15 (n + 1) = j_X4_fold_15 (l_X4_fold_15 n) := rfl
theorem u_X4_openMany_4 (M : Msx) (n : Nat) : l_X4_openMany_4 M (n + 1) = j_X4_openMany_4 M (l_X4_openMany_4 M n) := rfl
theorem u_X4_leastPlace_4 (M : Msx) (n : Nat) : l_X4_leastPlace_4 M (n + 1) = j_X4_leastPlace_4 M (l_X4_leastPlace_4 M n) := rfl
theorem u_X4_holders_4 (M : Msx) (n : Nat) : l_X4_holders_4 M (n + 1) = j_X4_holders_4 M (l_X4_holders_4 M n) := rfl
theorem u_X4_seen_9 (M : Msx) (n : Nat) : l_X4_seen_9 M (n + 1) = j_X4_seen_9 M (l_X4_seen_9 M n) := rfl
theorem u_X4_behind_14 (M : Msx) (n : Nat) : l_X4_behind_14 M (n + 1) = j_X4_behind_14 M (l_X4_behind_14 M n) := rfl
theorem u_X4_lacking_9 (M : Msx) (n : Nat) : l_X4_lacking_9 M (n + 1) = j_X4_lacking_9 M (l_X4_lacking_9 M n) := rfl
theorem u_X4_stuck_43 (M : Msx) (n : Nat) : l_X4_stuck_43 M (n + 1) = j_X4_stuck_43 M (l_X4_stuck_43 M n) := rfl
theorem u_X4_stuck_7 (M : Msx) (n : Nat) : l_X4_stuck_7 M (n + 1) = j_X4_stuck_7 M (l_X4_stuck_7 M n) := rfl
theorem u_X4_take_74 (n : Nat) : l_X4_take_74 (n + 1) = j_X4_take_74 (l_X4_take_74 n) := rfl
theorem u_X4_takeEntry_196 (rec_125 : Msx → Int32 → Int32 → Int32 → Option (Msx)) (n : Nat) : l_X4_takeEntry_196 rec_125 (n + 1) = j_X4_takeEntry_196 rec_125 (l_X4_takeEntry_196 rec_125 n) := rfl
theorem u_X4_takeEntry_125 (n : Nat) : l_X4_takeEntry_125 (n + 1) = j_X4_takeEntry_125 (l_X4_takeEntry_125 n) := rfl
theorem u_X4_takeEntry_79 (n : Nat) : l_X4_takeEntry_79 (n + 1) = j_X4_takeEntry_79 (l_X4_takeEntry_79 n) := rfl
theorem u_X4_echo_105 (n : Nat) : l_X4_echo_105 (n + 1) = j_X4_echo_105 (l_X4_echo_105 n) := rfl
theorem u_X4_takeLeast_4 (n : Nat) : l_X4_takeLeast_4 (n + 1) = j_X4_takeLeast_4 (l_X4_takeLeast_4 n) := rfl
theorem u_X4_round_14 (n : Nat) : l_X4_round_14 (n + 1) = j_X4_round_14 (l_X4_round_14 n) := rfl
