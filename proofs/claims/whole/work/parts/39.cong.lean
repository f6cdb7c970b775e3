/-! the reference's reading functions do not see ghost fields -/
section CG
variable {Mm M : Msx}
theorem g_f_X4_isRing (a : Ag_ Mm M) : f_X4_isRing M = f_X4_isRing Mm := by
  funext x1
  unfold f_X4_isRing
  simp only [(a 0 (by omega)).1]
theorem g_f_X4_isReader (a : Ag_ Mm M) : f_X4_isReader M = f_X4_isReader Mm := by
  funext x1
  unfold f_X4_isReader
  simp only [(a 10 (by omega)).1]
theorem g_j_X4_index_25 (a : Ag_ Mm M) : j_X4_index_25 M = j_X4_index_25 Mm := by
  funext rec_25 x1 x2 x3 x4
  unfold j_X4_index_25
  simp only [(a 12 (by omega)).1, (a 14 (by omega)).1]
theorem g_l_X4_index_25 (a : Ag_ Mm M) : l_X4_index_25 M = l_X4_index_25 Mm := by
  unfold l_X4_index_25
  simp only [g_j_X4_index_25 a]
theorem g_f_X4_index (a : Ag_ Mm M) : f_X4_index M = f_X4_index Mm := by
  funext x1 x2
  unfold f_X4_index
  simp only [(a 11 (by omega)).1, g_l_X4_index_25 a]
theorem g_f_X4_placeIn (a : Ag_ Mm M) : f_X4_placeIn M = f_X4_placeIn Mm := by
  funext x1 x2
  unfold f_X4_placeIn
  simp only [(a 13 (by omega)).1, g_f_X4_index a]
theorem g_j_X4_isNumbered_32 (a : Ag_ Mm M) : j_X4_isNumbered_32 M = j_X4_isNumbered_32 Mm := by
  funext x2 x3
  unfold j_X4_isNumbered_32
  simp only [g_f_X4_isRing a]
theorem g_j_X4_isNumbered_65 (a : Ag_ Mm M) : j_X4_isNumbered_65 M = j_X4_isNumbered_65 Mm := by
  rfl
theorem g_f_X4_isNumbered (a : Ag_ Mm M) : f_X4_isNumbered M = f_X4_isNumbered Mm := by
  funext x1 x2 x3
  unfold f_X4_isNumbered
  simp only [g_f_X4_isRing a, g_j_X4_isNumbered_32 a, g_f_X4_isReader a, g_j_X4_isNumbered_65 a]
theorem g_j_X4_doesName_35 (a : Ag_ Mm M) : j_X4_doesName_35 M = j_X4_doesName_35 Mm := by
  funext rec_5 x1 x2 x4
  rfl
theorem g_j_X4_doesName_5 (a : Ag_ Mm M) : j_X4_doesName_5 M = j_X4_doesName_5 Mm := by
  funext rec_5 x1 x2 x3 x4
  unfold j_X4_doesName_5
  simp only [(a 15 (by omega)).1, (a 16 (by omega)).1, g_j_X4_doesName_35 a]
theorem g_l_X4_doesName_5 (a : Ag_ Mm M) : l_X4_doesName_5 M = l_X4_doesName_5 Mm := by
  unfold l_X4_doesName_5
  simp only [g_j_X4_doesName_5 a]
theorem g_f_X4_doesName (a : Ag_ Mm M) : f_X4_doesName M = f_X4_doesName Mm := by
  funext x1 x2
  unfold f_X4_doesName
  simp only [g_l_X4_doesName_5 a]
theorem g_j_X4_circle_12 (a : Ag_ Mm M) : j_X4_circle_12 M = j_X4_circle_12 Mm := by
  rfl
theorem g_f_X4_circle (a : Ag_ Mm M) : f_X4_circle M = f_X4_circle Mm := by
  funext x1
  unfold f_X4_circle
  simp only [(a 39 (by omega)).1, (a 40 (by omega)).1, g_j_X4_circle_12 a]
theorem g_f_X4_made (a : Ag_ Mm M) : f_X4_made M = f_X4_made Mm := by
  unfold f_X4_made
  simp only [(a 35 (by omega)).1]
theorem g_f_X4_slot (a : Ag_ Mm M) : f_X4_slot M = f_X4_slot Mm := by
  funext x1 x2
  unfold f_X4_slot
  simp only [(a 1 (by omega)).1]
theorem g_f_X4_isKept (a : Ag_ Mm M) : f_X4_isKept M = f_X4_isKept Mm := by
  funext x1 x2
  unfold f_X4_isKept
  simp only [(a 1 (by omega)).1, (a 2 (by omega)).1, (a 3 (by omega)).1]
theorem g_f_X4_isOpen (a : Ag_ Mm M) : f_X4_isOpen M = f_X4_isOpen Mm := by
  funext x1 x2
  unfold f_X4_isOpen
  simp only [(a 5 (by omega)).1, g_f_X4_isKept a, g_f_X4_slot a]
theorem g_f_X4_isPublished (a : Ag_ Mm M) : f_X4_isPublished M = f_X4_isPublished Mm := by
  funext x1 x2
  unfold f_X4_isPublished
  simp only [(a 5 (by omega)).1, g_f_X4_isKept a, g_f_X4_slot a]
theorem g_j_X4_isHolder_29 (a : Ag_ Mm M) : j_X4_isHolder_29 M = j_X4_isHolder_29 Mm := by
  funext x1 x2
  unfold j_X4_isHolder_29
  simp only [g_f_X4_index a]
theorem g_f_X4_isHolder (a : Ag_ Mm M) : f_X4_isHolder M = f_X4_isHolder Mm := by
  funext x1 x2
  unfold f_X4_isHolder
  simp only [(a 11 (by omega)).1, g_j_X4_isHolder_29 a]
theorem g_j_X4_holderOf_10 (a : Ag_ Mm M) : j_X4_holderOf_10 M = j_X4_holderOf_10 Mm := by
  funext rec_10 x1 x2 x3 x4
  unfold j_X4_holderOf_10
  simp only [(a 1 (by omega)).1, g_f_X4_isHolder a, g_f_X4_placeIn a]
theorem g_l_X4_holderOf_10 (a : Ag_ Mm M) : l_X4_holderOf_10 M = l_X4_holderOf_10 Mm := by
  unfold l_X4_holderOf_10
  simp only [g_j_X4_holderOf_10 a]
theorem g_f_X4_holderOf (a : Ag_ Mm M) : f_X4_holderOf M = f_X4_holderOf Mm := by
  funext x1 x2
  unfold f_X4_holderOf
  simp only [(a 10 (by omega)).1, g_l_X4_holderOf_10 a]
theorem g_j_X4_isHeld_25 (a : Ag_ Mm M) : j_X4_isHeld_25 M = j_X4_isHeld_25 Mm := by
  rfl
theorem g_f_X4_isHeld (a : Ag_ Mm M) : f_X4_isHeld M = f_X4_isHeld Mm := by
  funext x1 x2
  unfold f_X4_isHeld
  simp only [(a 1 (by omega)).1, g_f_X4_isOpen a, g_f_X4_holderOf a, g_j_X4_isHeld_25 a]
theorem g_f_X4_isHeldUp (a : Ag_ Mm M) : f_X4_isHeldUp M = f_X4_isHeldUp Mm := by
  funext x1
  unfold f_X4_isHeldUp
  simp only [(a 2 (by omega)).1, g_f_X4_isHeld a]
theorem g_f_X4_by (a : Ag_ Mm M) : f_X4_by M = f_X4_by Mm := by
  unfold f_X4_by
  simp only [(a 36 (by omega)).1]
theorem g_j_X4_openMany_4 (a : Ag_ Mm M) : j_X4_openMany_4 M = j_X4_openMany_4 Mm := by
  funext rec_4 x1 x2 x3
  unfold j_X4_openMany_4
  simp only [(a 1 (by omega)).1, (a 2 (by omega)).1, g_f_X4_isOpen a]
theorem g_l_X4_openMany_4 (a : Ag_ Mm M) : l_X4_openMany_4 M = l_X4_openMany_4 Mm := by
  unfold l_X4_openMany_4
  simp only [g_j_X4_openMany_4 a]
theorem g_f_X4_openMany (a : Ag_ Mm M) : f_X4_openMany M = f_X4_openMany Mm := by
  funext x1
  unfold f_X4_openMany
  simp only [g_l_X4_openMany_4 a]
theorem g_j_X4_leastPlace_35 (a : Ag_ Mm M) : j_X4_leastPlace_35 M = j_X4_leastPlace_35 Mm := by
  funext rec_4 x1 x3
  unfold j_X4_leastPlace_35
  simp only [g_f_X4_placeIn a]
theorem g_j_X4_leastPlace_4 (a : Ag_ Mm M) : j_X4_leastPlace_4 M = j_X4_leastPlace_4 Mm := by
  funext rec_4 x1 x2 x3
  unfold j_X4_leastPlace_4
  simp only [(a 10 (by omega)).1, g_f_X4_isHolder a, g_j_X4_leastPlace_35 a, g_f_X4_placeIn a]
theorem g_l_X4_leastPlace_4 (a : Ag_ Mm M) : l_X4_leastPlace_4 M = l_X4_leastPlace_4 Mm := by
  unfold l_X4_leastPlace_4
  simp only [g_j_X4_leastPlace_4 a]
theorem g_f_X4_leastPlace (a : Ag_ Mm M) : f_X4_leastPlace M = f_X4_leastPlace Mm := by
  funext x1
  unfold f_X4_leastPlace
  simp only [g_l_X4_leastPlace_4 a]
theorem g_j_X4_holders_4 (a : Ag_ Mm M) : j_X4_holders_4 M = j_X4_holders_4 Mm := by
  funext rec_4 x1 x2 x3
  unfold j_X4_holders_4
  simp only [(a 10 (by omega)).1, g_f_X4_isHolder a]
theorem g_l_X4_holders_4 (a : Ag_ Mm M) : l_X4_holders_4 M = l_X4_holders_4 Mm := by
  unfold l_X4_holders_4
  simp only [g_j_X4_holders_4 a]
theorem g_f_X4_holders (a : Ag_ Mm M) : f_X4_holders M = f_X4_holders Mm := by
  funext x1
  unfold f_X4_holders
  simp only [g_l_X4_holders_4 a]
theorem g_f_X4_last (a : Ag_ Mm M) : f_X4_last M = f_X4_last Mm := by
  funext x1
  unfold f_X4_last
  simp only [(a 4 (by omega)).2, g_f_X4_isRing a]
theorem g_j_X4_seen_45 (a : Ag_ Mm M) : j_X4_seen_45 M = j_X4_seen_45 Mm := by
  funext x1 x2
  unfold j_X4_seen_45
  simp only [g_f_X4_isPublished a]
theorem g_j_X4_seen_9 (a : Ag_ Mm M) : j_X4_seen_9 M = j_X4_seen_9 Mm := by
  funext rec_9 x1 x2
  unfold j_X4_seen_9
  simp only [(a 1 (by omega)).1, (a 2 (by omega)).1, g_j_X4_seen_45 a, g_f_X4_isPublished a]
theorem g_l_X4_seen_9 (a : Ag_ Mm M) : l_X4_seen_9 M = l_X4_seen_9 Mm := by
  unfold l_X4_seen_9
  simp only [g_j_X4_seen_9 a]
theorem g_f_X4_seen (a : Ag_ Mm M) : f_X4_seen M = f_X4_seen Mm := by
  funext x1
  unfold f_X4_seen
  simp only [(a 2 (by omega)).1, g_l_X4_seen_9 a]
theorem g_f_X4_from (a : Ag_ Mm M) : f_X4_from M = f_X4_from Mm := by
  funext x1
  unfold f_X4_from
  simp only [(a 1 (by omega)).1, (a 2 (by omega)).1, (a 11 (by omega)).1, (a 12 (by omega)).1, (a 13 (by omega)).1]
theorem g_j_X4_behind_78 (a : Ag_ Mm M) : j_X4_behind_78 M = j_X4_behind_78 Mm := by
  funext rec_14 x1 x2 x4 x5
  rfl
theorem g_j_X4_behind_61 (a : Ag_ Mm M) : j_X4_behind_61 M = j_X4_behind_61 Mm := by
  funext rec_14 x1 x2 x3 x4 x5 y0
  unfold j_X4_behind_61
  simp only [g_j_X4_behind_78 a]
theorem g_j_X4_behind_14 (a : Ag_ Mm M) : j_X4_behind_14 M = j_X4_behind_14 Mm := by
  funext rec_14 x1 x2 x3 x4
  unfold j_X4_behind_14
  simp only [(a 13 (by omega)).1, (a 15 (by omega)).1, (a 16 (by omega)).1, g_f_X4_placeIn a, g_j_X4_behind_61 a]
theorem g_l_X4_behind_14 (a : Ag_ Mm M) : l_X4_behind_14 M = l_X4_behind_14 Mm := by
  unfold l_X4_behind_14
  simp only [g_j_X4_behind_14 a]
theorem g_f_X4_behind (a : Ag_ Mm M) : f_X4_behind M = f_X4_behind Mm := by
  funext x1
  unfold f_X4_behind
  simp only [(a 12 (by omega)).1, g_l_X4_behind_14 a]
theorem g_j_X4_isPassed_50 (a : Ag_ Mm M) : j_X4_isPassed_50 M = j_X4_isPassed_50 Mm := by
  rfl
theorem g_f_X4_isPassed (a : Ag_ Mm M) : f_X4_isPassed M = f_X4_isPassed Mm := by
  funext x1 x2
  unfold f_X4_isPassed
  simp only [(a 2 (by omega)).1, (a 3 (by omega)).1, (a 12 (by omega)).1, (a 13 (by omega)).1, g_j_X4_isPassed_50 a]
theorem g_j_X4_lacking_9 (a : Ag_ Mm M) : j_X4_lacking_9 M = j_X4_lacking_9 Mm := by
  funext rec_9 x1 x2 x3 x4
  unfold j_X4_lacking_9
  simp only [(a 12 (by omega)).1, (a 13 (by omega)).1, (a 14 (by omega)).1, g_f_X4_isPassed a, g_f_X4_isPublished a]
theorem g_l_X4_lacking_9 (a : Ag_ Mm M) : l_X4_lacking_9 M = l_X4_lacking_9 Mm := by
  unfold l_X4_lacking_9
  simp only [g_j_X4_lacking_9 a]
theorem g_f_X4_lacking (a : Ag_ Mm M) : f_X4_lacking M = f_X4_lacking Mm := by
  funext x1
  unfold f_X4_lacking
  simp only [g_l_X4_lacking_9 a]
theorem g_j_X4_whyOne_122 (a : Ag_ Mm M) : j_X4_whyOne_122 M = j_X4_whyOne_122 Mm := by
  rfl
theorem g_j_X4_whyOne_203 (a : Ag_ Mm M) : j_X4_whyOne_203 M = j_X4_whyOne_203 Mm := by
  rfl
theorem g_f_X4_whyOne (a : Ag_ Mm M) : f_X4_whyOne M = f_X4_whyOne Mm := by
  funext x1
  unfold f_X4_whyOne
  simp only [(a 2 (by omega)).1, (a 3 (by omega)).1, (a 11 (by omega)).1, (a 12 (by omega)).1, (a 17 (by omega)).1, (a 21 (by omega)).1, (a 23 (by omega)).1, (a 28 (by omega)).1, g_f_X4_lacking a, g_f_X4_seen a, g_j_X4_whyOne_122 a, g_f_X4_from a, g_f_X4_isOpen a, g_f_X4_behind a, g_j_X4_whyOne_203 a, g_f_X4_isHeldUp a]
theorem g_f_X4_why (a : Ag_ Mm M) : f_X4_why M = f_X4_why Mm := by
  funext x1
  unfold f_X4_why
  simp only [(a 34 (by omega)).1, g_f_X4_isReader a, g_f_X4_whyOne a]
theorem g_f_X4_on (a : Ag_ Mm M) : f_X4_on M = f_X4_on Mm := by
  funext x1
  unfold f_X4_on
  simp only [(a 17 (by omega)).1, g_f_X4_why a, g_f_X4_from a, g_f_X4_behind a, g_f_X4_lacking a]
theorem g_j_X4_stuck_43 (a : Ag_ Mm M) : j_X4_stuck_43 M = j_X4_stuck_43 Mm := by
  funext rec_43 x1 x2 x3
  unfold j_X4_stuck_43
  simp only [(a 0 (by omega)).1, (a 3 (by omega)).1, g_f_X4_isHeldUp a]
theorem g_l_X4_stuck_43 (a : Ag_ Mm M) : l_X4_stuck_43 M = l_X4_stuck_43 Mm := by
  unfold l_X4_stuck_43
  simp only [g_j_X4_stuck_43 a]
theorem g_j_X4_stuck_7 (a : Ag_ Mm M) : j_X4_stuck_7 M = j_X4_stuck_7 Mm := by
  funext rec_7 x1 x2
  unfold j_X4_stuck_7
  simp only [(a 10 (by omega)).1, g_l_X4_stuck_43 a, g_f_X4_whyOne a]
theorem g_l_X4_stuck_7 (a : Ag_ Mm M) : l_X4_stuck_7 M = l_X4_stuck_7 Mm := by
  unfold l_X4_stuck_7
  simp only [g_j_X4_stuck_7 a]
theorem g_f_X4_stuck (a : Ag_ Mm M) : f_X4_stuck M = f_X4_stuck Mm := by
  unfold f_X4_stuck
  simp only [(a 34 (by omega)).1, g_l_X4_stuck_7 a]
theorem g_f_X4_got (a : Ag_ Mm M) : f_X4_got M = f_X4_got Mm := by
  funext x1 x2
  unfold f_X4_got
  simp only [(a 21 (by omega)).1, (a 22 (by omega)).1, (a 23 (by omega)).1, (a 25 (by omega)).1, (a 26 (by omega)).1, (a 24 (by omega)).2, g_f_X4_isReader a]
theorem g_f_X4_word (a : Ag_ Mm M) : f_X4_word M = f_X4_word Mm := by
  funext x1 x2
  unfold f_X4_word
  simp only [(a 27 (by omega)).2, g_f_X4_isReader a]
theorem g_f_X4_place (a : Ag_ Mm M) : f_X4_place M = f_X4_place Mm := by
  funext x1 x2
  unfold f_X4_place
  simp only [g_f_X4_isReader a, g_f_X4_isRing a, g_f_X4_placeIn a]
theorem g_j_X4_found_10 (a : Ag_ Mm M) : j_X4_found_10 M = j_X4_found_10 Mm := by
  rfl
theorem g_f_X4_found (a : Ag_ Mm M) : f_X4_found M = f_X4_found Mm := by
  funext x1
  unfold f_X4_found
  simp only [(a 38 (by omega)).1, g_j_X4_found_10 a]
end CG
