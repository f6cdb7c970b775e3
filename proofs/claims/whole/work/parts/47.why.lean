/-! why a reader is not ready -/
def anB (P : Nat → Bool) : Nat → Nat → Bool
  | 0, _ => false
  | m + 1, i => P i || anB P m (i + 1)
theorem anB_iff {P : Nat → Bool} : ∀ (m i : Nat), anB P m i = true ↔ ∃ t, i ≤ t ∧ t < i + m ∧ P t = true
  | 0, i => ⟨fun z => absurd z Bool.false_ne_true, fun ⟨t, h1, h2, _⟩ => absurd h1 (by omega)⟩
  | m + 1, i => by
    unfold anB
    rw [Bool.or_eq_true, anB_iff m (i + 1)]
    constructor
    · rintro (z | ⟨t, h1, h2, h3⟩)
      · exact ⟨i, Nat.le_refl i, by omega, z⟩
      · exact ⟨t, by omega, by omega, h3⟩
    · rintro ⟨t, h1, h2, h3⟩
      by_cases c : t = i
      · subst c
        exact Or.inl h3
      · exact Or.inr ⟨t, by omega, by omega, h3⟩
theorem anB_s {P : Nat → Bool} {m i : Nat} : anB P (m + 1) i = (P i || anB P m (i + 1)) := rfl
theorem anB_cut {P : Nat → Bool} {m k i : Nat} (h : ∀ t, i + m ≤ t → P t = false) : anB P (m + k) i = anB P m i := by
  rw [Bool.eq_iff_iff, anB_iff, anB_iff]
  constructor
  · rintro ⟨t, h1, h2, h3⟩
    refine ⟨t, h1, ?_, h3⟩
    by_cases c : t < i + m
    · exact c
    · rw [h t (by omega)] at h3
      exact absurd h3 Bool.false_ne_true
  · rintro ⟨t, h1, h2, h3⟩
    exact ⟨t, h1, by omega, h3⟩
section WY
variable {n : Nat} {A B ow : Nat → Nat} {h : Hpx} {M Mm : Msx}
theorem lk_no {j : Nat} (hl : lsA (lkB M j) 8 0 (-1) < 0) : ∀ q, q < 8 → lkB M j q = false := by
  rcases lsA_or (lkB M j) 8 0 (-1) with ⟨-, z⟩ | ⟨u, u1, u2, u3, u4, u5⟩
  · exact fun q hq => z q (Nat.zero_le q) (by omega)
  · rw [u4] at hl
    exact absurd hl (nI_pos (by omega))
theorem lk_cd {j q : Nat} (hq : q < nR M) (hl : lkB M j q = false) (ha : aw M j q = true) : cd M j q = true ∧ pB M q (pN M j q) = true := by
  have hp : pB M q (pN M j q) = true := by
    unfold lkB at hl
    rw [decide_eq_true hq, ha, Bool.true_and, Bool.true_and] at hl
    simpa using hl
  refine ⟨?_, hp⟩
  unfold pB at hp
  rw [Bool.and_eq_true] at hp
  unfold cd
  rw [decide_eq_true hq, ha, hp.1]
  rfl
theorem bq_aK (W : Wf_ n M) (hn : n ≤ 513) {j : Nat} (hj : j < nD M) (a1 : kD M j ≠ 1) (a4 : kD M j ≠ 4) (hl : ∀ q, q < 8 → lkB M j q = false) : (bq M j 8 0 none = none ∧ aK M j (rM M j) = false) ∨ ∃ b, bq M j 8 0 none = some b ∧ aK M j (rM M j) = true := by
  have hb := bq_best (M := M) (j := j)
  generalize bq M j 8 0 none = bb at hb
  cases bb with
  | none =>
    left
    refine ⟨rfl, ?_⟩
    by_cases c : aK M j (rM M j) = true
    · obtain ⟨k, hk, ha⟩ := (aK_iff _).mp c
      obtain ⟨k4, g1, g2, g8, -⟩ := pk_c W hj a1 a4 hk
      have := (lk_cd g2 (hl _ g8) ha).1
      rw [hb _ g8] at this
      exact absurd this Bool.false_ne_true
    · simpa using c
  | some b =>
    right
    refine ⟨b, rfl, ?_⟩
    obtain ⟨h1, h2, -⟩ := hb
    unfold cd at h2
    rw [Bool.and_eq_true, Bool.and_eq_true] at h2
    obtain ⟨-, -, k, hk, hkq, -⟩ := aw_p W hn hj h1 h2.2.1
    exact (aK_iff _).mpr ⟨k, hk, by rw [hkq]; exact h2.2.1⟩
theorem fN_kept (W : Wf_ n M) {j : Nat} (hj : j < nD M) (a1 : kD M j ≠ 1) (a4 : kD M j ≠ 4) : cL M (rG M j 0) ≤ fN M j + sL M (rG M j 0) := by
  have w2a := (W.2.2.1 j hj).2.1.2.1
  unfold fN
  by_cases a3 : kD M j = 3
  · split
    · omega
    · next z =>
      have : ¬ pL M j 0 + sL M (rG M j 0) < cL M (rG M j 0) := fun y => z ⟨a3, y⟩
      omega
  · rw [if_neg (fun z => a3 z.1)]
    exact W.2.2.2.2.2 j hj a1 a3 a4 0 (by omega)
/-- why a reader that reads at a place isn't ready; why any isn't -/
def wyP (M : Msx) (j : Nat) : Int32 :=
  if cL M (rG M j 0) ≤ fN M j then 2
  else if pB M (rG M j 0) (fN M j) = true then
    (if lsA (bB M j) 16 0 (-1) < 0 then
      (if kD M j = 7 then (if m_I M 3 (tG M j) = 0 then (if dB M (tG M j) (cL M (tG M j)) = true then 5 else 0) else 5) else 0)
    else 4)
  else 3
def wy (M : Msx) (j : Nat) : Int32 :=
  if kD M j = 5 then (if lsA (lkB M j) 8 0 (-1) < 0 then (if aK M j (rM M j) = true then 0 else 6) else 7)
  else if kD M j = 4 then (if eM M j = 0 then 2 else 0)
  else if m_I M 3 (rG M j 0) = 2 then 1
  else if kD M j = 1 then (if nW M (rG M j 0) ≤ m_I M 58 j then 2 else 0)
  else wyP M j
theorem live_c (C : Cn_ n A B ow h M) {r : Nat} (hr : r < nR M) : f_X2_isLive h (A r) = some (if m_I M 3 r = 0 then 1 else 0) := by
  unfold f_X2_isLive
  rw [if_pos (C.2.1.2.2.2.1 r hr).1, rI_50 C hr, rI_51 C hr]
  rcases how_3 (C.2.2.2.2.2.1 r hr) with ⟨q1, q2, q3⟩ | ⟨q1, q2, q3⟩ | ⟨q1, q2⟩
  · rw [q1, q2, q3]
    rfl
  · rw [q1, q2, q3]
    rfl
  · rw [q1, q2]
    rfl
theorem rap_c (C : Cn_ n A B ow h M) (hn : n ≤ 512) {j : Nat} (hj : j < nD M) (a1 : kD M j ≠ 1) (a4 : kD M j ≠ 4) (hg : m_I M 3 (rG M j 0) ≠ 2) : f_X3_reasonAtPlace h 0 (some (B j)) = some (wyP M j) := by
  have W := C.2.2.2.2
  obtain ⟨g1, g2, g8, g3, g4, g5⟩ := r0_c W hj
  have w := W.2.1 _ g2
  obtain ⟨s1, s2, s3, -⟩ := C.2.1.2.2.2.2.1 j hj
  have hf := fN_le W hj
  unfold f_X3_reasonAtPlace wyP
  simp only [Option.bind_some, s1, if_true, ptr_c C (show n ≤ 513 by omega) hj a1 a4, s2, (C.2.1.2.2.2.1 _ g2).1, rI_2 C g2, w.2.2.1, C.2.1.1.1, lnb_c C hj, s3]
  rw [if_neg (show ¬ (kD M j = 3 ∧ m_I M 3 (rG M j 0) = 2) from fun z => hg z.2), isPub_nI C hn g2 (show fN M j < 2 ^ 30 by omega)]
  simp only [Option.bind_some, nI_ltI (show fN M j < 2 ^ 31 by omega) (show cL M (rG M j 0) < 2 ^ 31 by omega)]
  by_cases c1 : cL M (rG M j 0) ≤ fN M j
  · rw [if_neg (by omega), if_pos c1]
  rw [if_pos (by omega), if_neg c1]
  by_cases c2 : pB M (rG M j 0) (fN M j) = true
  · rw [if_pos c2, if_pos c2, if_neg (by decide)]
    by_cases c3 : lsA (bB M j) 16 0 (-1) < 0
    · rw [if_pos c3, if_pos c3]
      by_cases c4 : kD M j = 7
      · obtain ⟨t1, t2, -⟩ := (W.2.2.1 j hj).2.2.2.2.2.2.2.2.2.1 c4
        have wt := W.2.1 _ t2
        have ht := wt.2.2.2.1
        simp only [if_pos c4, reduceCtorEq, if_false, Option.bind_some, (C.2.1.2.2.2.1 _ t2).1, if_true, live_c C t2, rI_2 C t2, wt.2.2.1, isHeldUp3 C hn t2 (show cL M (tG M j) < 2 ^ 29 by omega)]
        by_cases c5 : m_I M 3 (tG M j) = 0
        · rw [if_pos c5, if_pos c5, if_neg (by decide)]
          by_cases c6 : dB M (tG M j) (cL M (tG M j)) = true
          · rw [if_pos c6, if_pos c6, if_neg (by decide)]
          · rw [if_neg c6, if_neg c6, if_pos rfl]
        · rw [if_neg c5, if_neg c5, if_pos rfl]
      · rw [if_neg c4, if_neg c4, if_pos rfl]
    · rw [if_neg c3, if_neg c3]
  · rw [if_neg c2, if_neg c2, if_pos rfl]
theorem reason_c (C : Cn_ n A B ow h M) (hn : n ≤ 512) {j : Nat} (hj : j < nD M) : f_X3_reasonOf h 0 (some (B j)) = some (wy M j) := by
  have W := C.2.2.2.2
  obtain ⟨g1, g2, g8, g3, g4, g5⟩ := r0_c W hj
  have w := W.2.1 _ g2
  obtain ⟨s1, s2, s3, s4, s5, -⟩ := C.2.1.2.2.2.2.1 j hj
  have wd := W.2.2.1 j hj
  obtain ⟨w1, w1a, w1b⟩ := wd.1
  obtain ⟨w28, w28a, -⟩ := wd.2.2.2.2.2.2.2.2.2.2.2.1
  unfold f_X3_reasonOf wy
  simp only [Option.bind_some, s1, if_true, rI_11 C hj, w1, C.2.1.1.1, s2, (C.2.1.2.2.2.1 _ g2).1, rI_50 C g2, rI_28 C hj, w28, newest_c C hn g2, s4, s5, rI_58 C hj]
  by_cases c5 : kD M j = 5
  · rw [if_pos (by rw [c5]; rfl), if_pos c5]
    unfold f_X3_reasonOfMerge
    rw [if_pos C.2.1.1.1, lack3 C hn hj, least_c C hn hj]
    simp only [Option.bind_some]
    by_cases c : lsA (lkB M j) 8 0 (-1) < 0
    · rw [if_pos c, if_pos c]
      rcases bq_aK W (by omega) hj (by omega) (by omega) (lk_no c) with ⟨b1, b2⟩ | ⟨b, b1, b2⟩
      · rw [b1, b2]
        rfl
      · rw [b1, b2]
        rfl
    · rw [if_neg c, if_neg c]
      rfl
  rw [if_neg (by rw [eqlit (n := 5) rfl (by omega)]; exact c5), if_neg c5]
  by_cases c4 : kD M j = 4
  · rw [if_pos (by rw [c4]; rfl), if_pos c4]
    by_cases c : eM M j = 0
    · rw [if_pos (by rw [c]; decide), if_pos c]
    · rw [if_neg (nI_nle (by omega) (by omega)), if_neg c]
  rw [if_neg (by rw [eqlit (n := 4) rfl (by omega)]; exact c4), if_neg c4]
  rcases how_g w with ⟨q1, q2⟩ | ⟨q1, q2⟩
  · rw [if_neg q2, if_pos q1]
  rw [if_pos q2, if_neg q1]
  by_cases c1 : kD M j = 1
  · rw [if_pos (by rw [c1]; rfl), if_pos c1]
    split
    · rfl
    · rfl
  · rw [if_neg (by rw [eqlit (n := 1) rfl (by omega)]; exact c1), if_neg c1, rap_c C hn hj c1 c4 q1]
    rfl
theorem lack4_v {j : Nat} : (if lsA (lkB M j) 8 0 (-1) < 0 then x2A (aK M j (rM M j)) else lsA (lkB M j) 8 0 (-1)) = (if lsA (lkB M j) 8 0 (-1) < 0 then (if aK M j (rM M j) = true then -1 else -2) else lsA (lkB M j) 8 0 (-1)) := rfl
theorem why4 (W : Wf_ n M) (hn : n ≤ 512) {j : Nat} (hj : j < nD M) : f_X4_whyOne M (nI j) = some (wy M j) := by
  have h16 : j < 16 := by have := W.1.2.2.2.1; omega
  obtain ⟨g1, g2, g8, g3, g4, g5⟩ := r0_c W hj
  have w := W.2.1 _ g2
  have wd := W.2.2.1 j hj
  obtain ⟨w1, w1a, w1b⟩ := wd.1
  obtain ⟨w28, w28a, -⟩ := wd.2.2.2.2.2.2.2.2.2.2.2.1
  obtain ⟨y, hy, y1, y2, y3⟩ := wd.2.2.2.2.2.2.2.2.2.2.1.1
  have hf := fN_le W hj
  unfold f_X4_whyOne j_X4_whyOne_122 j_X4_whyOne_203 wy
  simp only [four_j, in_nI h16 (show 16 ≤ 65536 by omega), in_nI (show 4 * j < 64 by omega) (show 64 ≤ 65536 by omega), if_true, cl_nI (show j < 2 ^ 31 by omega), cl_nI (show 4 * j < 2 ^ 31 by omega), w1, w28, g1, in_nI g8 (show 8 ≤ 65536 by omega), cl_nI (show rG M j 0 < 2 ^ 31 by omega), y1, w.2.2.1]
  by_cases c4 : kD M j = 4
  · rw [if_pos (by rw [c4]; rfl), if_neg (show ¬ kD M j = 5 by omega), if_pos c4]
    by_cases c : eM M j = 0
    · rw [if_pos (by rw [c]; decide), if_pos c]
    · rw [if_neg (nI_nle (by omega) (by omega)), if_neg c]
  rw [if_neg (by rw [eqlit (n := 4) rfl (by omega)]; exact c4)]
  by_cases c5 : kD M j = 5
  · rw [if_pos (by rw [c5]; rfl), if_pos c5, lack4 W hn hj (by omega) c4, lack4_v]
    simp only [Option.bind_some]
    rcases lsA_or (lkB M j) 8 0 (-1) with ⟨z1, -⟩ | ⟨u, u1, u2, u3, u4, u5⟩
    · rw [z1, if_pos (show (-1 : Int32) < 0 by decide), if_pos (show (-1 : Int32) < 0 by decide)]
      by_cases ca : aK M j (rM M j) = true
      · rw [if_pos ca, if_pos ca]
        rfl
      · rw [if_neg ca, if_neg ca]
        rfl
    · rw [u4, if_neg (nI_pos (by omega)), if_neg (nI_pos (by omega)), if_neg (fun z => nI_pos (show u < 2 ^ 31 by omega) (by rw [z]; decide)), if_neg (fun z => nI_pos (show u < 2 ^ 31 by omega) (by rw [z]; decide))]
  rw [if_neg (by rw [eqlit (n := 5) rfl (by omega)]; exact c5), if_neg c5, if_neg c4]
  by_cases q1 : m_I M 3 (rG M j 0) = 2
  · rw [if_pos q1, if_pos q1]
  rw [if_neg q1, if_neg q1]
  by_cases c1 : kD M j = 1
  · rw [if_pos (by rw [c1]; rfl), if_pos c1, seen_c W hn g2]
    simp only [Option.bind_some]
    by_cases y0 : y = 0
    · rw [y2 y0, y0]
      rcases nwF_or (M := M) (r := rG M j 0) (sL M (rG M j 0)) 1 with z | ⟨q, z, zq, -⟩
      · have z' : nW M (rG M j 0) = -1 := z
        rw [z']
        rfl
      · have z' : nW M (rG M j 0) = nI q := z
        rw [z', if_neg (nI_pos (by omega)), if_pos (show nI 0 = 0 from rfl), if_neg]
        intro zz
        rw [Int32.le_iff_toInt_le, nI_toInt (by omega)] at zz
        have : (-1 : Int32).toInt = -1 := rfl
        omega
    · obtain ⟨v1, v2⟩ := y3 y0
      rw [if_neg (nI_ne0 (by omega) (by omega)), v1]
      by_cases cn : nW M (rG M j 0) < 0
      · rw [if_pos cn, if_pos]
        rw [Int32.lt_iff_toInt_lt] at cn v2
        rw [Int32.le_iff_toInt_le]
        have : (0 : Int32).toInt = 0 := rfl
        omega
      · rw [if_neg cn]
        split
        · rfl
        · rfl
  rw [if_neg (by rw [eqlit (n := 1) rfl (by omega)]; exact c1), if_neg c1, from_c W (by omega) hj]
  simp only [Option.bind_some]
  rw [isOpen4_nI W hn g2 (by omega), behind_c W hj c1 c4]
  simp only [Option.bind_some, nI_ltI (show fN M j < 2 ^ 31 by omega) (show cL M (rG M j 0) < 2 ^ 31 by omega)]
  unfold wyP
  by_cases e1 : cL M (rG M j 0) ≤ fN M j
  · rw [if_neg (by omega), if_pos e1]
  rw [if_pos (by omega), if_neg e1]
  have hk : kp M (rG M j 0) (fN M j) = true := by
    unfold kp
    rw [decide_eq_true_eq]
    exact ⟨q1, by omega, fN_kept W hj c1 c4⟩
  by_cases e2 : m_I M 5 (64 * rG M j 0 + fN M j % sL M (rG M j 0)) = 0
  · rw [if_neg (show ¬ oB M (rG M j 0) (fN M j) = true by simp [oB, e2]), if_pos rfl, if_pos (show pB M (rG M j 0) (fN M j) = true by simp [pB, hk, e2])]
    by_cases e3 : lsA (bB M j) 16 0 (-1) < 0
    · rw [if_pos e3, if_pos e3]
      by_cases e4 : kD M j = 7
      · obtain ⟨t1, t2, -⟩ := wd.2.2.2.2.2.2.2.2.2.1 e4
        have t8 : tG M j < 8 := by have := W.1.2.1; omega
        have wt := W.2.1 _ t2
        rw [if_pos (by rw [e4]; rfl), if_pos e4, t1, if_pos (in_nI t8 (by omega)), cl_nI (by omega), isHeldUp4 W hn t2]
        simp only [Option.bind_some]
        rcases how_3 wt with ⟨p1, -⟩ | ⟨p1, -⟩ | ⟨p1, -⟩
        · rw [p1, if_neg (by decide), if_pos rfl]
          by_cases e6 : dB M (tG M j) (cL M (tG M j)) = true
          · rw [if_pos e6, if_pos e6, if_neg (by decide)]
          · rw [if_neg e6, if_neg e6, if_pos rfl]
        · rw [p1, if_pos (by decide), if_neg (by decide)]
        · rw [p1, if_pos (by decide), if_neg (by decide)]
      · rw [if_neg (by rw [eqlit (n := 7) rfl (by omega)]; exact e4), if_neg e4]
    · rw [if_neg e3, if_neg e3]
  · rw [if_pos (show oB M (rG M j 0) (fN M j) = true by simp [oB, hk, e2]), if_neg (by decide), if_neg (show ¬ pB M (rG M j 0) (fN M j) = true by simp [pB, e2])]
theorem ok_why : Ok_why Inv_ := by
  intro n h M x hn I
  obtain ⟨A, B, ow, C, Z⟩ := id I
  have W := C.2.2.2.2
  have key : ∃ r, f_X3_why h 0 x = some r ∧ f_X4_why M x = some r := by
    unfold f_X3_why f_X4_why
    rw [if_pos C.2.1.1.1, rI_34 C]
    by_cases e : m_I M 34 0 = 0
    · exact ⟨-2, by rw [if_pos e], by rw [if_pos e]⟩
    rw [if_neg e, if_neg e]
    rcases reader_c C x with ⟨a, b⟩ | ⟨j, hj, h16, rfl, a, b⟩
    · rw [a, b]
      exact ⟨-1, rfl, rfl⟩
    · rw [a, b]
      refine ⟨wy M j, ?_, ?_⟩
      · simp only [Option.bind_some, reduceCtorEq, if_false, reason_c C (show n ≤ 512 by omega) hj]
      · simp only [Option.bind_some, why4 W (show n ≤ 512 by omega) hj]
        rw [if_neg (by decide)]
  obtain ⟨r, e1, e2⟩ := key
  exact ⟨r, M, e1, e2, ag_rf M, inv_mo _ _ _ I⟩
theorem wy_P {j : Nat} (e : wy M j = 3 ∨ wy M j = 4 ∨ wy M j = 5) : kD M j ≠ 1 ∧ kD M j ≠ 4 ∧ kD M j ≠ 5 ∧ m_I M 3 (rG M j 0) ≠ 2 ∧ wy M j = wyP M j := by
  unfold wy at e ⊢
  by_cases c5 : kD M j = 5
  · exfalso
    rw [if_pos c5] at e
    revert e
    split
    · split
      · decide
      · decide
    · decide
  rw [if_neg c5] at e ⊢
  by_cases c4 : kD M j = 4
  · exfalso
    rw [if_pos c4] at e
    revert e
    split
    · decide
    · decide
  rw [if_neg c4] at e ⊢
  by_cases c : m_I M 3 (rG M j 0) = 2
  · exfalso
    rw [if_pos c] at e
    revert e
    decide
  rw [if_neg c] at e ⊢
  by_cases c1 : kD M j = 1
  · exfalso
    rw [if_pos c1] at e
    revert e
    split
    · decide
    · decide
  rw [if_neg c1]
  exact ⟨c1, c4, c5, c, rfl⟩
theorem wyP_5 {j : Nat} (e : wyP M j = 5) : kD M j = 7 := by
  unfold wyP at e
  by_cases c : kD M j = 7
  · exact c
  · exfalso
    rw [if_neg c] at e
    revert e
    split
    · decide
    · split
      · split
        · decide
        · decide
      · decide
theorem wy_7 {j : Nat} (e : wy M j = 7) : kD M j = 5 ∧ ¬ lsA (lkB M j) 8 0 (-1) < 0 := by
  unfold wy at e
  by_cases c5 : kD M j = 5
  · refine ⟨c5, fun z => ?_⟩
    rw [if_pos c5, if_pos z] at e
    revert e
    split
    · decide
    · decide
  · exfalso
    rw [if_neg c5] at e
    revert e
    split
    · split
      · decide
      · decide
    · split
      · decide
      · split
        · split
          · decide
          · decide
        · unfold wyP
          split
          · decide
          · split
            · split
              · split
                · split
                  · split
                    · decide
                    · decide
                  · decide
                · decide
              · decide
            · decide
theorem ok_on : Ok_on Inv_ := by
  intro n h M x hn I
  obtain ⟨A, B, ow, C, Z⟩ := id I
  have W := C.2.2.2.2
  have key : ∃ r, f_X3_on h 0 x = some r ∧ f_X4_on M x = some r := by
    unfold f_X3_on f_X4_on f_X4_why
    rw [if_pos C.2.1.1.1, rI_34 C]
    rcases reader_c C x with ⟨a, b⟩ | ⟨j, hj, h16, rfl, a, b⟩
    · rw [a, b]
      by_cases e : m_I M 34 0 = 0
      · refine ⟨-1, ?_, ?_⟩
        · simp only [Option.bind_some, e, if_true]
        · rw [if_pos e]
          rfl
      · refine ⟨-1, ?_, ?_⟩
        · simp only [Option.bind_some, e, if_true, if_false]
        · rw [if_neg e]
          rfl
    · rw [a, b]
      by_cases e : m_I M 34 0 = 0
      · refine ⟨-1, ?_, ?_⟩
        · simp only [Option.bind_some, e, if_true]
        · rw [if_pos e]
          rfl
      · rw [if_neg e]
        simp only [Option.bind_some, reduceCtorEq, if_false, reason_c C (show n ≤ 512 by omega) hj, why4 W (show n ≤ 512 by omega) hj]
        rw [if_neg e, if_neg (show ¬ (1 : Int32) = 0 by decide)]
        simp only [Option.bind_some]
        by_cases e3 : wy M j = 3
        · obtain ⟨a1, a4, a5, a2, -⟩ := wy_P (Or.inl e3)
          refine ⟨nI (fN M j), ?_, ?_⟩
          · rw [if_pos e3, if_pos (C.2.1.2.2.2.2.1 j hj).1, ptr_c C (by omega) hj a1 a4, if_neg (fun z => a2 z.2)]
            rfl
          · rw [if_pos e3, from_c W (by omega) hj]
            rfl
        rw [if_neg e3, if_neg e3]
        by_cases e4 : wy M j = 4
        · obtain ⟨a1, a4, a5, a2, -⟩ := wy_P (Or.inr (Or.inl e4))
          refine ⟨lsA (bB M j) 16 0 (-1), ?_, ?_⟩
          · rw [if_pos e4, lnb_c C hj]
            rfl
          · rw [if_pos e4, behind_c W hj a1 a4]
            rfl
        rw [if_neg e4, if_neg e4]
        by_cases e5 : wy M j = 5
        · obtain ⟨a1, a4, a5, a2, ap⟩ := wy_P (Or.inr (Or.inr e5))
          have k7 := wyP_5 (ap.symm.trans e5)
          obtain ⟨t1, t2, -⟩ := (W.2.2.1 j hj).2.2.2.2.2.2.2.2.2.1 k7
          obtain ⟨s1, s2, s3, -⟩ := C.2.1.2.2.2.2.1 j hj
          refine ⟨nI (tG M j), ?_, ?_⟩
          · rw [if_pos e5, if_pos s1, s3, if_pos k7]
            simp only [Option.bind_some, reduceCtorEq, if_false, (C.2.1.2.2.2.1 _ t2).1, if_true, rI_60 C t2, (W.2.1 _ t2).2.2.2.2.2.1]
          · rw [if_pos e5, if_pos (in_nI h16 (by omega)), cl_nI (by omega), t1]
        rw [if_neg e5, if_neg e5]
        by_cases e6 : wy M j = 6
        · exact ⟨-1, by rw [if_pos e6], by rw [if_pos e6]⟩
        rw [if_neg e6, if_neg e6]
        by_cases e7 : wy M j = 7
        · obtain ⟨k5, z⟩ := wy_7 e7
          refine ⟨lsA (lkB M j) 8 0 (-1), ?_, ?_⟩
          · rw [if_pos e7, lack3 C (by omega) hj]
            rfl
          · rw [if_pos e7, lack4 W (by omega) hj (by omega) (by omega), if_neg z]
            rfl
        rw [if_neg e7, if_neg e7]
        exact ⟨-1, rfl, rfl⟩
  obtain ⟨r, e1, e2⟩ := key
  exact ⟨r, M, e1, e2, ag_rf M, inv_mo _ _ _ I⟩
def rdB (M : Msx) (j : Nat) : Bool := decide (j < nD M ∧ wy M j = 0)
def lvB (M : Msx) (r : Nat) : Bool := decide (r < nR M ∧ m_I M 3 r = 0)
def gdB (M : Msx) (r : Nat) : Bool := lvB M r && !dB M r (cL M r)
theorem ar_loop (C : Cn_ n A B ow h M) (hn : n ≤ 512) : ∀ (m i fuel : Nat), i + m = 16 → m < fuel → l_X3_isAnyReady_2 h 0 fuel (nI i) = some (if anB (rdB M) m i = true then 1 else 0) := by
  intro m
  induction m with
  | zero =>
    intro i fuel hi hf
    obtain ⟨f, rfl⟩ : ∃ f, fuel = f + 1 := ⟨fuel - 1, by omega⟩
    rw [u_X3_isAnyReady_2]
    unfold j_X3_isAnyReady_2
    rw [if_pos (by rw [litle (n := 16) rfl (by omega)]; omega)]
    rfl
  | succ m ih =>
    intro i fuel hi hf
    obtain ⟨f, rfl⟩ : ∃ f, fuel = f + 1 := ⟨fuel - 1, by omega⟩
    rw [u_X3_isAnyReady_2]
    unfold j_X3_isAnyReady_2
    rw [if_neg (by rw [litle (n := 16) rfl (by omega)]; omega), if_pos C.2.1.1.1, readerAt_nI C (by omega), nI_1, ih (i + 1) f (by omega) (by omega), anB_s]
    by_cases e : i < nD M
    · simp only [if_pos e, Option.bind_some, reduceCtorEq, if_false, reason_c C hn e]
      by_cases c : wy M i = 0
      · rw [if_pos c, show rdB M i = true by simp [rdB, e, c], Bool.true_or]
        rfl
      · rw [if_neg c, show rdB M i = false by simp [rdB, c], Bool.false_or]
    · simp only [if_neg e, Option.bind_some, if_true]
      rw [show rdB M i = false by simp [rdB, e], Bool.false_or]
theorem s20_loop (C : Cn_ n A B ow h M) (hn : n ≤ 512) : ∀ (m i fuel : Nat) (x : Int32), i + m = 8 → m < fuel → (x = 0 ∨ x = 1) → l_X3_stuck_20 h 0 fuel x (nI i) = some (if anB (gdB M) m i = true then 0 else if x = 0 ∧ anB (lvB M) m i = false then 0 else 1) := by
  have W := C.2.2.2.2
  intro m
  induction m with
  | zero =>
    intro i fuel x hi hf hx
    obtain ⟨f, rfl⟩ : ∃ f, fuel = f + 1 := ⟨fuel - 1, by omega⟩
    rw [u_X3_stuck_20]
    unfold j_X3_stuck_20
    rw [if_pos (by rw [litle (n := 8) rfl (by omega)]; omega), if_pos hx]
    rcases hx with rfl | rfl <;> rfl
  | succ m ih =>
    intro i fuel x hi hf hx
    obtain ⟨f, rfl⟩ : ∃ f, fuel = f + 1 := ⟨fuel - 1, by omega⟩
    rw [u_X3_stuck_20]
    unfold j_X3_stuck_20
    rw [if_neg (by rw [litle (n := 8) rfl (by omega)]; omega), if_pos C.2.1.1.1, ringAt_nI C (by omega), nI_1, ih (i + 1) f x (by omega) (by omega) hx, ih (i + 1) f 1 (by omega) (by omega) (Or.inr rfl), anB_s, anB_s]
    by_cases e : i < nR M
    · have w := W.2.1 i e
      have hc := w.2.2.2.1
      simp only [if_pos e, Option.bind_some, reduceCtorEq, if_false, (C.2.1.2.2.2.1 i e).1, if_true, live_c C e, rI_2 C e, w.2.2.1, isHeldUp3 C hn e (show cL M i < 2 ^ 29 by omega)]
      by_cases c : m_I M 3 i = 0
      · have l1 : lvB M i = true := by simp [lvB, e, c]
        rw [if_pos c, if_neg (show ¬ (1 : Int32) = 0 by decide), l1, Bool.true_or]
        by_cases d : dB M i (cL M i) = true
        · rw [if_pos d, if_neg (show ¬ (1 : Int32) = 0 by decide), show gdB M i = false by simp [gdB, d], Bool.false_or]
          rw [if_neg (show ¬ ((1 : Int32) = 0 ∧ anB (lvB M) m (i + 1) = false) from fun z => absurd z.1 (by decide)), if_neg (show ¬ (x = 0 ∧ true = false) from fun z => absurd z.2 (by decide))]
        · rw [if_neg d, if_pos rfl, show gdB M i = true by simp [gdB, d, l1], Bool.true_or]
          rfl
      · rw [if_neg c, if_pos rfl, show gdB M i = false by simp [gdB, lvB, c], show lvB M i = false by simp [lvB, c], Bool.false_or, Bool.false_or]
    · simp only [if_neg e, Option.bind_some, if_true]
      rw [show gdB M i = false by simp [gdB, lvB, e], show lvB M i = false by simp [lvB, e], Bool.false_or, Bool.false_or]
theorem s43_loop (W : Wf_ n M) (hn : n ≤ 512) : ∀ (m i fuel : Nat) (x y : Int32), i + m = nR M → m < fuel → l_X4_stuck_43 M fuel x y (nI i) = some (if x = 0 then 0 else if anB (gdB M) m i = true then 0 else if y = 0 ∧ anB (lvB M) m i = false then 0 else 1) := by
  have h8 := W.1.2.1
  intro m
  induction m with
  | zero =>
    intro i fuel x y hi hf
    obtain ⟨f, rfl⟩ : ∃ f, fuel = f + 1 := ⟨fuel - 1, by omega⟩
    rw [u_X4_stuck_43]
    unfold j_X4_stuck_43
    rw [W.1.1, if_pos (by rw [nI_leI (by omega) (by omega)]; omega)]
    by_cases c : x = 0
    · rw [if_pos c, if_pos c]
    · rw [if_neg c, if_neg c]
      by_cases d : y = 0
      · rw [if_pos d, if_neg (show ¬ anB (gdB M) 0 i = true from Bool.false_ne_true), if_pos ⟨d, rfl⟩]
      · rw [if_neg d, if_neg (show ¬ anB (gdB M) 0 i = true from Bool.false_ne_true), if_neg (fun z => d z.1)]
  | succ m ih =>
    intro i fuel x y hi hf
    obtain ⟨f, rfl⟩ : ∃ f, fuel = f + 1 := ⟨fuel - 1, by omega⟩
    have e : i < nR M := by omega
    rw [u_X4_stuck_43]
    unfold j_X4_stuck_43
    rw [W.1.1, if_neg (by rw [nI_leI (by omega) (by omega)]; omega), if_pos (in_nI (show i < 8 by omega) (by omega)), cl_nI (by omega), nI_1, isHeldUp4 W hn e]
    simp only [Option.bind_some, ih (i + 1) f _ _ (show i + 1 + m = nR M by omega) (show m < f by omega)]
    rw [anB_s, anB_s]
    by_cases c : m_I M 3 i = 0
    · have l1 : lvB M i = true := by simp [lvB, e, c]
      rw [if_pos c, l1, Bool.true_or]
      by_cases cx : x = 0
      · rw [if_pos cx, if_pos cx, if_pos trivial]
      · rw [if_neg cx, if_neg cx]
        by_cases d : dB M i (cL M i) = true
        · rw [if_pos d, if_neg (show ¬ (1 : Int32) = 0 by decide), if_neg (show ¬ (1 : Int32) = 0 by decide), show gdB M i = false by simp [gdB, d], Bool.false_or]
          rw [if_neg (show ¬ ((1 : Int32) = 0 ∧ anB (lvB M) m (i + 1) = false) from fun z => absurd z.1 (by decide)), if_neg (show ¬ (y = 0 ∧ true = false) from fun z => absurd z.2 (by decide))]
        · rw [if_neg d, if_pos rfl, if_pos trivial, show gdB M i = true by simp [gdB, d, l1], Bool.true_or]
          rfl
    · rw [if_neg c, show gdB M i = false by simp [gdB, lvB, c], show lvB M i = false by simp [lvB, c], Bool.false_or, Bool.false_or]
theorem s7_loop (W : Wf_ n M) (hn : n ≤ 512) : ∀ (m i fuel : Nat) (x : Int32), i + m = nD M → m < fuel → l_X4_stuck_7 M fuel x (nI i) = l_X4_stuck_43 M 70 (if anB (rdB M) m i = true then 0 else if x = 0 then 0 else x) 0 0 ∨ (x ≠ 0 ∧ anB (rdB M) m i = false ∧ l_X4_stuck_7 M fuel x (nI i) = l_X4_stuck_43 M 70 1 0 0) := by
  have h16 := W.1.2.2.2.1
  intro m
  induction m with
  | zero =>
    intro i fuel x hi hf
    obtain ⟨f, rfl⟩ : ∃ f, fuel = f + 1 := ⟨fuel - 1, by omega⟩
    left
    rw [u_X4_stuck_7]
    unfold j_X4_stuck_7
    rw [W.1.2.2.1, if_pos (by rw [nI_leI (by omega) (by omega)]; omega), if_neg (show ¬ anB (rdB M) 0 i = true from Bool.false_ne_true)]
    by_cases c : x = 0
    · rw [if_pos c, c]
    · rw [if_neg c]
  | succ m ih =>
    intro i fuel x hi hf
    obtain ⟨f, rfl⟩ : ∃ f, fuel = f + 1 := ⟨fuel - 1, by omega⟩
    have e : i < nD M := by omega
    rw [u_X4_stuck_7, anB_s]
    unfold j_X4_stuck_7
    rw [W.1.2.2.1, if_neg (by rw [nI_leI (by omega) (by omega)]; omega), nI_1]
    have i0 : l_X4_stuck_7 M f 0 (nI (i + 1)) = l_X4_stuck_43 M 70 0 0 0 := by
      rcases ih (i + 1) f 0 (by omega) (by omega) with z | ⟨z, -⟩
      · rw [z]
        split
        · rfl
        · rfl
      · exact absurd rfl z
    by_cases c : x = 0
    · left
      rw [if_pos c, i0]
      split
      · rfl
      · rfl
    · rw [if_neg c, why4 W hn e]
      simp only [Option.bind_some]
      by_cases d : wy M i = 0
      · left
        rw [if_pos d, i0, show rdB M i = true by simp [rdB, e, d], Bool.true_or]
        rfl
      · rw [if_neg d, show rdB M i = false by simp [rdB, d], Bool.false_or]
        rcases ih (i + 1) f 1 (by omega) (by omega) with z | ⟨-, z1, z2⟩
        · by_cases t : anB (rdB M) m (i + 1) = true
          · left
            rw [z, if_pos t, if_pos t]
          · right
            refine ⟨c, by simpa using t, ?_⟩
            rw [z, if_neg t, if_neg (show ¬ (1 : Int32) = 0 by decide)]
        · right
          exact ⟨c, z1, z2⟩
theorem ok_stuck : Ok_stuck Inv_ := by
  intro n h M hn I
  obtain ⟨A, B, ow, C, Z⟩ := id I
  have W := C.2.2.2.2
  have h8 := W.1.2.1
  have h16 := W.1.2.2.2.1
  have z43 : ∀ x, l_X4_stuck_43 M 70 x 0 0 = some (if x = 0 then 0 else if anB (gdB M) (nR M) 0 = true then 0 else if (0 : Int32) = 0 ∧ anB (lvB M) (nR M) 0 = false then 0 else 1) := fun x => s43_loop W (by omega) (nR M) 0 70 x 0 (by omega) (by omega)
  have eg : anB (gdB M) 8 0 = anB (gdB M) (nR M) 0 := by
    rw [show (8 : Nat) = nR M + (8 - nR M) by omega]
    exact anB_cut fun t ht => by
      have : ¬ t < nR M := by omega
      simp [gdB, lvB, this]
  have el : anB (lvB M) 8 0 = anB (lvB M) (nR M) 0 := by
    rw [show (8 : Nat) = nR M + (8 - nR M) by omega]
    exact anB_cut fun t ht => by
      have : ¬ t < nR M := by omega
      simp [lvB, this]
  have ed : anB (rdB M) 16 0 = anB (rdB M) (nD M) 0 := by
    rw [show (16 : Nat) = nD M + (16 - nD M) by omega]
    exact anB_cut fun t ht => by
      have : ¬ t < nD M := by omega
      simp [rdB, this]
  have key : ∃ r, f_X3_stuck h 0 = some r ∧ f_X4_stuck M = some r := by
    unfold f_X3_stuck f_X4_stuck f_X3_isAnyReady
    have a1 : l_X3_isAnyReady_2 h 0 70 0 = some (if anB (rdB M) 16 0 = true then 1 else 0) := ar_loop C (by omega) 16 0 70 (by omega) (by omega)
    have a2 : l_X3_stuck_20 h 0 70 0 0 = some (if anB (gdB M) 8 0 = true then 0 else if (0 : Int32) = 0 ∧ anB (lvB M) 8 0 = false then 0 else 1) := s20_loop C (by omega) 8 0 70 0 (by omega) (by omega) (Or.inl rfl)
    have a3 := s7_loop W (show n ≤ 512 by omega) (nD M) 0 70 (m_I M 34 0) (by omega) (by omega)
    rw [if_pos C.2.1.1.1, rI_34 C, a1, a2, eg, el, ed]
    rw [show nI 0 = (0 : Int32) from rfl] at a3
    rcases W.1.2.2.2.2.1 with e | e
    · refine ⟨0, by rw [if_pos e], ?_⟩
      rw [e] at a3 ⊢
      rcases a3 with z | ⟨z, -⟩
      · rw [z, z43, if_pos]
        split
        · rfl
        · rfl
      · exact absurd rfl z
    · rw [e] at a3 ⊢
      rw [if_neg (show ¬ (1 : Int32) = 0 by decide)]
      by_cases t : anB (rdB M) (nD M) 0 = true
      · refine ⟨0, ?_, ?_⟩
        · rw [if_pos t]
          rfl
        · rcases a3 with z | ⟨-, z1, -⟩
          · rw [z, if_pos t, z43, if_pos rfl]
          · rw [z1] at t
            exact absurd t Bool.false_ne_true
      · have z : l_X4_stuck_7 M 70 1 0 = l_X4_stuck_43 M 70 1 0 0 := by
          rcases a3 with z | ⟨-, -, z⟩
          · rw [z, if_neg t, if_neg (show ¬ (1 : Int32) = 0 by decide)]
          · exact z
        refine ⟨(if anB (gdB M) (nR M) 0 = true then 0 else if (0 : Int32) = 0 ∧ anB (lvB M) (nR M) 0 = false then 0 else 1), ?_, ?_⟩
        · rw [if_neg t]
          rfl
        · rw [z, z43, if_neg (show ¬ (1 : Int32) = 0 by decide)]
  obtain ⟨r, e1, e2⟩ := key
  exact ⟨r, M, e1, e2, ag_rf M, inv_mo _ _ _ I⟩
end WY
