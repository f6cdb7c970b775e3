/-! readers that merge: which ring is awaited, which lacks, which comes first -/
theorem lsA_addN {P Q : Nat → Bool} {m x : Nat} (hx : x < m) (hm : m < 2 ^ 31) (hQ : ∀ t, t < m → Q t = (P t || decide (x = t))) : lsA Q m 0 (nI m) = (if lsA P m 0 (nI m) ≤ nI x then lsA P m 0 (nI m) else nI x) := by
  rcases lsA_or P m 0 (nI m) with ⟨z1, z2⟩ | ⟨u, u1, u2, u3, u4, u5⟩
  · rw [z1, if_neg (by rw [nI_leI (by omega) (by omega)]; omega)]
    refine lsA_is (Nat.zero_le x) (by omega) (by rw [hQ x hx]; simp) (fun t' a b => ?_)
    rw [hQ t' (by omega), z2 t' a (by omega)]
    simp
    omega
  · rw [u4]
    by_cases c : nI u ≤ nI x
    · rw [if_pos c]
      rw [nI_leI (by omega) (by omega)] at c
      refine lsA_is (Nat.zero_le u) (by omega) (by rw [hQ u (by omega), u3]; rfl) (fun t' a b => ?_)
      rw [hQ t' (by omega), u5 t' a b]
      simp
      omega
    · rw [if_neg c]
      rw [nI_leI (by omega) (by omega)] at c
      refine lsA_is (Nat.zero_le x) (by omega) (by rw [hQ x hx]; simp) (fun t' a b => ?_)
      rw [hQ t' (by omega), u5 t' a (by omega)]
      simp
      omega
section MG
variable {n : Nat} {A B ow : Nat → Nat} {h : Hpx} {M Mm : Msx}
/-- ring q is awaited by reader j -/
def aw (M : Msx) (j q : Nat) : Bool := decide (¬ pC M j q < 0) && (decide (m_I M 3 q ≠ 2) && (decide (m_I M 3 q ≠ 1) || decide (¬ nI (cL M q) ≤ pC M j q)))
def pN (M : Msx) (j q : Nat) : Nat := (pC M j q).toNatClampNeg
def lkB (M : Msx) (j q : Nat) : Bool := decide (q < nR M) && (aw M j q && !pB M q (pN M j q))
theorem awaited_c (C : Cn_ n A B ow h M) {j q : Nat} (hj : j < nD M) (hq : q < nR M) : f_X3_isAwaited h 0 (some (B j)) (some (A q)) = some (if aw M j q = true then 1 else 0) := by
  have W := C.2.2.2.2
  have h8 : q < 8 := by have := W.1.2.1; omega
  have w := W.2.1 q hq
  unfold f_X3_isAwaited j_X3_isAwaited_35
  simp only [Option.bind_some, (C.2.1.2.2.2.1 q hq).1, (C.2.1.2.2.2.2.1 j hj).1, if_true, rI_60 C hq, w.2.2.2.2.2.1, placeIn1 C hj h8, rI_50 C hq, rI_51 C hq, rI_2 C hq, w.2.2.1]
  unfold aw
  by_cases c : pC M j q < 0
  · simp [c]
  · rw [if_neg c, decide_eq_true c, Bool.true_and]
    rcases how_3 w with ⟨q1, q2, q3⟩ | ⟨q1, q2, q3⟩ | ⟨q1, q2⟩
    · rw [q1, q2, q3]
      rfl
    · rw [q1, q2, q3]
      by_cases c2 : nI (cL M q) ≤ pC M j q
      · simp [c2]
      · simp [c2]
    · rw [q1, q2]
      rfl
/-- a merging reader's k-th ring -/
theorem pk_c (W : Wf_ n M) {j k : Nat} (hj : j < nD M) (a1 : kD M j ≠ 1) (a4 : kD M j ≠ 4) (hk : k < rM M j) : k < 4 ∧ m_I M 12 (4 * j + k) = nI (rG M j k) ∧ rG M j k < nR M ∧ rG M j k < 8 ∧ m_I M 13 (4 * j + k) = nI (pL M j k) ∧ pC M j (rG M j k) = nI (pL M j k) ∧ pN M j (rG M j k) = pL M j k ∧ pL M j k ≤ cL M (rG M j k) ∧ cL M (rG M j k) ≤ 64 * n := by
  obtain ⟨-, ⟨-, w2a, w2b, -⟩, w3, -, w5, -⟩ := W.2.2.1 j hj
  obtain ⟨g1, g2, g3, g4⟩ := w3 k hk
  have h8 := W.1.2.1
  have hp : pC M j (rG M j k) = nI (pL M j k) := by
    unfold pC
    rw [(w5 a1 a4).1 k hk, g3]
  refine ⟨by omega, g1, g2, by omega, g3, hp, ?_, g4, (W.2.1 _ g2).2.2.2.1⟩
  unfold pN
  rw [hp, ← g3]
  rfl
theorem passed_c (W : Wf_ n M) (hn : n ≤ 513) {j k : Nat} (hj : j < nD M) (a1 : kD M j ≠ 1) (a4 : kD M j ≠ 4) (hk : k < rM M j) : f_X4_isPassed M (nI j) (nI k) = some (if aw M j (rG M j k) = true then 0 else 1) := by
  have h16 : j < 16 := by have := W.1.2.2.2.1; omega
  obtain ⟨k4, g1, g2, g8, g3, gp, gn, g4, g5⟩ := pk_c W hj a1 a4 hk
  have w := W.2.1 _ g2
  unfold f_X4_isPassed j_X4_isPassed_50
  simp only [four_j, nI_add, in_nI (show 4 * j + k < 64 by omega) (show 64 ≤ 65536 by omega), if_true, cl_nI (show 4 * j + k < 2 ^ 31 by omega), g1, g3, in_nI g8 (show 8 ≤ 65536 by omega), cl_nI (show rG M j k < 2 ^ 31 by omega), w.2.2.1]
  unfold aw
  rw [gp, decide_eq_true (nI_pos (show pL M j k < 2 ^ 31 by omega)), Bool.true_and]
  rcases how_3 w with ⟨q1, q2, q3⟩ | ⟨q1, q2, q3⟩ | ⟨q1, q2⟩
  · rw [q1]
    rfl
  · rw [q1, if_neg (by decide), if_pos rfl]
    by_cases c2 : pL M j k = cL M (rG M j k)
    · rw [if_pos (by rw [c2])]
      have : nI (cL M (rG M j k)) ≤ nI (pL M j k) := by rw [nI_leI (by omega) (by omega)]; omega
      simp [this]
    · rw [if_neg (nI_ne (by omega) (by omega) c2)]
      have : ¬ nI (cL M (rG M j k)) ≤ nI (pL M j k) := by rw [nI_leI (by omega) (by omega)]; omega
      simp [this]
  · rw [q1]
    rfl
theorem aw_p (W : Wf_ n M) (hn : n ≤ 513) {j q : Nat} (hj : j < nD M) (h8 : q < 8) (h : aw M j q = true) : kD M j ≠ 1 ∧ kD M j ≠ 4 ∧ ∃ k, k < rM M j ∧ rG M j k = q ∧ pC M j q = nI (pN M j q) ∧ pN M j q = pL M j k := by
  unfold aw at h
  rw [Bool.and_eq_true, decide_eq_true_eq] at h
  rcases pC_or W hj h8 with ⟨z, -⟩ | ⟨a1, a4, k, hk, hkq, z1, z2, z3⟩
  · exact absurd (by rw [z]; decide) h.1
  · obtain ⟨k4, g1, g2, g8, g3, gp, gn, g4, g5⟩ := pk_c W hj a1 a4 hk
    rw [hkq] at gn gp
    exact ⟨a1, a4, k, hk, hkq, by rw [gn]; exact gp, gn⟩
theorem pN_b (W : Wf_ n M) (hn : n ≤ 513) {j q : Nat} (hj : j < nD M) (h8 : q < 8) (h : aw M j q = true) : pN M j q < 2 ^ 30 ∧ pN M j q ≤ cL M q := by
  obtain ⟨a1, a4, k, hk, hkq, -, e⟩ := aw_p W hn hj h8 h
  obtain ⟨k4, g1, g2, g8, g3, gp, gn, g4, g5⟩ := pk_c W hj a1 a4 hk
  rw [hkq] at g4 g5
  omega
theorem ll_loop (C : Cn_ n A B ow h M) (hn : n ≤ 512) {j : Nat} (hj : j < nD M) : ∀ (m q fuel : Nat), q + m = 8 → m < fuel → l_X3_leastLackingRing_2 h 0 fuel (some (B j)) (nI q) = some (lsA (lkB M j) m q (-1)) := by
  have W := C.2.2.2.2
  have s1 := (C.2.1.2.2.2.2.1 j hj).1
  intro m
  induction m with
  | zero =>
    intro q fuel hq hf
    obtain ⟨f, rfl⟩ : ∃ f, fuel = f + 1 := ⟨fuel - 1, by omega⟩
    rw [u_X3_leastLackingRing_2]
    unfold j_X3_leastLackingRing_2
    rw [if_pos (by rw [litle (n := 8) rfl (by omega)]; omega)]
    rfl
  | succ m ih =>
    intro q fuel hq hf
    obtain ⟨f, rfl⟩ : ∃ f, fuel = f + 1 := ⟨fuel - 1, by omega⟩
    rw [u_X3_leastLackingRing_2]
    unfold j_X3_leastLackingRing_2
    rw [if_neg (by rw [litle (n := 8) rfl (by omega)]; omega), if_pos C.2.1.1.1, ringAt_nI C (by omega), nI_1, ih (q + 1) f (by omega) (by omega), lsA]
    by_cases e : q < nR M
    · simp only [if_pos e, Option.bind_some, reduceCtorEq, if_false, awaited_c C hj e, s1, if_true, placeIn1 C hj (show q < 8 by omega), (C.2.1.2.2.2.1 q e).1]
      by_cases c : aw M j q = true
      · obtain ⟨-, -, k, hk, hkq, ep, -⟩ := aw_p W (by omega) hj (by omega) c
        have hb := pN_b W (by omega) hj (show q < 8 by omega) c
        rw [if_pos c, if_neg (by decide), ep, isPub_nI C hn e hb.1]
        simp only [Option.bind_some]
        by_cases c2 : pB M q (pN M j q) = true
        · rw [if_pos c2, if_neg (by decide), if_neg (by simp [lkB, c2])]
        · rw [if_neg c2, if_pos rfl, if_pos (by simp [lkB, e, c, c2])]
      · rw [if_neg c, if_pos rfl, if_neg (by simp [lkB, c])]
    · simp only [if_neg e, Option.bind_some, if_true]
      rw [if_neg (by simp [lkB, e])]
theorem lack3 (C : Cn_ n A B ow h M) (hn : n ≤ 512) {j : Nat} (hj : j < nD M) : f_X3_leastLackingRing h 0 (some (B j)) = some (lsA (lkB M j) 8 0 (-1)) := by
  unfold f_X3_leastLackingRing
  exact ll_loop C hn hj 8 0 70 (by omega) (by omega)
def aK (M : Msx) (j : Nat) : Nat → Bool
  | 0 => false
  | k + 1 => aK M j k || aw M j (rG M j k)
theorem aK_iff {j : Nat} : ∀ m, aK M j m = true ↔ ∃ k, k < m ∧ aw M j (rG M j k) = true
  | 0 => ⟨fun z => absurd z Bool.false_ne_true, fun ⟨k, h, _⟩ => absurd h (by omega)⟩
  | m + 1 => by
    unfold aK
    rw [Bool.or_eq_true, aK_iff m]
    constructor
    · rintro (⟨k, h1, h2⟩ | h)
      · exact ⟨k, by omega, h2⟩
      · exact ⟨m, by omega, h⟩
    · rintro ⟨k, h1, h2⟩
      by_cases c : k = m
      · subst c
        exact Or.inr h2
      · exact Or.inl ⟨k, by omega, h2⟩
def lK (M : Msx) (j : Nat) : Nat → Nat → Bool
  | 0, _ => false
  | k + 1, q => lK M j k q || (decide (rG M j k = q) && lkB M j q)
theorem lK_iff {j q : Nat} : ∀ m, lK M j m q = true ↔ (∃ k, k < m ∧ rG M j k = q) ∧ lkB M j q = true
  | 0 => ⟨fun z => absurd z Bool.false_ne_true, fun ⟨⟨k, h, _⟩, _⟩ => absurd h (by omega)⟩
  | m + 1 => by
    unfold lK
    rw [Bool.or_eq_true, lK_iff m, Bool.and_eq_true, decide_eq_true_eq]
    constructor
    · rintro (⟨⟨k, h1, h2⟩, h3⟩ | ⟨h1, h2⟩)
      · exact ⟨⟨k, by omega, h2⟩, h3⟩
      · exact ⟨⟨m, by omega, h1⟩, h2⟩
    · rintro ⟨⟨k, h1, h2⟩, h3⟩
      by_cases c : k = m
      · subst c
        exact Or.inr ⟨h2, h3⟩
      · exact Or.inl ⟨⟨k, by omega, h2⟩, h3⟩
def x2A (b : Bool) : Int32 := if b = true then -1 else -2
theorem la_loop (W : Wf_ n M) (hn : n ≤ 512) {j : Nat} (hj : j < nD M) (a1 : kD M j ≠ 1) (a4 : kD M j ≠ 4) : ∀ (m k fuel : Nat), k + m = rM M j → m < fuel → l_X4_lacking_9 M fuel (nI j) (x2A (aK M j k)) (lsA (lK M j k) 8 0 (nI 8)) (nI k) = some (if (8 : Int32) ≤ lsA (lK M j (rM M j)) 8 0 (nI 8) then x2A (aK M j (rM M j)) else lsA (lK M j (rM M j)) 8 0 (nI 8)) := by
  have h16 : j < 16 := by have := W.1.2.2.2.1; omega
  obtain ⟨-, ⟨w2, w2a, w2b, -⟩, -⟩ := W.2.2.1 j hj
  intro m
  induction m with
  | zero =>
    intro k fuel hk hf
    obtain ⟨f, rfl⟩ : ∃ f, fuel = f + 1 := ⟨fuel - 1, by omega⟩
    rw [u_X4_lacking_9]
    unfold j_X4_lacking_9
    rw [if_pos (in_nI h16 (by omega)), cl_nI (by omega), w2, if_pos (by rw [nI_leI (by omega) (by omega)]; omega), show k = rM M j by omega]
    split <;> rfl
  | succ m ih =>
    intro k fuel hk hf
    obtain ⟨f, rfl⟩ : ∃ f, fuel = f + 1 := ⟨fuel - 1, by omega⟩
    obtain ⟨k4, g1, g2, g8, g3, gp, gn, g4, g5⟩ := pk_c W hj a1 a4 (show k < rM M j by omega)
    have := ih (k + 1) f (by omega) (by omega)
    rw [u_X4_lacking_9]
    unfold j_X4_lacking_9
    simp only [in_nI h16 (show 16 ≤ 65536 by omega), if_true, cl_nI (show j < 2 ^ 31 by omega), w2, four_j, nI_add, in_nI (show 4 * j + k < 64 by omega) (show 64 ≤ 65536 by omega), cl_nI (show 4 * j + k < 2 ^ 31 by omega), g1, g3, passed_c W (show n ≤ 513 by omega) hj a1 a4 (show k < rM M j by omega), Option.bind_some, isPub4_nI W hn g2 (show pL M j k < 2 ^ 30 by omega), nI_1]
    rw [if_neg (by rw [nI_leI (by omega) (by omega)]; omega)]
    by_cases c : aw M j (rG M j k) = true
    · have ea : aK M j (k + 1) = true := by
        show (aK M j k || aw M j (rG M j k)) = true
        rw [c, Bool.or_true]
      rw [ea, show x2A true = -1 from rfl] at this
      rw [if_pos c, if_pos rfl]
      by_cases c2 : pB M (rG M j k) (pL M j k) = true
      · have el : lsA (lK M j (k + 1)) 8 0 (nI 8) = lsA (lK M j k) 8 0 (nI 8) := lsA_cong 8 0 _ fun t _ _ => by
          show (lK M j k t || (decide (rG M j k = t) && lkB M j t)) = _
          by_cases e : rG M j k = t
          · rw [← e, show lkB M j (rG M j k) = false by simp [lkB, gn, c2], Bool.and_false, Bool.or_false]
          · rw [decide_eq_false e, Bool.false_and, Bool.or_false]
        rw [el] at this
        rw [if_pos c2, if_neg (by decide)]
        exact this
      · have el := lsA_addN (P := lK M j k) (Q := lK M j (k + 1)) (m := 8) (x := rG M j k) g8 (by omega) (fun t _ => by
          show (lK M j k t || (decide (rG M j k = t) && lkB M j t)) = _
          by_cases e : rG M j k = t
          · rw [← e, show lkB M j (rG M j k) = true by simp [lkB, gn, c2, g2, c], Bool.and_true]
          · rw [decide_eq_false e, Bool.false_and])
        rw [el] at this
        rw [if_neg c2, if_pos rfl]
        by_cases c3 : lsA (lK M j k) 8 0 (nI 8) ≤ nI (rG M j k)
        · rw [if_pos c3] at this ⊢
          exact this
        · rw [if_neg c3] at this ⊢
          exact this
    · have cf : aw M j (rG M j k) = false := by simpa using c
      have ea : aK M j (k + 1) = aK M j k := by
        show (aK M j k || aw M j (rG M j k)) = _
        rw [cf, Bool.or_false]
      have el : lsA (lK M j (k + 1)) 8 0 (nI 8) = lsA (lK M j k) 8 0 (nI 8) := lsA_cong 8 0 _ fun t _ _ => by
        show (lK M j k t || (decide (rG M j k = t) && lkB M j t)) = _
        by_cases e : rG M j k = t
        · rw [← e, show lkB M j (rG M j k) = false by simp [lkB, cf], Bool.and_false, Bool.or_false]
        · rw [decide_eq_false e, Bool.false_and, Bool.or_false]
      rw [ea, el] at this
      rw [if_neg c, if_neg (by decide)]
      exact this
theorem lack4 (W : Wf_ n M) (hn : n ≤ 512) {j : Nat} (hj : j < nD M) (a1 : kD M j ≠ 1) (a4 : kD M j ≠ 4) : f_X4_lacking M (nI j) = some (if lsA (lkB M j) 8 0 (-1) < 0 then x2A (aK M j (rM M j)) else lsA (lkB M j) 8 0 (-1)) := by
  have hr := (W.2.2.1 j hj).2.1.2.2.1
  have := la_loop W hn hj a1 a4 (rM M j) 0 70 (by omega) (by omega)
  rw [lsA_no (P := lK M j 0) (fun t _ _ => rfl)] at this
  unfold f_X4_lacking
  refine Eq.trans this ?_
  have el : lsA (lK M j (rM M j)) 8 0 (nI 8) = lsA (lkB M j) 8 0 (nI 8) := lsA_cong 8 0 _ fun t _ ht => by
    rw [Bool.eq_iff_iff, lK_iff]
    constructor
    · exact fun z => z.2
    · intro z
      refine ⟨?_, z⟩
      unfold lkB at z
      rw [Bool.and_eq_true, Bool.and_eq_true] at z
      obtain ⟨-, -, k, hk, hkq, -⟩ := aw_p W (by omega) hj (by omega) z.2.1
      exact ⟨k, hk, hkq⟩
  rw [el]
  rcases lsA_or (lkB M j) 8 0 (nI 8) with ⟨z1, z2⟩ | ⟨u, u1, u2, u3, u4, u5⟩
  · rw [z1, lsA_no (acc := -1) z2, if_pos (by decide), if_pos (by decide)]
  · rw [u4, lsA_is (acc := -1) u1 u2 u3 u5, if_neg (by rw [litle (n := 8) rfl (by omega)]; omega), if_neg (nI_pos (by omega))]
/-- rings whose message may be taken, and their stamps -/
def cd (M : Msx) (j q : Nat) : Bool := decide (q < nR M) && (aw M j q && kp M q (pN M j q))
def sT (M : Msx) (j q : Nat) : Int64 := m_J M 6 (64 * q + pN M j q % sL M q)
def ch2 (M : Msx) (j q : Nat) : Option Nat → Option Nat
  | none => some q
  | some b' => if sT M j q < sT M j b' then some q else some b'
def pickC (M : Msx) (j q : Nat) (b : Option Nat) : Option Nat := if cd M j q = true then ch2 M j q b else b
def bq (M : Msx) (j : Nat) : Nat → Nat → Option Nat → Option Nat
  | 0, _, b => b
  | m + 1, q, b => bq M j m (q + 1) (pickC M j q b)
def sO (M : Msx) (j : Nat) (b : Option Nat) : Int64 := match b with
  | none => 0
  | some q => sT M j q
theorem lt_cmp (x y : Int64) : (0 ≤ lg_cmp x y) ↔ ¬ x < y := by
  rw [lg_cmp_ge, Int64.lt_iff_toInt_lt, Int64.le_iff_toInt_le]
  omega
theorem rs_loop (C : Cn_ n A B ow h M) (hn : n ≤ 512) {j : Nat} (hj : j < nD M) : ∀ (m q fuel : Nat) (b : Option Nat), q + m = 8 → m < fuel → l_X3_ringOfLeastStamp_7 h 0 fuel (some (B j)) (b.map A) (sO M j b) (nI q) = some ((bq M j m q b).map A) := by
  have W := C.2.2.2.2
  have s1 := (C.2.1.2.2.2.2.1 j hj).1
  intro m
  induction m with
  | zero =>
    intro q fuel b hq hf
    obtain ⟨f, rfl⟩ : ∃ f, fuel = f + 1 := ⟨fuel - 1, by omega⟩
    rw [u_X3_ringOfLeastStamp_7]
    unfold j_X3_ringOfLeastStamp_7
    rw [if_pos (by rw [litle (n := 8) rfl (by omega)]; omega)]
    rfl
  | succ m ih =>
    intro q fuel b hq hf
    obtain ⟨f, rfl⟩ : ∃ f, fuel = f + 1 := ⟨fuel - 1, by omega⟩
    have ih' := ih (q + 1) f (pickC M j q b) (by omega) (by omega)
    rw [u_X3_ringOfLeastStamp_7, bq]
    unfold j_X3_ringOfLeastStamp_7
    rw [if_neg (by rw [litle (n := 8) rfl (by omega)]; omega), if_pos C.2.1.1.1, ringAt_nI C (by omega), nI_1]
    by_cases e : q < nR M
    · simp only [if_pos e, Option.bind_some, reduceCtorEq, if_false, awaited_c C hj e, s1, if_true, placeIn1 C hj (show q < 8 by omega), (C.2.1.2.2.2.1 q e).1]
      by_cases c : aw M j q = true
      · obtain ⟨-, -, k, hk, hkq, ep, -⟩ := aw_p W (by omega) hj (by omega) c
        have hb := pN_b W (by omega) hj (show q < 8 by omega) c
        have hm := sl_mod (q := pN M j q) (W.2.1 q e)
        rw [if_pos c, if_neg (by decide), ep, slotOf_nI C hn e hb.1]
        simp only [Option.bind_some]
        by_cases c2 : kp M q (pN M j q) = true
        · have ecd : cd M j q = true := by simp [cd, e, c, c2]
          have ep2 : pickC M j q b = ch2 M j q b := by unfold pickC; rw [if_pos ecd]
          rw [ep2] at ih' ⊢
          have es : h_J h (A q + 2 + 2 * (pN M j q % sL M q)) 3 = sT M j q := rJ_6 C e hm.1 hm.2
          simp only [if_pos c2, Option.bind_some, reduceCtorEq, if_false, ((C.2.1.2.2.2.1 q e).2.2.2.2 _ hm.1).2.1, if_true, es]
          cases b with
          | none =>
            exact ih'
          | some b' =>
            simp only [Option.map_some, reduceCtorEq, if_false, lt_cmp]
            by_cases c3 : sT M j q < sT M j b'
            · simp only [ch2, if_pos c3] at ih'
              rw [if_neg (fun z => z (show sT M j q < sO M j (some b') from c3))]
              simp only [ch2, if_pos c3]
              exact ih'
            · simp only [ch2, if_neg c3] at ih'
              rw [if_pos (show ¬ sT M j q < sO M j (some b') from c3)]
              simp only [ch2, if_neg c3]
              exact ih'
        · have ep2 : pickC M j q b = b := by unfold pickC; rw [if_neg (by simp [cd, c2])]
          rw [ep2] at ih' ⊢
          simp only [if_neg c2, if_true]
          exact ih'
      · have ep2 : pickC M j q b = b := by unfold pickC; rw [if_neg (by simp [cd, c])]
        rw [ep2] at ih' ⊢
        rw [if_neg c, if_pos rfl]
        exact ih'
    · have ep2 : pickC M j q b = b := by unfold pickC; rw [if_neg (by simp [cd, e])]
      rw [ep2] at ih' ⊢
      simp only [if_neg e, Option.bind_some, if_true]
      exact ih'
theorem least_c (C : Cn_ n A B ow h M) (hn : n ≤ 512) {j : Nat} (hj : j < nD M) : f_X3_ringOfLeastStamp h 0 (some (B j)) = some ((bq M j 8 0 none).map A) := by
  unfold f_X3_ringOfLeastStamp
  exact rs_loop C hn hj 8 0 70 none (by omega) (by omega)
/-- the ring that comes first: the least stamp, then the least number -/
def Bs_ (M : Msx) (j m : Nat) (b : Option Nat) : Prop := match b with
  | none => ∀ q, q < m → cd M j q = false
  | some b' => b' < m ∧ cd M j b' = true ∧ ∀ q, q < m → cd M j q = true → (sT M j b').toInt < (sT M j q).toInt ∨ ((sT M j b').toInt = (sT M j q).toInt ∧ b' ≤ q)
theorem bq_s {j : Nat} : ∀ (m q : Nat) (b : Option Nat), Bs_ M j q b → Bs_ M j (q + m) (bq M j m q b)
  | 0, _, _, H => H
  | m + 1, q, b, H => by
    rw [bq, show q + (m + 1) = q + 1 + m by omega]
    refine bq_s m (q + 1) _ ?_
    unfold pickC
    by_cases c : cd M j q = true
    · rw [if_pos c]
      cases b with
      | none =>
        refine ⟨by omega, c, fun x hx hcx => ?_⟩
        by_cases e : x = q
        · rw [e]; exact Or.inr ⟨rfl, Nat.le_refl _⟩
        · rw [H x (by omega)] at hcx
          exact absurd hcx (by decide)
      | some b' =>
        obtain ⟨h1, h2, h3⟩ := H
        by_cases c3 : sT M j q < sT M j b'
        · simp only [ch2, if_pos c3]
          rw [Int64.lt_iff_toInt_lt] at c3
          refine ⟨by omega, c, fun x hx hcx => ?_⟩
          by_cases e : x = q
          · rw [e]; exact Or.inr ⟨rfl, Nat.le_refl _⟩
          · rcases h3 x (by omega) hcx with z | z
            · exact Or.inl (by omega)
            · exact Or.inl (by omega)
        · simp only [ch2, if_neg c3]
          rw [Int64.lt_iff_toInt_lt] at c3
          refine ⟨by omega, h2, fun x hx hcx => ?_⟩
          by_cases e : x = q
          · rw [e]
            by_cases z : (sT M j b').toInt = (sT M j q).toInt
            · exact Or.inr ⟨z, by omega⟩
            · exact Or.inl (by omega)
          · exact h3 x (by omega) hcx
    · have cf : cd M j q = false := by simpa using c
      rw [if_neg c]
      cases b with
      | none =>
        intro x hx
        by_cases e : x = q
        · rw [e]; exact cf
        · exact H x (by omega)
      | some b' =>
        obtain ⟨h1, h2, h3⟩ := H
        refine ⟨by omega, h2, fun x hx hcx => ?_⟩
        by_cases e : x = q
        · rw [e] at hcx
          exact absurd hcx c
        · exact h3 x (by omega) hcx
theorem bq_best {j : Nat} : Bs_ M j 8 (bq M j 8 0 none) := by
  have := bq_s (M := M) (j := j) 8 0 none (fun q hq => by omega)
  exact this
end MG
