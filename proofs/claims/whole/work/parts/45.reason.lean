/-! places to read, names behind, the newest published -/
theorem lsA_is {P : Nat → Bool} {m i t : Nat} {acc : Int32} (h1 : i ≤ t) (h2 : t < i + m) (h3 : P t = true) (h4 : ∀ t', i ≤ t' → t' < t → P t' = false) : lsA P m i acc = nI t := by
  rcases lsA_or P m i acc with ⟨-, z⟩ | ⟨u, u1, u2, u3, u4, u5⟩
  · rw [z t h1 h2] at h3
    exact absurd h3 (by decide)
  · rcases Nat.lt_trichotomy t u with c | c | c
    · rw [u5 t h1 c] at h3
      exact absurd h3 (by decide)
    · rw [u4, c]
    · rw [h4 u u1 c] at u3
      exact absurd u3 (by decide)
theorem lsA_no {P : Nat → Bool} {m i : Nat} {acc : Int32} (h : ∀ t, i ≤ t → t < i + m → P t = false) : lsA P m i acc = acc := by
  rcases lsA_or P m i acc with ⟨z, -⟩ | ⟨u, u1, u2, u3, -, -⟩
  · exact z
  · rw [h u u1 u2] at u3
    exact absurd u3 (by decide)
/-- one more candidate -/
theorem lsA_add {P Q : Nat → Bool} {m x : Nat} (hx : x < m) (hm : m < 2 ^ 31) (hQ : ∀ t, t < m → Q t = (P t || decide (x = t))) : lsA Q m 0 (-1) = (if lsA P m 0 (-1) < 0 then nI x else if lsA P m 0 (-1) ≤ nI x then lsA P m 0 (-1) else nI x) := by
  rcases lsA_or P m 0 (-1) with ⟨z1, z2⟩ | ⟨u, u1, u2, u3, u4, u5⟩
  · rw [z1, if_pos (by decide)]
    refine lsA_is (Nat.zero_le x) (by omega) (by rw [hQ x hx]; simp) (fun t' a b => ?_)
    rw [hQ t' (by omega), z2 t' a (by omega)]
    simp
    omega
  · rw [u4, if_neg (nI_pos (by omega))]
    by_cases c : nI u ≤ nI x
    · rw [if_pos c]
      rw [nI_leI (by omega) (by omega)] at c
      refine lsA_is (Nat.zero_le u) (by omega) (by rw [hQ u (by omega), u3]; rfl) (fun t' a b => ?_)
      rw [hQ t' (by omega), u5 t' a b]
      simp
      omega
    · rw [if_neg c]
      rw [nI_leI (by omega) (by omega)] at c
      refine lsA_is (Nat.zero_le x) (by omega) (by rw [hQ x hx]; simp) (fun t' a b => ?_)
      rw [hQ t' (by omega), u5 t' a (by omega)]
      simp
      omega
section RN
variable {n : Nat} {A B ow : Nat → Nat} {h : Hpx} {M Mm : Msx}
/-- a reader's first ring -/
theorem r0_c (W : Wf_ n M) {j : Nat} (hj : j < nD M) : m_I M 12 (4 * j) = nI (rG M j 0) ∧ rG M j 0 < nR M ∧ rG M j 0 < 8 ∧ m_I M 13 (4 * j) = nI (pL M j 0) ∧ pL M j 0 ≤ cL M (rG M j 0) ∧ cL M (rG M j 0) ≤ 64 * n := by
  obtain ⟨-, ⟨-, w2a, -⟩, w3, -⟩ := W.2.2.1 j hj
  obtain ⟨g1, g2, g3, g4⟩ := w3 0 (by omega)
  have := W.1.2.1
  exact ⟨g1, g2, by omega, g3, g4, (W.2.1 _ g2).2.2.2.1⟩
theorem pC_0 (W : Wf_ n M) {j : Nat} (hj : j < nD M) (a1 : kD M j ≠ 1) (a4 : kD M j ≠ 4) : pC M j (rG M j 0) = nI (pL M j 0) := by
  obtain ⟨-, ⟨-, w2a, -⟩, w3, -, w5, -⟩ := W.2.2.1 j hj
  unfold pC
  rw [(w5 a1 a4).1 0 (by omega)]
  exact (w3 0 (by omega)).2.2.1
/-- the claim that a reader reads next -/
def fN (M : Msx) (j : Nat) : Nat := if kD M j = 3 ∧ pL M j 0 + sL M (rG M j 0) < cL M (rG M j 0) then cL M (rG M j 0) - sL M (rG M j 0) else pL M j 0
theorem fN_le (W : Wf_ n M) {j : Nat} (hj : j < nD M) : fN M j ≤ cL M (rG M j 0) ∧ pL M j 0 ≤ fN M j := by
  have := (r0_c W hj).2.2.2.2.1
  unfold fN
  split <;> omega
theorem c_s_le {c s p : Nat} (hc : c < 2 ^ 30) (hs : s < 2 ^ 30) (hp : p < 2 ^ 31) : nI c - nI s ≤ nI p ↔ c ≤ p + s := by
  rw [Int32.le_iff_toInt_le, pk_sub_toInt hc hs, nI_toInt hp]
  omega
theorem lt_c_s {c s p : Nat} (hc : c < 2 ^ 30) (hs : s < 2 ^ 30) (hp : p < 2 ^ 31) : nI p < nI c - nI s ↔ p + s < c := by
  rw [Int32.lt_iff_toInt_lt, pk_sub_toInt hc hs, nI_toInt hp]
  omega
theorem from_c (W : Wf_ n M) (hn : n ≤ 513) {j : Nat} (hj : j < nD M) : f_X4_from M (nI j) = some (nI (fN M j)) := by
  have h16 : j < 16 := by have := W.1.2.2.2.1; omega
  obtain ⟨g1, g2, g8, g3, g4, g5⟩ := r0_c W hj
  obtain ⟨⟨w1, w1a, w1b⟩, -⟩ := W.2.2.1 j hj
  have w := W.2.1 _ g2
  have hs := sl_b w
  unfold f_X4_from
  simp only [four_j, in_nI (show 4 * j < 64 by omega) (show 64 ≤ 65536 by omega), if_true, cl_nI (show 4 * j < 2 ^ 31 by omega), g1, g3, in_nI g8 (show 8 ≤ 65536 by omega), in_nI h16 (show 16 ≤ 65536 by omega), cl_nI (show j < 2 ^ 31 by omega), cl_nI (show rG M j 0 < 2 ^ 31 by omega), w1, w.1, w.2.2.1]
  unfold fN
  by_cases e3 : kD M j = 3
  · rw [if_pos (by rw [e3]; rfl)]
    by_cases c : cL M (rG M j 0) ≤ pL M j 0 + sL M (rG M j 0)
    · rw [if_pos ((c_s_le (by omega) (by omega) (by omega)).mpr c), if_neg (by omega)]
    · rw [if_neg (fun z => c ((c_s_le (by omega) (by omega) (by omega)).mp z)), if_pos ⟨e3, by omega⟩, pk_sub (by omega)]
  · rw [if_neg (by rw [eqlit (n := 3) rfl (by omega)]; exact e3), if_neg (fun z => e3 z.1)]
theorem ptr_c (C : Cn_ n A B ow h M) (hn : n ≤ 513) {j : Nat} (hj : j < nD M) (a1 : kD M j ≠ 1) (a4 : kD M j ≠ 4) : f_X1_placeToRead h (B j) = some (nI (if kD M j = 3 ∧ m_I M 3 (rG M j 0) = 2 then cL M (rG M j 0) else fN M j)) := by
  have W := C.2.2.2.2
  obtain ⟨g1, g2, g8, g3, g4, g5⟩ := r0_c W hj
  obtain ⟨⟨w1, w1a, w1b⟩, -⟩ := W.2.2.1 j hj
  have w := W.2.1 _ g2
  have hs := sl_b w
  obtain ⟨s1, s2, -⟩ := C.2.1.2.2.2.2.1 j hj
  have t1 := (C.2.1.2.2.2.1 _ g2).1
  unfold f_X1_placeToRead j_X1_placeToRead_58
  simp only [s1, s2, if_true, Option.bind_some, t1, rI_60 C g2, w.2.2.2.2.2.1, placeIn1 C hj g8, pC_0 W hj a1 a4, rI_11 C hj, w1, rI_50 C g2, rI_2 C g2, rI_1 C g2, w.1, w.2.2.1]
  unfold fN
  by_cases e3 : kD M j = 3
  · rw [if_pos (by rw [e3]; rfl)]
    rcases how_g w with ⟨q1, q2⟩ | ⟨q1, q2⟩
    · rw [if_neg q2, if_pos (show kD M j = 3 ∧ m_I M 3 (rG M j 0) = 2 from ⟨e3, q1⟩)]
      simp only [nI_ltI (show pL M j 0 < 2 ^ 31 by omega) (show cL M (rG M j 0) < 2 ^ 31 by omega)]
      by_cases c : pL M j 0 < cL M (rG M j 0)
      · rw [if_pos c]
      · rw [if_neg c, show pL M j 0 = cL M (rG M j 0) by omega]
    · rw [if_pos q2, if_neg (show ¬ (kD M j = 3 ∧ m_I M 3 (rG M j 0) = 2) from fun z => q1 z.2)]
      simp only [lt_c_s (show cL M (rG M j 0) < 2 ^ 30 by omega) (show sL M (rG M j 0) < 2 ^ 30 by omega) (show pL M j 0 < 2 ^ 31 by omega)]
      by_cases c : pL M j 0 + sL M (rG M j 0) < cL M (rG M j 0)
      · rw [if_pos c, if_pos ⟨e3, c⟩, pk_sub (by omega)]
      · rw [if_neg c, if_neg (fun z => c z.2)]
  · rw [if_neg (by rw [eqlit (n := 3) rfl (by omega)]; exact e3), if_neg (fun z => e3 z.1), if_neg (fun z => e3 z.1)]
theorem placeOf_c (C : Cn_ n A B ow h M) {x q : Nat} (hx : x < 16) (hq : q < 8) : f_X3_placeOf h 0 (nI x) (nI q) = some (if x < nD M then pC M x q else -1) := by
  unfold f_X3_placeOf
  rw [if_pos C.2.1.1.1, readerAt_nI C hx]
  by_cases e : x < nD M
  · simp only [if_pos e, Option.bind_some, reduceCtorEq, if_false, (C.2.1.2.2.2.2.1 x e).1, if_true, placeIn1 C e hq]
  · simp only [if_neg e, Option.bind_some, if_true]
/-- x is named by j, and not ahead of it -/
def nB (M : Msx) (j x : Nat) : Bool := decide (¬ (m_I M 56 j >>> (nI x &&& 31)) &&& 1 = 0)
def bB (M : Msx) (j x : Nat) : Bool := nB M j x && decide (¬ pC M j (rG M j 0) < pC M x (rG M j 0))
theorem nB_iff (W : Wf_ n M) {j x : Nat} (hj : j < nD M) (hx : x < 16) : nB M j x = true ↔ ∃ k, k < nM M j ∧ nA M j k = x := by
  have w9 := (W.2.2.1 j hj).2.2.2.2.2.2.2.2.1 x hx
  unfold nB
  rw [decide_eq_true_eq, w9]
  constructor
  · intro z
    by_cases c : ∃ k, k < nM M j ∧ nA M j k = x
    · exact c
    · exact absurd (fun k hk e => c ⟨k, hk, e⟩) z
  · rintro ⟨k, hk, e⟩ z
    exact z k hk e
theorem isNaming_c (C : Cn_ n A B ow h M) {j x : Nat} (hj : j < nD M) (hx : x < 16) : f_X1_isNaming h (B j) (nI x) = some (if nB M j x = true then 1 else 0) := by
  unfold f_X1_isNaming
  rw [if_neg (nI_pos (by omega)), if_neg (by rw [litle (n := 16) rfl (by omega)]; omega), if_pos (C.2.1.2.2.2.2.1 j hj).1, rI_56 C hj]
  unfold nB
  by_cases c : (m_I M 56 j >>> (nI x &&& 31)) &&& 1 = 0
  · rw [if_pos c, if_neg (by rw [decide_eq_true_eq]; exact fun z => z c)]
  · rw [if_neg c, if_pos (by rw [decide_eq_true_eq]; exact c)]
theorem lnb_loop (C : Cn_ n A B ow h M) {j : Nat} (hj : j < nD M) : ∀ (m x fuel : Nat), x + m = 16 → m < fuel → l_X3_leastNamedBehind_10 h 0 fuel (some (B j)) (nI (rG M j 0)) (nI x) = some (lsA (bB M j) m x (-1)) := by
  have W := C.2.2.2.2
  have g8 := (r0_c W hj).2.2.1
  have s1 := (C.2.1.2.2.2.2.1 j hj).1
  intro m
  induction m with
  | zero =>
    intro x fuel hx hf
    obtain ⟨f, rfl⟩ : ∃ f, fuel = f + 1 := ⟨fuel - 1, by omega⟩
    rw [u_X3_leastNamedBehind_10]
    unfold j_X3_leastNamedBehind_10
    rw [if_pos (by rw [litle (n := 16) rfl (by omega)]; omega)]
    rfl
  | succ m ih =>
    intro x fuel hx hf
    obtain ⟨f, rfl⟩ : ∃ f, fuel = f + 1 := ⟨fuel - 1, by omega⟩
    rw [u_X3_leastNamedBehind_10]
    unfold j_X3_leastNamedBehind_10
    rw [if_neg (by rw [litle (n := 16) rfl (by omega)]; omega)]
    simp only [Option.bind_some, s1, if_true, isNaming_c C hj (show x < 16 by omega), C.2.1.1.1, placeOf_c C (show x < 16 by omega) g8, placeIn1 C hj g8, nI_1]
    rw [ih (x + 1) f (by omega) (by omega), lsA]
    by_cases c : nB M j x = true
    · have hx2 : x < nD M := by
        obtain ⟨k, hk, e⟩ := (nB_iff W hj (by omega)).mp c
        have := ((W.2.2.1 j hj).2.2.2.2.2.2.2.1 k hk).2
        omega
      rw [if_pos c, if_neg (by decide), if_pos hx2]
      by_cases c2 : pC M j (rG M j 0) < pC M x (rG M j 0)
      · rw [if_pos c2, if_neg (by simp [bB, c2])]
      · rw [if_neg c2, if_pos (by simp [bB, c, c2])]
    · rw [if_neg c, if_pos rfl, if_neg (by simp [bB, c])]
theorem lnb_c (C : Cn_ n A B ow h M) {j : Nat} (hj : j < nD M) : f_X3_leastNamedBehind h 0 (some (B j)) = some (lsA (bB M j) 16 0 (-1)) := by
  have W := C.2.2.2.2
  obtain ⟨g1, g2, g8, g3, g4, g5⟩ := r0_c W hj
  obtain ⟨s1, s2, -⟩ := C.2.1.2.2.2.2.1 j hj
  unfold f_X3_leastNamedBehind
  simp only [Option.bind_some, s1, if_true, s2, (C.2.1.2.2.2.1 _ g2).1, rI_60 C g2, (W.2.1 _ g2).2.2.2.2.2.1]
  exact lnb_loop C hj 16 0 70 (by omega) (by omega)
def bK (M : Msx) (j : Nat) : Nat → Nat → Bool
  | 0, _ => false
  | k + 1, x => bK M j k x || (decide (nA M j k = x) && decide (¬ m_I M 13 (4 * j) < pC M x (rG M j 0)))
theorem bK_iff {j x : Nat} : ∀ k, bK M j k x = true ↔ (∃ k', k' < k ∧ nA M j k' = x) ∧ ¬ m_I M 13 (4 * j) < pC M x (rG M j 0)
  | 0 => by
    unfold bK
    exact ⟨fun z => absurd z (by decide), fun ⟨⟨k', h, _⟩, _⟩ => absurd h (by omega)⟩
  | k + 1 => by
    unfold bK
    rw [Bool.or_eq_true, bK_iff k, Bool.and_eq_true, decide_eq_true_eq, decide_eq_true_eq]
    constructor
    · rintro (⟨⟨k', h1, h2⟩, h3⟩ | ⟨h1, h2⟩)
      · exact ⟨⟨k', by omega, h2⟩, h3⟩
      · exact ⟨⟨k, by omega, h1⟩, h2⟩
    · rintro ⟨⟨k', h1, h2⟩, h3⟩
      by_cases c : k' = k
      · subst c
        exact Or.inr ⟨h2, h3⟩
      · exact Or.inl ⟨⟨k', by omega, h2⟩, h3⟩
theorem beh_loop (W : Wf_ n M) {j : Nat} (hj : j < nD M) : ∀ (m k fuel : Nat), k + m = nM M j → m < fuel → l_X4_behind_14 M fuel (nI j) (nI (rG M j 0)) (lsA (bK M j k) 16 0 (-1)) (nI k) = some (lsA (bK M j (nM M j)) 16 0 (-1)) := by
  have h16 : j < 16 := by have := W.1.2.2.2.1; omega
  have hD := W.1.2.2.2.1
  obtain ⟨g1, g2, g8, g3, g4, g5⟩ := r0_c W hj
  obtain ⟨-, -, -, -, -, -, ⟨w7, w7a, -⟩, w8, -⟩ := W.2.2.1 j hj
  intro m
  induction m with
  | zero =>
    intro k fuel hk hf
    obtain ⟨f, rfl⟩ : ∃ f, fuel = f + 1 := ⟨fuel - 1, by omega⟩
    rw [u_X4_behind_14]
    unfold j_X4_behind_14
    rw [if_pos (in_nI h16 (by omega)), cl_nI (by omega), w7, if_pos (by rw [nI_leI (by omega) (by omega)]; omega), show k = nM M j by omega]
  | succ m ih =>
    intro k fuel hk hf
    obtain ⟨f, rfl⟩ : ∃ f, fuel = f + 1 := ⟨fuel - 1, by omega⟩
    obtain ⟨v1, v2⟩ := w8 k (by omega)
    have := ih (k + 1) f (by omega) (by omega)
    rw [u_X4_behind_14]
    unfold j_X4_behind_14 j_X4_behind_61 j_X4_behind_78
    simp only [in_nI h16 (show 16 ≤ 65536 by omega), if_true, cl_nI (show j < 2 ^ 31 by omega), w7, four_j, nI_add, in_nI (show 4 * j + k < 64 by omega) (show 64 ≤ 65536 by omega), in_nI (show 4 * j < 64 by omega) (show 64 ≤ 65536 by omega), cl_nI (show 4 * j + k < 2 ^ 31 by omega), cl_nI (show 4 * j < 2 ^ 31 by omega), v1, placeIn4 W v2 g8, Option.bind_some, nI_1]
    rw [if_neg (by rw [nI_leI (by omega) (by omega)]; omega)]
    by_cases c : m_I M 13 (4 * j) < pC M (nA M j k) (rG M j 0)
    · rw [if_pos c, ← this]
      congr 1
      refine lsA_cong 16 0 (-1) fun t _ _ => ?_
      show bK M j k t = (bK M j k t || (decide (nA M j k = t) && decide (¬ m_I M 13 (4 * j) < pC M t (rG M j 0))))
      by_cases e : nA M j k = t
      · rw [← e, decide_eq_false (p := ¬ m_I M 13 (4 * j) < pC M (nA M j k) (rG M j 0)) (fun z => z c), Bool.and_false, Bool.or_false]
      · rw [decide_eq_false e, Bool.false_and, Bool.or_false]
    · rw [if_neg c, if_neg (show ¬ (1 : Int32) = 0 by decide)]
      have ad := lsA_add (P := bK M j k) (Q := bK M j (k + 1)) (m := 16) (x := nA M j k) (by omega) (by omega) (fun t _ => by
        show (bK M j k t || (decide (nA M j k = t) && decide (¬ m_I M 13 (4 * j) < pC M t (rG M j 0)))) = _
        by_cases e : nA M j k = t
        · rw [← e, decide_eq_true c, Bool.and_true]
        · rw [decide_eq_false e, Bool.false_and])
      rw [ad] at this
      by_cases c1 : lsA (bK M j k) 16 0 (-1) < 0
      · rw [if_pos c1] at this ⊢
        exact this
      · rw [if_neg c1] at this ⊢
        by_cases c2 : lsA (bK M j k) 16 0 (-1) ≤ nI (nA M j k)
        · rw [if_pos c2] at this ⊢
          exact this
        · rw [if_neg c2] at this ⊢
          exact this
theorem behind_c (W : Wf_ n M) {j : Nat} (hj : j < nD M) (a1 : kD M j ≠ 1) (a4 : kD M j ≠ 4) : f_X4_behind M (nI j) = some (lsA (bB M j) 16 0 (-1)) := by
  have h16 : j < 16 := by have := W.1.2.2.2.1; omega
  obtain ⟨g1, g2, g8, g3, g4, g5⟩ := r0_c W hj
  have w7 := (W.2.2.1 j hj).2.2.2.2.2.2.1.2.1
  unfold f_X4_behind
  simp only [four_j, in_nI (show 4 * j < 64 by omega) (show 64 ≤ 65536 by omega), if_true, cl_nI (show 4 * j < 2 ^ 31 by omega), g1]
  have := beh_loop W hj (nM M j) 0 70 (by omega) (by omega)
  rw [lsA_no (P := bK M j 0) (fun t _ _ => rfl)] at this
  rw [show (0 : Int32) = nI 0 from rfl, this]
  congr 1
  refine lsA_cong 16 0 (-1) fun t _ ht => ?_
  rw [Bool.eq_iff_iff, bK_iff, ← nB_iff W hj (by omega), g3, ← pC_0 W hj a1 a4]
  unfold bB
  rw [Bool.and_eq_true, decide_eq_true_eq]
/-- the newest published claim that is kept -/
def nwF (M : Msx) (r : Nat) : Nat → Nat → Int32
  | 0, _ => -1
  | m + 1, i => if i ≤ cL M r ∧ pB M r (cL M r - i) = true then nI (cL M r - i) else nwF M r m (i + 1)
def nW (M : Msx) (r : Nat) : Int32 := nwF M r (sL M r) 1
theorem nwF_s {r m i : Nat} : nwF M r (m + 1) i = if i ≤ cL M r ∧ pB M r (cL M r - i) = true then nI (cL M r - i) else nwF M r m (i + 1) := rfl
theorem nwF_or {r : Nat} : ∀ m i, nwF M r m i = -1 ∨ ∃ q, nwF M r m i = nI q ∧ q ≤ cL M r ∧ pB M r q = true
  | 0, _ => Or.inl rfl
  | m + 1, i => by
    unfold nwF
    by_cases c : i ≤ cL M r ∧ pB M r (cL M r - i) = true
    · rw [if_pos c]
      exact Or.inr ⟨_, rfl, by omega, c.2⟩
    · rw [if_neg c]
      exact nwF_or m (i + 1)
theorem nwF_neg {r : Nat} : ∀ m i, cL M r < i → nwF M r m i = -1
  | 0, _, _ => rfl
  | m + 1, i, h => by
    unfold nwF
    rw [if_neg (by omega)]
    exact nwF_neg m (i + 1) (by omega)
theorem np_loop (C : Cn_ n A B ow h M) (hn : n ≤ 512) {r : Nat} (hr : r < nR M) : ∀ (m i fuel : Nat), i + m = sL M r + 1 → m < fuel → l_X2_newestPublished_2 h (A r) fuel (nI i) = some (nwF M r m i) := by
  have W := C.2.2.2.2
  have w := W.2.1 r hr
  have hs := sl_b w
  have hc := w.2.2.2.1
  have s1 := (C.2.1.2.2.2.1 r hr).1
  intro m
  induction m with
  | zero =>
    intro i fuel hi hf
    obtain ⟨f, rfl⟩ : ∃ f, fuel = f + 1 := ⟨fuel - 1, by omega⟩
    rw [u_X2_newestPublished_2]
    unfold j_X2_newestPublished_2
    rw [if_pos s1, rI_1 C hr, w.1, if_pos (by rw [nI_ltI (by omega) (by omega)]; omega)]
    rfl
  | succ m ih =>
    intro i fuel hi hf
    obtain ⟨f, rfl⟩ : ∃ f, fuel = f + 1 := ⟨fuel - 1, by omega⟩
    rw [u_X2_newestPublished_2]
    unfold j_X2_newestPublished_2
    rw [if_pos s1, rI_1 C hr, w.1, if_neg (by rw [nI_ltI (by omega) (by omega)]; omega), rI_2 C hr, w.2.2.1, nI_1, ih (i + 1) f (by omega) (by omega)]
    rw [nwF_s]
    by_cases c : i ≤ cL M r
    · rw [pk_sub c, isPub_nI C hn hr (by omega)]
      simp only [Option.bind_some]
      by_cases c2 : pB M r (cL M r - i) = true
      · rw [if_pos c2, if_neg (by decide), if_pos ⟨c, c2⟩]
      · rw [if_neg c2, if_pos rfl, if_neg (fun z => c2 z.2)]
    · rw [isPub_neg C hr (pk_sneg (by omega) (by omega))]
      simp only [Option.bind_some, if_true]
      rw [if_neg (fun z => c z.1)]
theorem newest_c (C : Cn_ n A B ow h M) (hn : n ≤ 512) {r : Nat} (hr : r < nR M) : f_X2_newestPublished h (A r) = some (nW M r) := by
  have hs := sl_b (C.2.2.2.2.2.1 r hr)
  unfold f_X2_newestPublished nW
  exact np_loop C hn hr (sL M r) 1 70 (by omega) (by omega)
theorem sub_1 (x : Int32) (i : Nat) : x - nI i + (-1) = x - nI (i + 1) := by
  rw [← nI_1 i]
  generalize nI i = y
  apply Int32.toBitVec_inj.mp
  simp only [Int32.toBitVec_sub, Int32.toBitVec_add, Int32.toBitVec_neg]
  have e : Int32.toBitVec 1 = 1#32 := rfl
  rw [e]
  bv_omega
theorem se_loop (W : Wf_ n M) (hn : n ≤ 512) {r : Nat} (hr : r < nR M) : ∀ (m i fuel : Nat), i + m = sL M r + 1 → m < fuel → l_X4_seen_9 M fuel (nI r) (nI (cL M r) - nI i) = some (nwF M r m i) := by
  have h8 : r < 8 := by have := W.1.2.1; omega
  have w := W.2.1 r hr
  have hs := sl_b w
  have hc := w.2.2.2.1
  intro m
  induction m with
  | zero =>
    intro i fuel hi hf
    obtain ⟨f, rfl⟩ : ∃ f, fuel = f + 1 := ⟨fuel - 1, by omega⟩
    rw [u_X4_seen_9]
    unfold j_X4_seen_9 j_X4_seen_45
    by_cases c : i ≤ cL M r
    · rw [pk_sub c, if_neg (nI_pos (by omega)), if_pos (in_nI h8 (by omega)), if_pos (in_nI h8 (by omega)), cl_nI (by omega), w.1, w.2.2.1, if_pos ((lt_c_s (by omega) (by omega) (by omega)).mpr (by omega)), isPub4_nI W hn hr (by omega)]
      rw [if_neg (by simp only [pB, kp, Bool.and_eq_true, decide_eq_true_eq]; omega)]
      rfl
    · have z : nI (cL M r) - nI i < 0 := pk_sneg (by omega) (by omega)
      rw [if_pos z, isPub4_neg h8 z]
      rfl
  | succ m ih =>
    intro i fuel hi hf
    obtain ⟨f, rfl⟩ : ∃ f, fuel = f + 1 := ⟨fuel - 1, by omega⟩
    have := ih (i + 1) f (by omega) (by omega)
    rw [u_X4_seen_9]
    unfold j_X4_seen_9 j_X4_seen_45
    rw [nwF_s]
    rw [sub_1]
    by_cases c : i ≤ cL M r
    · rw [pk_sub c, if_neg (nI_pos (by omega)), if_pos (in_nI h8 (by omega)), if_pos (in_nI h8 (by omega)), cl_nI (by omega), w.1, w.2.2.1, if_neg (fun z => by have := (lt_c_s (by omega) (by omega) (by omega)).mp z; omega), isPub4_nI W hn hr (by omega)]
      simp only [Option.bind_some]
      by_cases c2 : pB M r (cL M r - i) = true
      · rw [if_pos c2, if_neg (by decide), if_neg (by decide), if_pos ⟨c, c2⟩]
      · rw [if_neg c2, if_pos rfl, if_neg (fun z => c2 z.2)]
        exact this
    · have z : nI (cL M r) - nI i < 0 := pk_sneg (by omega) (by omega)
      rw [if_pos z, isPub4_neg h8 z, if_neg (fun z => c z.1), nwF_neg m (i + 1) (by omega)]
      rfl
theorem seen_c (W : Wf_ n M) (hn : n ≤ 512) {r : Nat} (hr : r < nR M) : f_X4_seen M (nI r) = some (nW M r) := by
  have h8 : r < 8 := by have := W.1.2.1; omega
  have w := W.2.1 r hr
  have hs := sl_b w
  unfold f_X4_seen nW
  rw [if_pos (in_nI h8 (by omega)), cl_nI (by omega), w.2.2.1]
  exact se_loop W hn hr (sL M r) 1 70 (by omega) (by omega)
end RN
