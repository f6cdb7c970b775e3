/-! looking up: rings, readers, places -/
theorem lt_tr {x : Int32} {a : Nat} (h : nI a ≤ x) (ha : a < 2 ^ 31) : ¬ x < 0 := by
  rw [Int32.le_iff_toInt_le, nI_toInt ha] at h
  rw [Int32.lt_iff_toInt_lt]
  show ¬ x.toInt < 0
  omega
theorem le_tr {x : Int32} {a b : Nat} (h : nI a ≤ x) (ha : a < 2 ^ 31) (hb : b ≤ a) : nI b ≤ x := by
  rw [Int32.le_iff_toInt_le, nI_toInt ha] at h
  rw [Int32.le_iff_toInt_le, nI_toInt (by omega)]
  omega
section LK
variable {n : Nat} {A B ow : Nat → Nat} {h : Hpx} {M : Msx}
theorem isRing_nI (W : W0_ M) {j : Nat} (hj : j < 2 ^ 31) : f_X4_isRing M (nI j) = some (if j < nR M then 1 else 0) := by
  unfold f_X4_isRing
  rw [if_neg (nI_pos hj), W.1]
  by_cases e : j < nR M
  · rw [if_neg (by rw [nI_leI (by have := W.2.1; omega) hj]; omega), if_pos e]
  · rw [if_pos (by rw [nI_leI (by have := W.2.1; omega) hj]; omega), if_neg e]
theorem isReader_nI (W : W0_ M) {j : Nat} (hj : j < 2 ^ 31) : f_X4_isReader M (nI j) = some (if j < nD M then 1 else 0) := by
  unfold f_X4_isReader
  rw [if_neg (nI_pos hj), W.2.2.1]
  by_cases e : j < nD M
  · rw [if_neg (by rw [nI_leI (by have := W.2.2.2.1; omega) hj]; omega), if_pos e]
  · rw [if_pos (by rw [nI_leI (by have := W.2.2.2.1; omega) hj]; omega), if_neg e]
theorem ringAt_nI (C : Cn_ n A B ow h M) {j : Nat} (hj : j < 8) : f_X3_ringAt h 0 (nI j) = some (if j < nR M then some (A j) else none) := by
  obtain ⟨k0, r0, r1, r2, r3, k1, n1, -⟩ := C.2.1.1
  unfold f_X3_ringAt
  rw [if_neg (nI_pos (by omega)), if_neg (by rw [litle (n := 8) rfl (by omega)]; omega), if_pos k0, r0]
  simp only [Option.bind_some, k1, n1, if_true, in_nI hj (by omega), cl_nI (show j < 2 ^ 31 by omega), C.2.1.2.1 j hj]
theorem readerAt_nI (C : Cn_ n A B ow h M) {j : Nat} (hj : j < 16) : f_X3_readerAt h 0 (nI j) = some (if j < nD M then some (B j) else none) := by
  obtain ⟨k0, r0, r1, r2, r3, k1, n1, k2, n2, -⟩ := C.2.1.1
  unfold f_X3_readerAt
  rw [if_neg (nI_pos (by omega)), if_neg (by rw [litle (n := 16) rfl (by omega)]; omega), if_pos k0, r1]
  simp only [Option.bind_some, k2, n2, if_true, in_nI hj (by omega), cl_nI (show j < 2 ^ 31 by omega), C.2.1.2.2.1 j hj]
theorem ring_c (C : Cn_ n A B ow h M) (x : Int32) : (f_X3_ringAt h 0 x = some none ∧ f_X4_isRing M x = some 0) ∨ ∃ r, r < nR M ∧ r < 8 ∧ x = nI r ∧ f_X3_ringAt h 0 x = some (some (A r)) ∧ f_X4_isRing M x = some 1 := by
  have W := C.2.2.2.2.1
  rcases pk_ix x (n := 8) (by omega) with hx | hx | ⟨j, hj, rfl⟩
  · left
    constructor
    · unfold f_X3_ringAt
      rw [if_pos hx]
    · unfold f_X4_isRing
      rw [if_pos hx]
  · left
    constructor
    · unfold f_X3_ringAt
      rw [if_neg (lt_tr hx (by omega)), if_pos (by exact hx)]
    · unfold f_X4_isRing
      rw [if_neg (lt_tr hx (by omega)), W.1, if_pos (le_tr hx (by omega) W.2.1)]
  · by_cases e : j < nR M
    · right
      refine ⟨j, e, hj, rfl, ?_, ?_⟩
      · rw [ringAt_nI C hj, if_pos e]
      · rw [isRing_nI W (by omega), if_pos e]
    · left
      constructor
      · rw [ringAt_nI C hj, if_neg e]
      · rw [isRing_nI W (by omega), if_neg e]
theorem reader_c (C : Cn_ n A B ow h M) (x : Int32) : (f_X3_readerAt h 0 x = some none ∧ f_X4_isReader M x = some 0) ∨ ∃ j, j < nD M ∧ j < 16 ∧ x = nI j ∧ f_X3_readerAt h 0 x = some (some (B j)) ∧ f_X4_isReader M x = some 1 := by
  have W := C.2.2.2.2.1
  rcases pk_ix x (n := 16) (by omega) with hx | hx | ⟨j, hj, rfl⟩
  · left
    constructor
    · unfold f_X3_readerAt
      rw [if_pos hx]
    · unfold f_X4_isReader
      rw [if_pos hx]
  · left
    constructor
    · unfold f_X3_readerAt
      rw [if_neg (lt_tr hx (by omega)), if_pos (by exact hx)]
    · unfold f_X4_isReader
      rw [if_neg (lt_tr hx (by omega)), W.2.2.1, if_pos (le_tr hx (by omega) W.2.2.2.1)]
  · by_cases e : j < nD M
    · right
      refine ⟨j, e, hj, rfl, ?_, ?_⟩
      · rw [readerAt_nI C hj, if_pos e]
      · rw [isReader_nI W (by omega), if_pos e]
    · left
      constructor
      · rw [readerAt_nI C hj, if_neg e]
      · rw [isReader_nI W (by omega), if_neg e]
/-- the place in a list of rings: the last that is q -/
def ixl (M : Msx) (j q : Nat) : Nat → Nat → Int32 → Int32
  | 0, _, acc => acc
  | m + 1, k, acc => ixl M j q m (k + 1) (if rG M j k = q then nI k else acc)
theorem ixl_no {j q : Nat} : ∀ (m k : Nat) (acc : Int32), (∀ i, k ≤ i → i < k + m → rG M j i ≠ q) → ixl M j q m k acc = acc
  | 0, _, _, _ => rfl
  | m + 1, k, acc, hno => by
    unfold ixl
    rw [if_neg (hno k (Nat.le_refl k) (by omega))]
    exact ixl_no m (k + 1) acc fun i h1 h2 => hno i (by omega) (by omega)
theorem ixl_at {j q i : Nat} (hq : rG M j i = q) : ∀ (m k : Nat) (acc : Int32), k ≤ i → i < k + m → (∀ i', k ≤ i' → i' < k + m → rG M j i' = q → i' = i) → ixl M j q m k acc = nI i
  | 0, _, _, h1, h2, _ => absurd h2 (by omega)
  | m + 1, k, acc, h1, h2, hu => by
    unfold ixl
    by_cases e : k = i
    · subst e
      rw [if_pos hq]
      exact ixl_no m (k + 1) _ fun i' a1 a2 a3 => by
        have := hu i' (by omega) (by omega) a3
        omega
    · exact ixl_at hq m (k + 1) _ (by omega) (by omega) fun i' a1 a2 => hu i' (by omega) (by omega)
theorem ix_loop (W : Wf_ n M) {j q : Nat} (hj : j < nD M) (hq : q < 2 ^ 31) : ∀ (m k fuel : Nat) (acc : Int32), k + m = rM M j → m < fuel → l_X4_index_25 M fuel (nI j) (nI q) acc (nI k) = some (ixl M j q m k acc) := by
  have hj16 : j < 16 := by have := W.1.2.2.2.1; omega
  obtain ⟨-, ⟨w2, w2a, w2b, -⟩, w3, -⟩ := W.2.2.1 j hj
  intro m
  induction m with
  | zero =>
    intro k fuel acc hk hf
    obtain ⟨f, rfl⟩ : ∃ f, fuel = f + 1 := ⟨fuel - 1, by omega⟩
    show j_X4_index_25 M (l_X4_index_25 M f) _ _ _ _ = _
    unfold j_X4_index_25
    rw [if_pos (in_nI hj16 (by omega)), cl_nI (by omega), w2, if_pos (by rw [nI_leI (by omega) (by omega)]; omega)]
    rfl
  | succ m ih =>
    intro k fuel acc hk hf
    obtain ⟨f, rfl⟩ : ∃ f, fuel = f + 1 := ⟨fuel - 1, by omega⟩
    show j_X4_index_25 M (l_X4_index_25 M f) _ _ _ _ = _
    unfold j_X4_index_25
    have e4 : ((4 : Int32) * nI j) + nI k = nI (4 * j + k) := by
      rw [show (4 : Int32) = nI 4 from rfl, pk_mul, nI_add]
    rw [if_pos (in_nI hj16 (by omega)), cl_nI (show j < 2 ^ 31 by omega), w2, if_neg (by rw [nI_leI (by omega) (by omega)]; omega), e4, if_pos (in_nI (by omega) (by omega)), cl_nI (by omega), (w3 k (by omega)).1]
    have hr := (w3 k (by omega)).2.1
    have h8 := W.1.2.1
    rw [show nI k + 1 = nI (k + 1) from nI_1 k]
    unfold ixl
    by_cases e : rG M j k = q
    · rw [if_pos (by rw [e]), if_pos e]
      exact ih (k + 1) f _ (by omega) (by omega)
    · rw [if_neg (nI_ne (by omega) hq e), if_neg e]
      exact ih (k + 1) f _ (by omega) (by omega)
/-- a reader's place in a ring, as both sides have it -/
def pC (M : Msx) (j q : Nat) : Int32 := m_I M 54 (8 * j + q)
theorem pC_or (W : Wf_ n M) {j q : Nat} (hj : j < nD M) (hq : q < 8) : (pC M j q = -1 ∧ ((kD M j = 1 ∨ kD M j = 4) ∨ ∀ k, k < rM M j → rG M j k ≠ q)) ∨ (kD M j ≠ 1 ∧ kD M j ≠ 4 ∧ ∃ k, k < rM M j ∧ rG M j k = q ∧ pC M j q = nI (pL M j k) ∧ m_I M 13 (4 * j + k) = nI (pL M j k) ∧ pL M j k ≤ cL M q) := by
  obtain ⟨-, -, w3, w4, w5, w6, -⟩ := W.2.2.1 j hj
  by_cases e14 : kD M j = 1 ∨ kD M j = 4
  · exact Or.inl ⟨w6 e14 q hq, Or.inl e14⟩
  · have e1 : kD M j ≠ 1 := fun z => e14 (Or.inl z)
    have e4 : kD M j ≠ 4 := fun z => e14 (Or.inr z)
    obtain ⟨a1, a2, -⟩ := w5 e1 e4
    by_cases e : ∃ k, k < rM M j ∧ rG M j k = q
    · obtain ⟨k, hk, hkq⟩ := e
      refine Or.inr ⟨e1, e4, k, hk, hkq, ?_, (w3 k hk).2.2.1, by rw [← hkq]; exact (w3 k hk).2.2.2⟩
      have := a1 k hk
      rw [hkq, (w3 k hk).2.2.1] at this
      exact this
    · exact Or.inl ⟨a2 q hq fun k hk z => e ⟨k, hk, z⟩, Or.inr fun k hk z => e ⟨k, hk, z⟩⟩
theorem index_c (W : Wf_ n M) {j q : Nat} (hj : j < nD M) (hq : q < 8) : ∃ iv, f_X4_index M (nI j) (nI q) = some iv ∧ ((iv = -1 ∧ pC M j q = -1) ∨ ∃ k, iv = nI k ∧ k < rM M j ∧ rG M j k = q ∧ pC M j q = nI (pL M j k) ∧ m_I M 13 (4 * j + k) = nI (pL M j k) ∧ pL M j k ≤ cL M q) := by
  have hj16 : j < 16 := by have := W.1.2.2.2.1; omega
  obtain ⟨⟨w1, w1a, w1b⟩, ⟨w2, w2a, w2b, -⟩, w3, w4, -⟩ := W.2.2.1 j hj
  unfold f_X4_index
  rw [if_pos (in_nI hj16 (by omega)), cl_nI (by omega), w1]
  rcases pC_or W hj hq with ⟨p1, p2⟩ | ⟨e1, e4, k, hk, hkq, p1, p2, p3⟩
  · by_cases e1 : kD M j = 1
    · rw [if_pos (by rw [e1]; rfl)]
      exact ⟨-1, rfl, Or.inl ⟨rfl, p1⟩⟩
    · rw [if_neg (by rw [eqlit (n := 1) rfl (by omega)]; exact e1)]
      by_cases e4 : kD M j = 4
      · rw [if_pos (by rw [e4]; rfl)]
        exact ⟨-1, rfl, Or.inl ⟨rfl, p1⟩⟩
      · rw [if_neg (by rw [eqlit (n := 4) rfl (by omega)]; exact e4)]
        rw [show (0 : Int32) = nI 0 from rfl, ix_loop W hj (by omega) (rM M j) 0 70 (-1) (by omega) (by omega)]
        refine ⟨_, rfl, Or.inl ⟨?_, p1⟩⟩
        have hno : ∀ k, k < rM M j → rG M j k ≠ q := by
          rcases p2 with p2 | p2
          · exact absurd p2 (fun z => z.elim e1 e4)
          · exact p2
        exact ixl_no _ _ _ fun i h1 h2 => hno i (by omega)
  · rw [if_neg (by rw [eqlit (n := 1) rfl (by omega)]; exact e1), if_neg (by rw [eqlit (n := 4) rfl (by omega)]; exact e4)]
    rw [show (0 : Int32) = nI 0 from rfl, ix_loop W hj (by omega) (rM M j) 0 70 (-1) (by omega) (by omega)]
    refine ⟨_, rfl, Or.inr ⟨k, ?_, hk, hkq, p1, p2, p3⟩⟩
    exact ixl_at hkq _ _ _ (Nat.zero_le k) (by omega) fun i' _ h2 h3 => w4 i' k (by omega) hk (by rw [h3, hkq])
theorem pC_m1 : ¬ (0 : Int32) ≤ -1 := by decide
theorem placeIn4 (W : Wf_ n M) {j q : Nat} (hj : j < nD M) (hq : q < 8) : f_X4_placeIn M (nI j) (nI q) = some (pC M j q) := by
  have hj16 : j < 16 := by have := W.1.2.2.2.1; omega
  obtain ⟨iv, e, hiv⟩ := index_c W hj hq
  have w2b := (W.2.2.1 j hj).2.1.2.2.1
  unfold f_X4_placeIn
  rw [e]
  simp only [Option.bind_some]
  rcases hiv with ⟨rfl, p1⟩ | ⟨k, rfl, hk, hkq, p1, p2, p3⟩
  · rw [if_neg pC_m1, p1]
  · have e4 : ((4 : Int32) * nI j) + nI k = nI (4 * j + k) := by
      rw [show (4 : Int32) = nI 4 from rfl, pk_mul, nI_add]
    rw [if_pos (nI_pos' (by omega)), e4, if_pos (in_nI (by omega) (by omega)), cl_nI (by omega), p2, p1]
theorem placeIn1 (C : Cn_ n A B ow h M) {j q : Nat} (hj : j < nD M) (hq : q < 8) : f_X1_placeIn h (B j) (nI q) = some (pC M j q) := by
  obtain ⟨s1, s2, s3, s4, s5, s6, s7, s8, s9, s10, s11, -⟩ := C.2.1.2.2.2.2.1 j hj
  unfold f_X1_placeIn
  rw [if_neg (nI_pos (by omega)), if_neg (by rw [litle (n := 8) rfl (by omega)]; omega), if_pos s1, s9]
  simp only [Option.bind_some, s10, s11, if_true, in_nI hq (by omega), cl_nI (show q < 2 ^ 31 by omega), rI_54 C hj hq]
  rfl
/-- a holder's place, -1 if it is none -/
def hP (M : Msx) (j q : Nat) : Int32 := if kD M j = 3 then -1 else pC M j q
theorem held1 (C : Cn_ n A B ow h M) {j q : Nat} (hj : j < nD M) (hq : q < 8) : f_X1_heldPlace h (B j) (nI q) = some (hP M j q) := by
  obtain ⟨s1, s2, s3, s4, s5, s6, s7, s8, s9, s10, s11, -⟩ := C.2.1.2.2.2.2.1 j hj
  obtain ⟨⟨w1, w1a, w1b⟩, -⟩ := C.2.2.2.2.2.2.1 j hj
  unfold f_X1_heldPlace hP
  rw [if_pos s1, rI_11 C hj, w1]
  by_cases e : kD M j = 3
  · rw [if_pos (by rw [e]; rfl), if_pos e]
  · rw [if_neg (by rw [eqlit (n := 3) rfl (by omega)]; exact e), if_neg e, if_neg (nI_pos (by omega)), if_neg (by rw [litle (n := 8) rfl (by omega)]; omega), s9]
    simp only [Option.bind_some, s10, s11, if_true, in_nI hq (by omega), cl_nI (show q < 2 ^ 31 by omega), rI_54 C hj hq]
    rfl
theorem hP_or (W : Wf_ n M) {j q : Nat} (hj : j < nD M) (hq : q < 8) : hP M j q = -1 ∨ ∃ p, hP M j q = nI p ∧ pC M j q = nI p ∧ p ≤ cL M q ∧ kD M j ≠ 3 := by
  unfold hP
  by_cases e : kD M j = 3
  · rw [if_pos e]; exact Or.inl rfl
  · rw [if_neg e]
    rcases pC_or W hj hq with ⟨p1, -⟩ | ⟨-, -, k, -, -, p1, -, p3⟩
    · exact Or.inl p1
    · exact Or.inr ⟨_, p1, p1, p3, e⟩
theorem isHolder4 (W : Wf_ n M) {j q : Nat} (hj : j < nD M) (hq : q < 8) : f_X4_isHolder M (nI j) (nI q) = some (if hP M j q < 0 then 0 else 1) := by
  have hj16 : j < 16 := by have := W.1.2.2.2.1; omega
  obtain ⟨⟨w1, w1a, w1b⟩, -⟩ := W.2.2.1 j hj
  have key : kD M j ≠ 3 → j_X4_isHolder_29 M (nI j) (nI q) = some (if hP M j q < 0 then 0 else 1) := by
    intro e3
    obtain ⟨iv, e, hiv⟩ := index_c W hj hq
    unfold j_X4_isHolder_29 hP
    rw [e, if_neg e3]
    simp only [Option.bind_some]
    rcases hiv with ⟨rfl, p1⟩ | ⟨k, rfl, hk, hkq, p1, p2, p3⟩
    · rw [p1]
      rfl
    · have w2b := (W.2.2.1 j hj).2.1.2.2.1
      rw [if_neg (nI_pos (by omega)), p1]
      by_cases hp : pL M j k < 2 ^ 31
      · rw [if_neg (nI_pos hp)]
      · exfalso
        have : pL M j k < 2 ^ 31 := by
          unfold pL
          have : (m_I M 13 (4 * j + k)).toNatClampNeg < 2 ^ 31 := by
            have := Int32.toInt_lt (m_I M 13 (4 * j + k))
            show (m_I M 13 (4 * j + k)).toInt.toNat < _
            omega
          exact this
        exact hp this
  unfold f_X4_isHolder
  rw [if_pos (in_nI hj16 (by omega)), cl_nI (by omega), w1]
  have c : kD M j = 1 ∨ kD M j = 2 ∨ kD M j = 3 ∨ kD M j = 4 ∨ kD M j = 5 ∨ kD M j = 6 ∨ kD M j = 7 := by omega
  have off : kD M j = 1 ∨ kD M j = 4 → hP M j q = -1 := fun z => by
    unfold hP
    rw [if_neg (by omega)]
    exact (W.2.2.1 j hj).2.2.2.2.2.1 z q hq
  rcases c with e | e | e | e | e | e | e <;> rw [e]
  · rw [if_neg (by decide), if_neg (by decide), if_neg (by decide), if_neg (by decide), off (Or.inl e)]; rfl
  · rw [if_pos (by decide)]; exact key (by omega)
  · rw [if_neg (by decide), if_neg (by decide), if_neg (by decide), if_neg (by decide)]; unfold hP; rw [if_pos e]; rfl
  · rw [if_neg (by decide), if_neg (by decide), if_neg (by decide), if_neg (by decide), off (Or.inr e)]; rfl
  · rw [if_neg (by decide), if_neg (by decide), if_neg (by decide), if_pos (by decide)]; exact key (by omega)
  · rw [if_neg (by decide), if_pos (by decide)]; exact key (by omega)
  · rw [if_neg (by decide), if_neg (by decide), if_pos (by decide)]; exact key (by omega)
end LK
