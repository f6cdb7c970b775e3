/-! slots, holders, what is held up -/
def lsA (P : Nat → Bool) : Nat → Nat → Int32 → Int32
  | 0, _, acc => acc
  | m + 1, i, acc => if P i = true then nI i else lsA P m (i + 1) acc
theorem lsA_end (P : Nat → Bool) : ∀ (m i : Nat) (acc : Int32), lsA P (m + 1) i acc = lsA P m i (if P (i + m) = true then nI (i + m) else acc)
  | 0, i, acc => by
    unfold lsA
    rfl
  | m + 1, i, acc => by
    rw [lsA, lsA_end P m (i + 1) acc, lsA, show i + 1 + m = i + (m + 1) by omega]
theorem lsA_cut (P : Nat → Bool) : ∀ (k m i : Nat) (acc : Int32), (∀ t, i + m ≤ t → t < i + m + k → P t = false) → lsA P (m + k) i acc = lsA P m i acc
  | 0, _, _, _, _ => rfl
  | k + 1, m, i, acc, hf => by
    rw [← Nat.add_assoc, lsA_end, hf (i + (m + k)) (by omega) (by omega)]
    exact lsA_cut P k m i acc fun t h1 h2 => hf t h1 (by omega)
theorem lsA_cong {P P' : Nat → Bool} : ∀ (m i : Nat) (acc : Int32), (∀ t, i ≤ t → t < i + m → P t = P' t) → lsA P m i acc = lsA P' m i acc
  | 0, _, _, _ => rfl
  | m + 1, i, acc, hc => by
    rw [lsA, lsA, hc i (Nat.le_refl i) (by omega), lsA_cong m (i + 1) acc fun t h1 h2 => hc t (by omega) (by omega)]
theorem lsA_or (P : Nat → Bool) : ∀ (m i : Nat) (acc : Int32), (lsA P m i acc = acc ∧ ∀ t, i ≤ t → t < i + m → P t = false) ∨ ∃ t, i ≤ t ∧ t < i + m ∧ P t = true ∧ lsA P m i acc = nI t ∧ ∀ t', i ≤ t' → t' < t → P t' = false
  | 0, _, _ => Or.inl ⟨rfl, fun t h1 h2 => by omega⟩
  | m + 1, i, acc => by
    rw [lsA]
    by_cases e : P i = true
    · rw [if_pos e]
      exact Or.inr ⟨i, Nat.le_refl i, by omega, e, rfl, fun t' h1 h2 => by omega⟩
    · have ef : P i = false := by simpa using e
      rw [if_neg e]
      rcases lsA_or P m (i + 1) acc with ⟨h1, h2⟩ | ⟨t, h1, h2, h3, h4, h5⟩
      · refine Or.inl ⟨h1, fun t a b => ?_⟩
        by_cases et : t = i
        · rw [et]; exact ef
        · exact h2 t (by omega) (by omega)
      · refine Or.inr ⟨t, by omega, by omega, h3, h4, fun t' a b => ?_⟩
        by_cases et : t' = i
        · rw [et]; exact ef
        · exact h5 t' (by omega) (by omega)
def dnA (P : Nat → Bool) : Nat → Int32 → Int32
  | 0, acc => acc
  | m + 1, acc => dnA P m (if P m = true then nI m else acc)
theorem dnA_eq (P : Nat → Bool) : ∀ (m : Nat) (acc : Int32), dnA P m acc = lsA P m 0 acc
  | 0, _ => rfl
  | m + 1, acc => by rw [dnA, dnA_eq P m, lsA_end, Nat.zero_add]
theorem sub_lt_c {c s q : Nat} (hc : c < 2 ^ 30) (hs : s < 2 ^ 30) (hq : q < 2 ^ 31) : nI q < nI c - nI s ↔ q + s < c := by
  rw [Int32.lt_iff_toInt_lt, pk_sub_toInt hc hs, nI_toInt hq]
  omega
theorem and_pw {q s t : Nat} (hq : q < 2 ^ 31) (ht : t ≤ 6) (hs : s = 2 ^ t) : nI q &&& (nI s - 1) = nI (q % s) := by
  have h1 : 1 ≤ 2 ^ t := Nat.one_le_two_pow
  have h2 : 2 ^ t ≤ 2 ^ 6 := Nat.pow_le_pow_right (by omega) ht
  subst hs
  rw [show (1 : Int32) = nI 1 from rfl, pk_sub h1]
  exact pk_andN (by omega) t (pk_tn (by omega))
section SL
variable {n : Nat} {A B ow : Nat → Nat} {h : Hpx} {M : Msx}
theorem sl_b {r : Nat} (w : Wr_ n M r) : 1 ≤ sL M r ∧ sL M r ≤ 64 := by
  obtain ⟨t, ht, e⟩ := w.2.1
  have h1 : 1 ≤ 2 ^ t := Nat.one_le_two_pow
  have h2 : 2 ^ t ≤ 2 ^ 6 := Nat.pow_le_pow_right (by omega) ht
  omega
def kp (M : Msx) (r q : Nat) : Bool := decide (m_I M 3 r ≠ 2 ∧ q < cL M r ∧ cL M r ≤ q + sL M r)
theorem how_g {r : Nat} (w : Wr_ n M r) : (m_I M 3 r = 2 ∧ ¬ m_I M 50 r = 0) ∨ (m_I M 3 r ≠ 2 ∧ m_I M 50 r = 0) := by
  rcases w.2.2.2.2.1 with ⟨a, b, -⟩ | ⟨a, b, -⟩ | ⟨a, b⟩
  · right; rw [a]; exact ⟨by decide, b⟩
  · right; rw [a]; exact ⟨by decide, b⟩
  · left; rw [b]; exact ⟨a, by decide⟩
theorem slotOf_neg (C : Cn_ n A B ow h M) {r : Nat} (hr : r < nR M) {x : Int32} (hx : x < 0) : f_X2_slotOf h (A r) x = some none := by
  have s1 := (C.2.1.2.2.2.1 r hr).1
  unfold f_X2_slotOf j_X2_slotOf_36 j_X2_slotOf_37
  rw [if_pos s1]
  by_cases e : h_I h (A r) 6 = 0
  · rw [if_pos e, if_pos hx, if_pos rfl]
  · rw [if_neg e, if_pos rfl]
theorem slotOf_nI (C : Cn_ n A B ow h M) (hn : n ≤ 512) {r q : Nat} (hr : r < nR M) (hq : q < 2 ^ 30) : f_X2_slotOf h (A r) (nI q) = some (if kp M r q = true then some (A r + 2 + 2 * (q % sL M r)) else none) := by
  obtain ⟨s1, s2, s3, s4, s5⟩ := C.2.1.2.2.2.1 r hr
  have w := C.2.2.2.2.2.1 r hr
  have hs := sl_b w
  obtain ⟨w1, ⟨t, ht, et⟩, w3, w4, -⟩ := w
  have hm : q % sL M r < sL M r := Nat.mod_lt _ (by omega)
  unfold f_X2_slotOf j_X2_slotOf_36 j_X2_slotOf_37
  rw [if_pos s1, rI_50 C hr, rI_2 C hr, rI_1 C hr, w1, w3, s2]
  rcases how_g (C.2.2.2.2.2.1 r hr) with ⟨a, b⟩ | ⟨a, b⟩
  · rw [if_neg b, if_pos rfl, if_neg (by simp [kp, a])]
  · rw [if_pos b, if_neg (nI_pos (by omega))]
    simp only [nI_leI (a := cL M r) (b := q) (by omega) (by omega), sub_lt_c (c := cL M r) (s := sL M r) (q := q) (by omega) (by omega) (by omega)]
    by_cases e1 : cL M r ≤ q
    · rw [if_pos e1, if_pos trivial, if_neg (by simp only [kp, decide_eq_true_eq]; omega)]
    · rw [if_neg e1]
      by_cases e2 : q + sL M r < cL M r
      · rw [if_pos e2, if_pos trivial, if_neg (by simp only [kp, decide_eq_true_eq]; omega)]
      · rw [if_neg e2, if_neg (by decide), if_pos s1, and_pw (by omega) ht et]
        simp only [Option.bind_some, s3, s4, if_true, in_nI hm (by omega), cl_nI (show q % sL M r < 2 ^ 31 by omega), (s5 _ hm).1]
        rw [if_pos (by simp only [kp, decide_eq_true_eq]; exact ⟨a, by omega, by omega⟩)]
theorem isKept_neg {r : Nat} (h8 : r < 8) {x : Int32} (hx : x < 0) : f_X4_isKept M (nI r) x = some 0 := by
  unfold f_X4_isKept
  rw [if_pos (in_nI h8 (by omega))]
  rw [if_pos hx]
  split <;> rfl
theorem isKept_nI (W : Wf_ n M) (hn : n ≤ 512) {r q : Nat} (hr : r < nR M) (hq : q < 2 ^ 30) : f_X4_isKept M (nI r) (nI q) = some (if kp M r q = true then 1 else 0) := by
  have h8 : r < 8 := by have := W.1.2.1; omega
  have w := W.2.1 r hr
  have hs := sl_b w
  unfold f_X4_isKept
  rw [if_pos (in_nI h8 (by omega)), cl_nI (by omega), w.1, w.2.2.1, if_pos (in_nI h8 (by omega)), if_pos (in_nI h8 (by omega)), if_neg (nI_pos (by omega))]
  simp only [nI_leI (a := cL M r) (b := q) (by have := w.2.2.2.1; omega) (by omega), sub_lt_c (c := cL M r) (s := sL M r) (q := q) (by have := w.2.2.2.1; omega) (by omega) (by omega)]
  rcases w.2.2.2.2.1 with ⟨a, -⟩ | ⟨a, -⟩ | ⟨a, -⟩ <;> rw [a]
  · rw [if_neg (by decide)]
    by_cases e1 : cL M r ≤ q
    · rw [if_pos e1, if_neg (by simp only [kp, decide_eq_true_eq]; omega)]
    · rw [if_neg e1]
      by_cases e2 : q + sL M r < cL M r
      · rw [if_pos e2, if_neg (by simp only [kp, decide_eq_true_eq]; omega)]
      · rw [if_neg e2, if_pos (by simp only [kp, decide_eq_true_eq, a]; exact ⟨by decide, by omega, by omega⟩)]
  · rw [if_neg (by decide)]
    by_cases e1 : cL M r ≤ q
    · rw [if_pos e1, if_neg (by simp only [kp, decide_eq_true_eq]; omega)]
    · rw [if_neg e1]
      by_cases e2 : q + sL M r < cL M r
      · rw [if_pos e2, if_neg (by simp only [kp, decide_eq_true_eq]; omega)]
      · rw [if_neg e2, if_pos (by simp only [kp, decide_eq_true_eq, a]; exact ⟨by decide, by omega, by omega⟩)]
  · rw [if_pos (by decide), if_neg (by simp [kp, a])]
theorem slot_nI (W : Wf_ n M) {r q : Nat} (hr : r < nR M) (hq : q < 2 ^ 30) : f_X4_slot M (nI r) (nI q) = some (nI (64 * r + q % sL M r)) := by
  have h8 : r < 8 := by have := W.1.2.1; omega
  have w := W.2.1 r hr
  have hs := sl_b w
  unfold f_X4_slot
  rw [if_pos (in_nI h8 (by omega)), cl_nI (by omega), w.1, if_pos (nI_ne0 (by omega) (by omega)), pk_rem (by omega) (by omega) (by omega), show (64 : Int32) = nI 64 from rfl, pk_mul, nI_add]
/-- whether a claim is open, or published and not lost -/
def oB (M : Msx) (r q : Nat) : Bool := kp M r q && decide (m_I M 5 (64 * r + q % sL M r) ≠ 0)
def pB (M : Msx) (r q : Nat) : Bool := kp M r q && decide (m_I M 5 (64 * r + q % sL M r) = 0)
theorem openSlot_neg (C : Cn_ n A B ow h M) {r : Nat} (hr : r < nR M) {x : Int32} (hx : x < 0) : f_X2_openSlot h (A r) x = some none := by
  have s1 := (C.2.1.2.2.2.1 r hr).1
  unfold f_X2_openSlot
  rw [if_pos s1, slotOf_neg C hr hx]
  rfl
theorem sl_mod {r q : Nat} (w : Wr_ n M r) : q % sL M r < sL M r ∧ q % sL M r < 64 := by
  have hs := sl_b w
  have := Nat.mod_lt q (show sL M r > 0 by omega)
  omega
theorem openSlot_nI (C : Cn_ n A B ow h M) (hn : n ≤ 512) {r q : Nat} (hr : r < nR M) (hq : q < 2 ^ 30) : f_X2_openSlot h (A r) (nI q) = some (if oB M r q = true then some (A r + 2 + 2 * (q % sL M r)) else none) := by
  obtain ⟨s1, s2, s3, s4, s5⟩ := C.2.1.2.2.2.1 r hr
  have hm := sl_mod (q := q) (C.2.2.2.2.2.1 r hr)
  unfold f_X2_openSlot oB
  rw [if_pos s1, slotOf_nI C hn hr hq]
  simp only [Option.bind_some]
  by_cases e : kp M r q = true
  · rw [if_pos e, e]
    simp only [Option.bind_some, (s5 _ hm.1).2.1, if_true, rI_5 C hr hm.1 hm.2, Bool.true_and, reduceCtorEq, if_false]
    by_cases e2 : m_I M 5 (64 * r + q % sL M r) = 0
    · simp [e2]
    · simp [e2]
  · have ef : kp M r q = false := by simpa using e
    rw [if_neg e, if_pos rfl, ef]
    rfl
theorem isPub_neg (C : Cn_ n A B ow h M) {r : Nat} (hr : r < nR M) {x : Int32} (hx : x < 0) : f_X2_isPublished h (A r) x = some 0 := by
  have s1 := (C.2.1.2.2.2.1 r hr).1
  unfold f_X2_isPublished
  rw [if_pos s1, slotOf_neg C hr hx]
  rfl
theorem isPub_nI (C : Cn_ n A B ow h M) (hn : n ≤ 512) {r q : Nat} (hr : r < nR M) (hq : q < 2 ^ 30) : f_X2_isPublished h (A r) (nI q) = some (if pB M r q = true then 1 else 0) := by
  obtain ⟨s1, s2, s3, s4, s5⟩ := C.2.1.2.2.2.1 r hr
  have hm := sl_mod (q := q) (C.2.2.2.2.2.1 r hr)
  unfold f_X2_isPublished pB
  rw [if_pos s1, slotOf_nI C hn hr hq]
  simp only [Option.bind_some]
  by_cases e : kp M r q = true
  · rw [if_pos e, e]
    simp only [Option.bind_some, (s5 _ hm.1).2.1, if_true, rI_5 C hr hm.1 hm.2, Bool.true_and, reduceCtorEq, if_false]
    by_cases e2 : m_I M 5 (64 * r + q % sL M r) = 0
    · simp [e2]
    · simp [e2]
  · have ef : kp M r q = false := by simpa using e
    rw [if_neg e, if_pos rfl, ef]
    rfl
theorem isOpen4_neg {r : Nat} (h8 : r < 8) {x : Int32} (hx : x < 0) : f_X4_isOpen M (nI r) x = some 0 := by
  unfold f_X4_isOpen
  rw [isKept_neg h8 hx]
  rfl
theorem isOpen4_nI (W : Wf_ n M) (hn : n ≤ 512) {r q : Nat} (hr : r < nR M) (hq : q < 2 ^ 30) : f_X4_isOpen M (nI r) (nI q) = some (if oB M r q = true then 1 else 0) := by
  have h8 : r < 8 := by have := W.1.2.1; omega
  have hm := sl_mod (q := q) (W.2.1 r hr)
  unfold f_X4_isOpen oB
  rw [isKept_nI W hn hr hq, slot_nI W hr hq]
  simp only [Option.bind_some]
  by_cases e : kp M r q = true
  · rw [if_pos e, e, if_neg (by decide), if_pos (in_nI (by omega) (by omega)), cl_nI (by omega)]
    by_cases e2 : m_I M 5 (64 * r + q % sL M r) = 0
    · simp [e2]
    · simp [e2]
  · have ef : kp M r q = false := by simpa using e
    rw [if_neg e, if_pos rfl, ef]
    rfl
theorem isPub4_neg {r : Nat} (h8 : r < 8) {x : Int32} (hx : x < 0) : f_X4_isPublished M (nI r) x = some 0 := by
  unfold f_X4_isPublished
  rw [isKept_neg h8 hx]
  rfl
theorem isPub4_nI (W : Wf_ n M) (hn : n ≤ 512) {r q : Nat} (hr : r < nR M) (hq : q < 2 ^ 30) : f_X4_isPublished M (nI r) (nI q) = some (if pB M r q = true then 1 else 0) := by
  have h8 : r < 8 := by have := W.1.2.1; omega
  have hm := sl_mod (q := q) (W.2.1 r hr)
  unfold f_X4_isPublished pB
  rw [isKept_nI W hn hr hq, slot_nI W hr hq]
  simp only [Option.bind_some]
  by_cases e : kp M r q = true
  · rw [if_pos e, e, if_neg (by decide), if_pos (in_nI (by omega) (by omega)), cl_nI (by omega)]
    by_cases e2 : m_I M 5 (64 * r + q % sL M r) = 0
    · simp [e2]
    · simp [e2]
  · have ef : kp M r q = false := by simpa using e
    rw [if_neg e, if_pos rfl, ef]
    rfl
/-- a holder of ring q whose place is x or less -/
def hB (M : Msx) (q : Nat) (x : Int32) (j : Nat) : Bool := decide (j < nD M ∧ ¬ hP M j q < 0 ∧ ¬ x < hP M j q)
theorem hu_loop (C : Cn_ n A B ow h M) {r : Nat} (hr : r < nR M) (h8 : r < 8) (x : Int32) : ∀ (m i fuel : Nat), i + m = 16 → m < fuel → l_X3_holderUpTo_2 h 0 fuel (some (A r)) x (nI i) = some (lsA (hB M r x) m i (-1)) := by
  obtain ⟨k0, -⟩ := C.2.1.1
  have s1 := (C.2.1.2.2.2.1 r hr).1
  have w6 := (C.2.2.2.2.2.1 r hr).2.2.2.2.2.1
  intro m
  induction m with
  | zero =>
    intro i fuel hi hf
    obtain ⟨f, rfl⟩ : ∃ f, fuel = f + 1 := ⟨fuel - 1, by omega⟩
    rw [u_X3_holderUpTo_2]
    unfold j_X3_holderUpTo_2
    rw [if_pos (by rw [litle (n := 16) rfl (by omega)]; omega)]
    rfl
  | succ m ih =>
    intro i fuel hi hf
    obtain ⟨f, rfl⟩ : ∃ f, fuel = f + 1 := ⟨fuel - 1, by omega⟩
    rw [u_X3_holderUpTo_2]
    unfold j_X3_holderUpTo_2 j_X3_holderUpTo_33
    rw [if_neg (by rw [litle (n := 16) rfl (by omega)]; omega), if_pos k0, readerAt_nI C (by omega), lsA, show nI i + 1 = nI (i + 1) from nI_1 i, ih (i + 1) f (by omega) (by omega)]
    simp only [Option.bind_some]
    by_cases e : i < nD M
    · simp only [if_pos e, reduceCtorEq, if_false, Option.bind_some, s1, if_true, (C.2.1.2.2.2.2.1 i e).1, rI_60 C hr, w6, held1 C e h8]
      by_cases e1 : hP M i r < 0
      · rw [if_pos e1, if_neg (by simp [hB, e1])]
      · rw [if_neg e1]
        by_cases e2 : x < hP M i r
        · rw [if_pos e2, if_neg (by simp [hB, e2])]
        · rw [if_neg e2, if_pos (by simp [hB, e, e1, e2])]
    · rw [if_neg e, if_pos rfl, if_pos (by decide), if_neg (by simp [hB, e])]
/-- the least such holder -/
def hL (M : Msx) (q : Nat) (x : Int32) : Int32 := lsA (hB M q x) 16 0 (-1)
theorem holderUpTo_c (C : Cn_ n A B ow h M) {r : Nat} (hr : r < nR M) (h8 : r < 8) (x : Int32) : f_X3_holderUpTo h 0 (some (A r)) x = some (hL M r x) := by
  unfold f_X3_holderUpTo hL
  exact hu_loop C hr h8 x 16 0 70 (by omega) (by omega)
theorem ho_loop (W : Wf_ n M) {r : Nat} (hr : r < nR M) (x : Int32) : ∀ (m fuel : Nat) (acc : Int32), m ≤ nD M → m < fuel → l_X4_holderOf_10 M fuel (nI r) x acc (nI m + (-1)) = some (dnA (hB M r (x - m_I M 1 r)) m acc) := by
  have h8 : r < 8 := by have := W.1.2.1; omega
  have h16 := W.1.2.2.2.1
  intro m
  induction m with
  | zero =>
    intro fuel acc hm hf
    obtain ⟨f, rfl⟩ : ∃ f, fuel = f + 1 := ⟨fuel - 1, by omega⟩
    rw [u_X4_holderOf_10]
    unfold j_X4_holderOf_10
    rw [if_pos (by decide)]
    rfl
  | succ m ih =>
    intro fuel acc hm hf
    obtain ⟨f, rfl⟩ : ∃ f, fuel = f + 1 := ⟨fuel - 1, by omega⟩
    rw [u_X4_holderOf_10]
    unfold j_X4_holderOf_10
    rw [pk_m1 m, if_neg (nI_pos (by omega)), isHolder4 W (by omega) h8, placeIn4 W (by omega) h8]
    simp only [Option.bind_some, in_nI h8 (show 8 ≤ 65536 by omega), if_true, cl_nI (show r < 2 ^ 31 by omega)]
    have hm' : m < nD M := by omega
    rw [dnA]
    by_cases e1 : hP M m r < 0
    · rw [if_pos e1, if_pos rfl, if_neg (by simp [hB, e1])]
      exact ih f acc (by omega) (by omega)
    · rw [if_neg e1, if_neg (by decide)]
      have e3 : hP M m r = pC M m r := by
        unfold hP
        by_cases e : kD M m = 3
        · exfalso
          apply e1
          unfold hP
          rw [if_pos e]
          decide
        · rw [if_neg e]
      by_cases e2 : x - m_I M 1 r < pC M m r
      · rw [if_pos e2, if_neg (by simp [hB, e3, e2])]
        exact ih f acc (by omega) (by omega)
      · rw [if_neg e2, if_pos (by simp only [hB, decide_eq_true_eq]; rw [e3]; rw [e3] at e1; exact ⟨hm', e1, e2⟩)]
        exact ih f _ (by omega) (by omega)
theorem hB_out {q : Nat} {x : Int32} {j : Nat} (hj : nD M ≤ j) : hB M q x j = false := by
  simp only [hB, decide_eq_false_iff_not]
  omega
theorem holderOf_c (W : Wf_ n M) {r : Nat} (hr : r < nR M) (x : Int32) : f_X4_holderOf M (nI r) x = some (hL M r (x - m_I M 1 r)) := by
  have h16 := W.1.2.2.2.1
  unfold f_X4_holderOf
  rw [W.1.2.2.1, show nI (nD M) - 1 = nI (nD M) + (-1) from Int32.sub_eq_add_neg _ _, ho_loop W hr x (nD M) 70 (-1) (Nat.le_refl _) (by omega), dnA_eq]
  unfold hL
  rw [show (16 : Nat) = nD M + (16 - nD M) by omega, lsA_cut]
  intro t h1 h2
  exact hB_out (by omega)
theorem hL_or {q : Nat} {x : Int32} : hL M q x = -1 ∨ ∃ t, t < 16 ∧ hL M q x = nI t ∧ hB M q x t = true := by
  rcases lsA_or (hB M q x) 16 0 (-1) with ⟨h1, -⟩ | ⟨t, h1, h2, h3, h4, -⟩
  · exact Or.inl h1
  · exact Or.inr ⟨t, by omega, h4, h3⟩
/-- whether claim c of a ring would be held up -/
def dB (M : Msx) (r c : Nat) : Bool := decide (sL M r ≤ c) && (oB M r (c - sL M r) || decide (¬ hL M r (nI (c - sL M r)) < 0))
theorem isHeld4 (W : Wf_ n M) (hn : n ≤ 512) {r c : Nat} (hr : r < nR M) (hc : c < 2 ^ 29) : f_X4_isHeld M (nI r) (nI c) = some (if dB M r c = true then 1 else 0) := by
  have h8 : r < 8 := by have := W.1.2.1; omega
  have w := W.2.1 r hr
  have hs := sl_b w
  unfold f_X4_isHeld j_X4_isHeld_25
  rw [if_pos (in_nI h8 (by omega)), cl_nI (by omega), holderOf_c W hr, w.1]
  by_cases e : sL M r ≤ c
  · rw [pk_sub e, isOpen4_nI W hn hr (by omega)]
    simp only [Option.bind_some, dB, decide_eq_true e, Bool.true_and]
    by_cases e1 : oB M r (c - sL M r) = true
    · simp [e1]
    · have ef : oB M r (c - sL M r) = false := by simpa using e1
      rw [ef]
      by_cases e2 : hL M r (nI (c - sL M r)) < 0
      · simp [e2]
      · simp [e2]
  · have hneg : nI c - nI (sL M r) < 0 := pk_sneg (by omega) (by omega)
    rw [isOpen4_neg h8 hneg]
    have hno : hL M r (nI c - nI (sL M r)) < 0 := by
      rcases hL_or (M := M) (q := r) (x := nI c - nI (sL M r)) with z | ⟨t, ht, z, zb⟩
      · rw [z]; decide
      · exfalso
        simp only [hB, decide_eq_true_eq] at zb
        obtain ⟨z1, z2, z3⟩ := zb
        rw [Int32.lt_iff_toInt_lt] at z2 z3 hneg
        have : (0 : Int32).toInt = 0 := rfl
        omega
    simp [dB, e, hno]
theorem isHeldUp3 (C : Cn_ n A B ow h M) (hn : n ≤ 512) {r c : Nat} (hr : r < nR M) (hc : c < 2 ^ 29) : f_X3_isHeldUp h 0 (some (A r)) (nI c) = some (if dB M r c = true then 1 else 0) := by
  have W := C.2.2.2.2
  have h8 : r < 8 := by have := W.1.2.1; omega
  have w := W.2.1 r hr
  have hs := sl_b w
  obtain ⟨k0, -⟩ := C.2.1.1
  have s1 := (C.2.1.2.2.2.1 r hr).1
  unfold f_X3_isHeldUp j_X3_isHeldUp_28
  simp only [Option.bind_some, s1, if_true, rI_1 C hr, w.1, k0]
  by_cases e : sL M r ≤ c
  · rw [pk_sub e, if_neg (nI_pos (by omega)), openSlot_nI C hn hr (by omega), holderUpTo_c C hr h8]
    simp only [Option.bind_some, dB, decide_eq_true e, Bool.true_and]
    by_cases e1 : oB M r (c - sL M r) = true
    · simp [e1]
    · have ef : oB M r (c - sL M r) = false := by simpa using e1
      rw [ef]
      by_cases e2 : hL M r (nI (c - sL M r)) < 0
      · simp [e2]
      · simp [e2]
  · have hneg : nI c - nI (sL M r) < 0 := pk_sneg (by omega) (by omega)
    rw [if_pos hneg]
    simp [dB, e]
theorem isHeldUp4 (W : Wf_ n M) (hn : n ≤ 512) {r : Nat} (hr : r < nR M) : f_X4_isHeldUp M (nI r) = some (if dB M r (cL M r) = true then 1 else 0) := by
  have h8 : r < 8 := by have := W.1.2.1; omega
  have w := W.2.1 r hr
  unfold f_X4_isHeldUp
  rw [if_pos (in_nI h8 (by omega)), cl_nI (by omega), w.2.2.1, isHeld4 W hn hr (by have := w.2.2.2.1; omega)]
  simp only [Option.bind_some]
  split
  · rfl
  · rfl
end SL
