/-! counts and least places -/
def fdA (g : Nat → Int32 → Int32) : Nat → Nat → Int32 → Int32
  | 0, _, acc => acc
  | m + 1, i, acc => fdA g m (i + 1) (g i acc)
theorem fdA_id (g : Nat → Int32 → Int32) : ∀ (m i : Nat) (acc : Int32), (∀ t, i ≤ t → t < i + m → ∀ a, g t a = a) → fdA g m i acc = acc
  | 0, _, _, _ => rfl
  | m + 1, i, acc, hg => by
    rw [fdA, hg i (Nat.le_refl i) (by omega)]
    exact fdA_id g m (i + 1) acc fun t h1 h2 => hg t (by omega) (by omega)
theorem fdA_cut (g g' : Nat → Int32 → Int32) : ∀ (m k i : Nat) (acc : Int32), (∀ t, i ≤ t → t < i + m → ∀ a, g t a = g' t a) → (∀ t, i + m ≤ t → t < i + m + k → ∀ a, g t a = a) → fdA g (m + k) i acc = fdA g' m i acc
  | 0, k, i, acc, _, h2 => by
    rw [Nat.zero_add]
    exact fdA_id g k i acc fun t a b => h2 t (by omega) (by omega)
  | m + 1, k, i, acc, h1, h2 => by
    rw [show m + 1 + k = (m + k) + 1 by omega, fdA, fdA, h1 i (Nat.le_refl i) (by omega)]
    exact fdA_cut g g' m k (i + 1) _ (fun t a b => h1 t (by omega) (by omega)) (fun t a b => h2 t (by omega) (by omega))
def smA (f : Nat → Nat) : Nat → Nat
  | 0 => 0
  | m + 1 => smA f m + f m
theorem smA_cong {f g : Nat → Nat} : ∀ m, (∀ k, k < m → f k = g k) → smA f m = smA g m
  | 0, _ => rfl
  | m + 1, h => by rw [smA, smA, smA_cong m fun k hk => h k (by omega), h m (by omega)]
theorem smA_shift (f : Nat → Nat) : ∀ m, smA (fun k => f (k + 1)) m + f 0 = smA f m + f m
  | 0 => by simp [smA]
  | m + 1 => by
    have := smA_shift f m
    simp only [smA]
    omega
theorem smA_rev (f : Nat → Nat) : ∀ m, smA (fun k => f (m - 1 - k)) m = smA f m
  | 0 => rfl
  | m + 1 => by
    have e1 : smA (fun k => f (m + 1 - 1 - k)) (m + 1) = smA (fun k => f (m - k)) m + f 0 := by
      rw [smA]
      simp
    rw [e1, smA]
    have e2 := smA_rev (fun k => f (k + 1)) m
    have e3 := smA_shift f m
    have e4 : smA (fun k => f (m - k)) m = smA (fun k => f (m - 1 - k + 1)) m := smA_cong m fun k hk => by
      show f (m - k) = f (m - 1 - k + 1)
      congr 1
      omega
    rw [e4, e2]
    exact e3
theorem smA_rot (f : Nat → Nat) {s : Nat} (hs : 0 < s) : ∀ a, smA (fun k => f ((a + k) % s)) s = smA f s
  | 0 => smA_cong s fun k hk => by show f ((0 + k) % s) = f k; rw [Nat.zero_add, Nat.mod_eq_of_lt hk]
  | a + 1 => by
    have e := smA_shift (fun k => f ((a + k) % s)) s
    have e2 := smA_rot f hs a
    have e3 : f ((a + s) % s) = f ((a + 0) % s) := by rw [Nat.add_mod_right, Nat.add_zero]
    have e4 : smA (fun k => f ((a + 1 + k) % s)) s = smA (fun k => f ((a + (k + 1)) % s)) s := smA_cong s fun k _ => by
      show f ((a + 1 + k) % s) = f ((a + (k + 1)) % s)
      rw [show a + 1 + k = a + (k + 1) by omega]
    rw [e4]
    have e5 : smA (fun k => f ((a + (k + 1)) % s)) s + f ((a + 0) % s) = smA (fun k => f ((a + k) % s)) s + f ((a + s) % s) := e
    omega
theorem smA_le (f : Nat → Nat) (hf : ∀ k, f k ≤ 1) : ∀ m, smA f m ≤ m
  | 0 => Nat.le_refl 0
  | m + 1 => by
    have := smA_le f hf m
    have := hf m
    rw [smA]
    omega
theorem smA_ext (f : Nat → Nat) : ∀ (k m : Nat), (∀ t, m ≤ t → t < m + k → f t = 0) → smA f (m + k) = smA f m
  | 0, _, _ => rfl
  | k + 1, m, h => by
    rw [← Nat.add_assoc, smA, h (m + k) (by omega) (by omega), smA_ext f k m fun t a b => h t a (by omega)]
    rfl
section CT
variable {n : Nat} {A B ow : Nat → Nat} {h : Hpx} {M : Msx}
def oF (M : Msx) (r k : Nat) : Nat := if m_I M 5 (64 * r + k) = 0 then 0 else 1
theorem co_loop (C : Cn_ n A B ow h M) {r : Nat} (hr : r < nR M) : ∀ (m k fuel acc : Nat), k + m = sL M r → m < fuel → acc = smA (oF M r) k → l_X2_countOpen_4 h (A r) fuel (nI acc) (nI k) = some (nI (smA (oF M r) (sL M r))) := by
  obtain ⟨s1, s2, s3, s4, s5⟩ := C.2.1.2.2.2.1 r hr
  have w := C.2.2.2.2.2.1 r hr
  have hs := sl_b w
  intro m
  induction m with
  | zero =>
    intro k fuel acc hk hf ha
    obtain ⟨f, rfl⟩ : ∃ f, fuel = f + 1 := ⟨fuel - 1, by omega⟩
    rw [u_X2_countOpen_4]
    unfold j_X2_countOpen_4
    rw [if_pos s1, s2]
    simp only [Option.bind_some, s3, s4, if_true]
    rw [if_pos (by rw [nI_leI (by omega) (by omega)]; omega), ha, show k = sL M r by omega]
  | succ m ih =>
    intro k fuel acc hk hf ha
    obtain ⟨f, rfl⟩ : ∃ f, fuel = f + 1 := ⟨fuel - 1, by omega⟩
    have hk2 : k < sL M r := by omega
    rw [u_X2_countOpen_4]
    unfold j_X2_countOpen_4
    rw [if_pos s1, s2]
    simp only [Option.bind_some, s3, s4, if_true]
    rw [if_neg (by rw [nI_leI (by omega) (by omega)]; omega)]
    simp only [Option.bind_some, if_true, in_nI hk2 (show sL M r ≤ 65536 by omega), cl_nI (show k < 2 ^ 31 by omega), (s5 k hk2).1, (s5 k hk2).2.1, rI_5 C hr hk2 (show k < 64 by omega), show nI k + 1 = nI (k + 1) from nI_1 k, show nI acc + 1 = nI (acc + 1) from nI_1 acc]
    by_cases e : m_I M 5 (64 * r + k) = 0
    · rw [if_pos e]
      refine ih (k + 1) f acc (by omega) (by omega) ?_
      rw [smA, ha]
      simp [oF, e]
    · rw [if_neg e]
      refine ih (k + 1) f (acc + 1) (by omega) (by omega) ?_
      rw [smA, ha]
      simp [oF, e]
theorem countOpen3 (C : Cn_ n A B ow h M) {r : Nat} (hr : r < nR M) : f_X2_countOpen h (A r) = some (nI (smA (oF M r) (sL M r))) := by
  have hs := sl_b (C.2.2.2.2.2.1 r hr)
  unfold f_X2_countOpen
  exact co_loop C hr (sL M r) 0 70 0 (by omega) (by omega) rfl
/-- the reference's way of counting: claims from the latest one on -/
def oG (M : Msx) (r k : Nat) : Nat := if k < cL M r ∧ oB M r (cL M r - 1 - k) = true then 1 else 0
theorem om_loop (W : Wf_ n M) (hn : n ≤ 512) {r : Nat} (hr : r < nR M) : ∀ (m k fuel acc : Nat), k + m = sL M r → m < fuel → acc = smA (oG M r) k → l_X4_openMany_4 M fuel (nI r) (nI acc) (nI k) = some (nI (smA (oG M r) (sL M r))) := by
  have h8 : r < 8 := by have := W.1.2.1; omega
  have w := W.2.1 r hr
  have hs := sl_b w
  have hc := w.2.2.2.1
  intro m
  induction m with
  | zero =>
    intro k fuel acc hk hf ha
    obtain ⟨f, rfl⟩ : ∃ f, fuel = f + 1 := ⟨fuel - 1, by omega⟩
    rw [u_X4_openMany_4]
    unfold j_X4_openMany_4
    rw [if_pos (in_nI h8 (by omega)), cl_nI (by omega), w.1, if_pos (by rw [nI_leI (by omega) (by omega)]; omega), ha, show k = sL M r by omega]
  | succ m ih =>
    intro k fuel acc hk hf ha
    obtain ⟨f, rfl⟩ : ∃ f, fuel = f + 1 := ⟨fuel - 1, by omega⟩
    rw [u_X4_openMany_4]
    unfold j_X4_openMany_4
    rw [if_pos (in_nI h8 (by omega)), cl_nI (show r < 2 ^ 31 by omega), w.1, if_neg (by rw [nI_leI (by omega) (by omega)]; omega), if_pos (in_nI h8 (by omega)), w.2.2.1]
    have en : nI acc + 0 = nI acc := by rw [show (0 : Int32) = nI 0 from rfl, nI_add, Nat.add_zero]
    rw [show nI k + 1 = nI (k + 1) from nI_1 k, show nI acc + 1 = nI (acc + 1) from nI_1 acc, en]
    by_cases e : k < cL M r
    · have e1 : nI (cL M r) - 1 - nI k = nI (cL M r - 1 - k) := by
        rw [show (1 : Int32) = nI 1 from rfl, pk_sub (by omega), pk_sub (by omega)]
      rw [e1, isOpen4_nI W hn hr (by omega)]
      simp only [Option.bind_some]
      by_cases e2 : oB M r (cL M r - 1 - k) = true
      · rw [if_pos e2, if_neg (by decide)]
        refine ih (k + 1) f (acc + 1) (by omega) (by omega) ?_
        rw [smA, ha]
        simp [oG, e, e2]
      · rw [if_neg e2, if_pos rfl]
        refine ih (k + 1) f acc (by omega) (by omega) ?_
        rw [smA, ha]
        simp [oG, e2]
    · have e1 : nI (cL M r) - 1 - nI k < 0 := by
        have e3 : nI (cL M r) - 1 - nI k = nI (cL M r) - nI (k + 1) := by
          rw [← nI_1 k]
          generalize nI (cL M r) = x
          generalize nI k = y
          apply Int32.toBitVec_inj.mp
          simp only [Int32.toBitVec_sub, Int32.toBitVec_add]
          bv_omega
        rw [e3]
        exact pk_sneg (by omega) (by omega)
      rw [isOpen4_neg h8 e1]
      simp only [Option.bind_some, if_true]
      refine ih (k + 1) f acc (by omega) (by omega) ?_
      rw [smA, ha]
      simp [oG, e]
theorem oG_sum (W : Wf_ n M) {r : Nat} (hr : r < nR M) : smA (oG M r) (sL M r) = smA (oF M r) (sL M r) := by
  have w := W.2.1 r hr
  have hs := sl_b w
  obtain ⟨-, -, -, -, w5, -, w7, -⟩ := w
  by_cases hg : m_I M 3 r = 2
  · have a1 : smA (oG M r) (sL M r) = smA (fun _ => 0) (sL M r) := smA_cong _ fun k hk => by simp [oG, oB, kp, hg]
    have a2 : smA (oF M r) (sL M r) = smA (fun _ => 0) (sL M r) := smA_cong _ fun k hk => by simp [oF, (w7 k hk).2.2.1 hg]
    rw [a1, a2]
  · have key : ∀ k, k < sL M r → k < cL M r → oG M r k = oF M r ((cL M r - 1 - k) % sL M r) := fun k hk hc => by
      have hkp : kp M r (cL M r - 1 - k) = true := by
        simp only [kp, decide_eq_true_eq]
        exact ⟨hg, by omega, by omega⟩
      unfold oG oF oB
      rw [hkp]
      by_cases e : m_I M 5 (64 * r + (cL M r - 1 - k) % sL M r) = 0
      · simp [e]
      · simp [e, hc]
    by_cases hcs : sL M r ≤ cL M r
    · have a1 : smA (oG M r) (sL M r) = smA (fun k => oF M r ((cL M r - sL M r + (sL M r - 1 - k)) % sL M r)) (sL M r) := smA_cong _ fun k hk => by
        rw [key k hk (by omega)]
        congr 2
        omega
      rw [a1, smA_rev (fun k => oF M r ((cL M r - sL M r + k) % sL M r)) (sL M r), smA_rot (oF M r) (by omega)]
    · have hlt : cL M r < sL M r := by omega
      have b1 : smA (oG M r) (sL M r) = smA (oG M r) (cL M r) := by
        rw [show sL M r = cL M r + (sL M r - cL M r) by omega]
        exact smA_ext _ _ _ fun t h1 h2 => by simp [oG]; omega
      have b2 : smA (oF M r) (sL M r) = smA (oF M r) (cL M r) := by
        rw [show sL M r = cL M r + (sL M r - cL M r) by omega]
        exact smA_ext _ _ _ fun t h1 h2 => by simp [oF, (w7 t (by omega)).2.1 h1]
      rw [b1, b2, ← smA_rev (oF M r) (cL M r)]
      exact smA_cong _ fun k hk => by
        rw [key k (by omega) hk, Nat.mod_eq_of_lt (by omega)]
theorem openMany4 (W : Wf_ n M) (hn : n ≤ 512) {r : Nat} (hr : r < nR M) : f_X4_openMany M (nI r) = some (nI (smA (oF M r) (sL M r))) := by
  have hs := sl_b (W.2.1 r hr)
  unfold f_X4_openMany
  rw [← oG_sum W hr]
  exact om_loop W hn hr (sL M r) 0 70 0 (by omega) (by omega) rfl
/-- holders: how many, and their least place -/
def gC (M : Msx) (q j : Nat) (acc : Int32) : Int32 := if hP M j q < 0 then acc else acc + 1
def gL (M : Msx) (q j : Nat) (acc : Int32) : Int32 := if hP M j q < 0 then acc else if acc < 0 then hP M j q else if acc ≤ hP M j q then acc else hP M j q
def gU (M : Msx) (g : Nat → Int32 → Int32) (j : Nat) (acc : Int32) : Int32 := if j < nD M then g j acc else acc
theorem ch_loop (C : Cn_ n A B ow h M) {r : Nat} (hr : r < nR M) (h8 : r < 8) : ∀ (m i fuel : Nat) (acc : Int32), i + m = 16 → m < fuel → l_X3_countHolders_4 h 0 fuel (some (A r)) acc (nI i) = some (fdA (gU M (gC M r)) m i acc) := by
  obtain ⟨k0, -⟩ := C.2.1.1
  have s1 := (C.2.1.2.2.2.1 r hr).1
  have w6 := (C.2.2.2.2.2.1 r hr).2.2.2.2.2.1
  intro m
  induction m with
  | zero =>
    intro i fuel acc hi hf
    obtain ⟨f, rfl⟩ : ∃ f, fuel = f + 1 := ⟨fuel - 1, by omega⟩
    rw [u_X3_countHolders_4]
    unfold j_X3_countHolders_4
    rw [if_pos (by rw [litle (n := 16) rfl (by omega)]; omega)]
    rfl
  | succ m ih =>
    intro i fuel acc hi hf
    obtain ⟨f, rfl⟩ : ∃ f, fuel = f + 1 := ⟨fuel - 1, by omega⟩
    rw [u_X3_countHolders_4]
    unfold j_X3_countHolders_4
    rw [if_neg (by rw [litle (n := 16) rfl (by omega)]; omega), if_pos k0, readerAt_nI C (by omega), fdA, show nI i + 1 = nI (i + 1) from nI_1 i]
    simp only [Option.bind_some, ih (i + 1) f _ (show i + 1 + m = 16 by omega) (show m < f by omega)]
    by_cases e : i < nD M
    · simp only [if_pos e, reduceCtorEq, if_false, Option.bind_some, s1, if_true, (C.2.1.2.2.2.2.1 i e).1, rI_60 C hr, w6, held1 C e h8]
      by_cases e1 : hP M i r < 0
      · simp [gU, gC, e, e1]
      · simp [gU, gC, e, e1]
    · simp [gU, e]
theorem hs_loop (W : Wf_ n M) {r : Nat} (hr : r < nR M) : ∀ (m i fuel : Nat) (acc : Int32), i + m = nD M → m < fuel → l_X4_holders_4 M fuel (nI r) acc (nI i) = some (fdA (gC M r) m i acc) := by
  have h8 : r < 8 := by have := W.1.2.1; omega
  have h16 := W.1.2.2.2.1
  intro m
  induction m with
  | zero =>
    intro i fuel acc hi hf
    obtain ⟨f, rfl⟩ : ∃ f, fuel = f + 1 := ⟨fuel - 1, by omega⟩
    rw [u_X4_holders_4]
    unfold j_X4_holders_4
    rw [W.1.2.2.1, if_pos (by rw [nI_leI (by omega) (by omega)]; omega)]
    rfl
  | succ m ih =>
    intro i fuel acc hi hf
    obtain ⟨f, rfl⟩ : ∃ f, fuel = f + 1 := ⟨fuel - 1, by omega⟩
    rw [u_X4_holders_4]
    unfold j_X4_holders_4
    rw [W.1.2.2.1, if_neg (by rw [nI_leI (by omega) (by omega)]; omega), isHolder4 W (by omega) h8, fdA, show nI i + 1 = nI (i + 1) from nI_1 i]
    simp only [Option.bind_some, ih (i + 1) f _ (show i + 1 + m = nD M by omega) (show m < f by omega)]
    by_cases e1 : hP M i r < 0
    · simp [gC, e1]
    · simp [gC, e1]
theorem holders_c (C : Cn_ n A B ow h M) {r : Nat} (hr : r < nR M) (h8 : r < 8) : ∃ v, f_X3_countHolders h 0 (some (A r)) = some v ∧ f_X4_holders M (nI r) = some v := by
  have W := C.2.2.2.2
  have h16 := W.1.2.2.2.1
  refine ⟨fdA (gC M r) (nD M) 0 0, ?_, ?_⟩
  · unfold f_X3_countHolders
    rw [show (0 : Int32) = nI 0 from rfl, ch_loop C hr h8 16 0 70 (nI 0) (by omega) (by omega), show (16 : Nat) = nD M + (16 - nD M) by omega, fdA_cut _ (gC M r)]
    · intro t h1 h2 a
      unfold gU
      rw [if_pos (by omega)]
    · intro t h1 h2 a
      unfold gU
      rw [if_neg (by omega)]
  · unfold f_X4_holders
    exact hs_loop W hr (nD M) 0 70 0 (by omega) (by omega)
theorem lh_loop (C : Cn_ n A B ow h M) {r : Nat} (hr : r < nR M) (h8 : r < 8) : ∀ (m i fuel : Nat) (acc : Int32), i + m = 16 → m < fuel → l_X3_leastHolderPlace_4 h 0 fuel (some (A r)) acc (nI i) = some (fdA (gU M (gL M r)) m i acc) := by
  obtain ⟨k0, -⟩ := C.2.1.1
  have s1 := (C.2.1.2.2.2.1 r hr).1
  have w6 := (C.2.2.2.2.2.1 r hr).2.2.2.2.2.1
  intro m
  induction m with
  | zero =>
    intro i fuel acc hi hf
    obtain ⟨f, rfl⟩ : ∃ f, fuel = f + 1 := ⟨fuel - 1, by omega⟩
    rw [u_X3_leastHolderPlace_4]
    unfold j_X3_leastHolderPlace_4
    rw [if_pos (by rw [litle (n := 16) rfl (by omega)]; omega)]
    rfl
  | succ m ih =>
    intro i fuel acc hi hf
    obtain ⟨f, rfl⟩ : ∃ f, fuel = f + 1 := ⟨fuel - 1, by omega⟩
    rw [u_X3_leastHolderPlace_4]
    unfold j_X3_leastHolderPlace_4 j_X3_leastHolderPlace_35
    rw [if_neg (by rw [litle (n := 16) rfl (by omega)]; omega), if_pos k0, readerAt_nI C (by omega), fdA, show nI i + 1 = nI (i + 1) from nI_1 i]
    simp only [Option.bind_some, ih (i + 1) f _ (show i + 1 + m = 16 by omega) (show m < f by omega)]
    by_cases e : i < nD M
    · simp only [if_pos e, reduceCtorEq, if_false, Option.bind_some, s1, if_true, (C.2.1.2.2.2.2.1 i e).1, rI_60 C hr, w6, held1 C e h8]
      by_cases e1 : hP M i r < 0
      · simp [gU, gL, e, e1]
      · by_cases e2 : acc < 0
        · have e3 : ¬ (0 : Int32) ≤ acc := by rw [Int32.not_le]; exact e2
          simp [gU, gL, e, e1, e2, e3]
        · have e3 : (0 : Int32) ≤ acc := by rw [← Int32.not_lt]; exact e2
          by_cases e4 : acc ≤ hP M i r
          · have e5 : ¬ hP M i r < acc := by rw [Int32.not_lt]; exact e4
            simp [gU, gL, e, e1, e2, e3, e4, e5]
          · have e5 : hP M i r < acc := by rw [← Int32.not_le]; exact e4
            simp [gU, gL, e, e1, e2, e3, e4, e5]
    · simp [gU, e]
theorem lp_loop (W : Wf_ n M) {r : Nat} (hr : r < nR M) : ∀ (m i fuel : Nat) (acc : Int32), i + m = nD M → m < fuel → l_X4_leastPlace_4 M fuel (nI r) acc (nI i) = some (fdA (gL M r) m i acc) := by
  have h8 : r < 8 := by have := W.1.2.1; omega
  have h16 := W.1.2.2.2.1
  intro m
  induction m with
  | zero =>
    intro i fuel acc hi hf
    obtain ⟨f, rfl⟩ : ∃ f, fuel = f + 1 := ⟨fuel - 1, by omega⟩
    rw [u_X4_leastPlace_4]
    unfold j_X4_leastPlace_4
    rw [W.1.2.2.1, if_pos (by rw [nI_leI (by omega) (by omega)]; omega)]
    rfl
  | succ m ih =>
    intro i fuel acc hi hf
    obtain ⟨f, rfl⟩ : ∃ f, fuel = f + 1 := ⟨fuel - 1, by omega⟩
    rw [u_X4_leastPlace_4]
    unfold j_X4_leastPlace_4 j_X4_leastPlace_35
    rw [W.1.2.2.1, if_neg (by rw [nI_leI (by omega) (by omega)]; omega), isHolder4 W (by omega) h8, placeIn4 W (by omega) h8, fdA, show nI i + 1 = nI (i + 1) from nI_1 i]
    simp only [Option.bind_some, ih (i + 1) f _ (show i + 1 + m = nD M by omega) (show m < f by omega)]
    by_cases e1 : hP M i r < 0
    · simp [gL, e1]
    · have e3 : hP M i r = pC M i r := by
        unfold hP
        by_cases e : kD M i = 3
        · exfalso
          apply e1
          unfold hP
          rw [if_pos e]
          decide
        · rw [if_neg e]
      rw [e3] at e1
      by_cases e2 : acc < 0
      · simp [gL, e3, e1, e2]
      · by_cases e4 : acc ≤ pC M i r
        · simp [gL, e3, e1, e2, e4]
        · simp [gL, e3, e1, e2, e4]
def lP (M : Msx) (r : Nat) : Int32 := fdA (gL M r) (nD M) 0 (-1)
theorem least3 (C : Cn_ n A B ow h M) {r : Nat} (hr : r < nR M) (h8 : r < 8) : f_X3_leastHolderPlace h 0 (some (A r)) = some (lP M r) := by
  have h16 := C.2.2.2.2.1.2.2.2.1
  unfold f_X3_leastHolderPlace lP
  rw [show (0 : Int32) = nI 0 from rfl, lh_loop C hr h8 16 0 70 (-1) (by omega) (by omega), show (16 : Nat) = nD M + (16 - nD M) by omega, fdA_cut _ (gL M r)]
  · intro t h1 h2 a
    unfold gU
    rw [if_pos (by omega)]
  · intro t h1 h2 a
    unfold gU
    rw [if_neg (by omega)]
theorem least4 (W : Wf_ n M) {r : Nat} (hr : r < nR M) : f_X4_leastPlace M (nI r) = some (lP M r) := by
  have h16 := W.1.2.2.2.1
  unfold f_X4_leastPlace lP
  exact lp_loop W hr (nD M) 0 70 (-1) (by omega) (by omega)
end CT
