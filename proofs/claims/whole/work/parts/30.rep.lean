/-! numbers -/
theorem in_nI {a N : Nat} (h : a < N) (hN : N ≤ 65536) : in_b (nI a) N = true := by
  have e : (nI a).toInt = (a : Int) := nI_toInt (by omega)
  simp only [in_b, e, Bool.and_eq_true, decide_eq_true_eq]
  omega
theorem cl_nI {a : Nat} (h : a < 2 ^ 31) : (nI a).toNatClampNeg = a := nI_clamp h
theorem nI_ne {a b : Nat} (ha : a < 2 ^ 31) (hb : b < 2 ^ 31) (h : a ≠ b) : ¬ nI a = nI b := fun q => h ((nI_eq ha hb).mp q)
theorem c_l_some {σ α β : Type} (s : σ) (a : α) (f : σ → α → Option β) : c_l (some (s, a)) f = f s a := rfl
theorem b_d_eq {α β : Type} (x : α) (f : α → Option β) : b_d x f = f x := rfl
/-! the state's numbers -/
def nR (M : Msx) : Nat := (m_I M 0 0).toNatClampNeg
def nD (M : Msx) : Nat := (m_I M 10 0).toNatClampNeg
def sL (M : Msx) (r : Nat) : Nat := (m_I M 1 r).toNatClampNeg
def cL (M : Msx) (r : Nat) : Nat := (m_I M 2 r).toNatClampNeg
def kD (M : Msx) (j : Nat) : Nat := (m_I M 11 j).toNatClampNeg
def rM (M : Msx) (j : Nat) : Nat := (m_I M 14 j).toNatClampNeg
def rG (M : Msx) (j k : Nat) : Nat := (m_I M 12 (4 * j + k)).toNatClampNeg
def pL (M : Msx) (j k : Nat) : Nat := (m_I M 13 (4 * j + k)).toNatClampNeg
def nM (M : Msx) (j : Nat) : Nat := (m_I M 16 j).toNatClampNeg
def nA (M : Msx) (j k : Nat) : Nat := (m_I M 15 (4 * j + k)).toNatClampNeg
def tG (M : Msx) (j : Nat) : Nat := (m_I M 17 j).toNatClampNeg
def eM (M : Msx) (j : Nat) : Nat := (m_I M 28 j).toNatClampNeg
def sG (M : Msx) (j e : Nat) : Nat := (m_I M 66 (32 * j + e)).toNatClampNeg
def lB (M : Msx) (j : Nat) : Nat := if kD M j = 4 then 70 else 6
def okI (M : Msx) (f i : Nat) : Prop := match f with
  | 0 => i = 0
  | 1 => i < nR M
  | 2 => i < nR M
  | 5 => i / 64 < nR M ∧ i % 64 < sL M (i / 64)
  | 7 => i / 64 < nR M ∧ i % 64 < sL M (i / 64)
  | 8 => i / 64 < nR M ∧ i % 64 < sL M (i / 64)
  | 10 => i = 0
  | 11 => i < nD M
  | 15 => i / 4 < nD M
  | 16 => i < nD M
  | 18 => i < nD M
  | 19 => i < nD M
  | 20 => i < nD M
  | 21 => i < nD M
  | 22 => i < nD M
  | 25 => i < nD M
  | 26 => i < nD M
  | 28 => i < nD M
  | 34 => i = 0
  | 35 => i = 0
  | 36 => i = 0
  | 37 => i = 0
  | 38 => i < 7
  | 39 => i < 16
  | 40 => i = 0
  | 50 => i < nR M
  | 51 => i < nR M
  | 52 => i / 64 < nR M ∧ i % 64 < sL M (i / 64)
  | 53 => i / 64 < nR M ∧ i % 64 < sL M (i / 64)
  | 54 => i / 8 < nD M
  | 55 => i < nD M
  | 56 => i < nD M
  | 57 => i / 32 < nD M ∧ kD M (i / 32) = 4
  | 58 => i < nD M
  | 60 => i < nR M
  | 61 => i / 32 < nD M ∧ kD M (i / 32) = 4
  | 62 => i / 32 < nD M ∧ kD M (i / 32) = 4
  | 63 => i / 32 < nD M ∧ kD M (i / 32) = 4
  | _ => False
def adI (A B : Nat → Nat) (f i : Nat) : Nat := match f with
  | 0 => 0
  | 1 => A i
  | 2 => A i
  | 5 => A (i / 64) + 2 + 2 * (i % 64)
  | 7 => A (i / 64) + 2 + 2 * (i % 64)
  | 8 => A (i / 64) + 2 + 2 * (i % 64)
  | 10 => 0
  | 11 => B i
  | 15 => B (i / 4) + 4
  | 16 => B i
  | 18 => B i
  | 19 => B i
  | 20 => B i
  | 21 => B i
  | 22 => B i + 1
  | 25 => B i + 1
  | 26 => B i + 1
  | 28 => B i
  | 34 => 0
  | 35 => 0
  | 36 => 0
  | 37 => 0
  | 38 => (if i = 0 then 0 else 3)
  | 39 => 4
  | 40 => 0
  | 50 => A i
  | 51 => A i
  | 52 => A (i / 64) + 2 + 2 * (i % 64)
  | 53 => A (i / 64) + 2 + 2 * (i % 64)
  | 54 => B (i / 8) + 3
  | 55 => B i
  | 56 => B i
  | 57 => B (i / 32) + 6 + 2 * (i % 32)
  | 58 => B i + 1
  | 60 => A i
  | 61 => B (i / 32) + 6 + 2 * (i % 32)
  | 62 => B (i / 32) + 6 + 2 * (i % 32)
  | 63 => B (i / 32) + 6 + 2 * (i % 32)
  | _ => 0
def plI (f i : Nat) : Nat := match f with
  | 0 => 4
  | 1 => 1
  | 2 => 3
  | 5 => 6
  | 7 => 4
  | 8 => 5
  | 10 => 5
  | 11 => 0
  | 15 => i % 4
  | 16 => 8
  | 18 => 12
  | 19 => 13
  | 20 => 14
  | 21 => 11
  | 22 => 1
  | 25 => 4
  | 26 => 5
  | 28 => 10
  | 34 => 11
  | 35 => 6
  | 36 => 10
  | 37 => 9
  | 38 => (if i = 0 then 7 else i)
  | 39 => i
  | 40 => 8
  | 50 => 6
  | 51 => 5
  | 52 => 1
  | 53 => 2
  | 54 => i % 8
  | 55 => 7
  | 56 => 9
  | 57 => 1
  | 58 => 2
  | 60 => 0
  | 61 => 2
  | 62 => 4
  | 63 => 5
  | _ => 0
def okJ (M : Msx) (f i : Nat) : Prop := match f with
  | 4 => i < nR M
  | 6 => i / 64 < nR M ∧ i % 64 < sL M (i / 64)
  | 9 => i / 512 < nR M ∧ i / 8 % 64 < sL M (i / 512)
  | 24 => i < nD M
  | 27 => i / 8 < nD M
  | 64 => i / 32 < nD M ∧ kD M (i / 32) = 4
  | 65 => i / 256 < nD M ∧ kD M (i / 256) = 4
  | _ => False
def adJ (A B : Nat → Nat) (f i : Nat) : Nat := match f with
  | 4 => A i
  | 6 => A (i / 64) + 2 + 2 * (i % 64)
  | 9 => A (i / 512) + 3 + 2 * (i / 8 % 64)
  | 24 => B i + 1
  | 27 => B (i / 8) + 2
  | 64 => B (i / 32) + 6 + 2 * (i % 32)
  | 65 => B (i / 256) + 7 + 2 * (i / 8 % 32)
  | _ => 0
def plJ (f i : Nat) : Nat := match f with
  | 4 => 4
  | 6 => 3
  | 9 => i % 8
  | 24 => 3
  | 27 => i % 8
  | 64 => 3
  | 65 => i % 8
  | _ => 0
/-- who owns a cell: 0 the post, 1 + r a ring, 9 + j a reader -/
def Ow_ (A B : Nat → Nat) (ow : Nat → Nat) (M : Msx) : Prop := (∀ a, a < 41 → ow a = 0) ∧ (∀ r, r < nR M → 41 ≤ A r ∧ ∀ x, x < 2 + 2 * sL M r → ow (A r + x) = 1 + r) ∧ (∀ j, j < nD M → 41 ≤ B j ∧ ∀ x, x < lB M j → ow (B j + x) = 9 + j) ∧ nR M ≤ 8
def bs_ (A B : Nat → Nat) (o : Nat) : Nat := if o = 0 then 0 else if o ≤ 8 then A (o - 1) else B (o - 9)
def d_a (p : Nat) : Nat := match p with
  | 4 => 0 | 5 => 10 | 11 => 34 | 6 => 35 | 10 => 36 | 9 => 37 | 8 => 40 | _ => 38
def d_b (p : Nat) : Nat := match p with
  | 1 => 1 | 3 => 2 | 6 => 50 | 5 => 51 | _ => 60
def d_c (p : Nat) : Nat := match p with
  | 6 => 5 | 4 => 7 | 5 => 8 | 1 => 52 | _ => 53
def d_d (p : Nat) : Nat := match p with
  | 0 => 11 | 8 => 16 | 12 => 18 | 13 => 19 | 14 => 20 | 11 => 21 | 7 => 55 | 9 => 56 | _ => 28
def d_e (p : Nat) : Nat := match p with
  | 1 => 22 | 2 => 58 | 4 => 25 | _ => 26
def d_f (p : Nat) : Nat := match p with
  | 2 => 61 | 4 => 62 | 5 => 63 | _ => 57
def dcI (o x p : Nat) : Nat × Nat :=
  if o = 0 then (if x = 0 then (d_a p, 0) else if x = 3 then (38, p) else (39, p))
  else if o ≤ 8 then (if x = 0 then (d_b p, o - 1) else (d_c p, 64 * (o - 1) + (x - 2) / 2))
  else if x = 0 then (d_d p, o - 9)
  else if x = 1 then (d_e p, o - 9)
  else if x = 4 then (15, 4 * (o - 9) + p)
  else if x = 3 then (54, 8 * (o - 9) + p)
  else (d_f p, 32 * (o - 9) + (x - 6) / 2)
def dcJ (o x p : Nat) : Nat × Nat :=
  if o ≤ 8 then (if x = 0 then (4, o - 1) else if x % 2 = 0 then (6, 64 * (o - 1) + (x - 2) / 2) else (9, 512 * (o - 1) + 8 * ((x - 3) / 2) + p))
  else if x = 1 then (24, o - 9)
  else if x = 2 then (27, 8 * (o - 9) + p)
  else if x % 2 = 0 then (64, 32 * (o - 9) + (x - 6) / 2)
  else (65, 256 * (o - 9) + 8 * ((x - 7) / 2) + p)
theorem own_I {A B ow : Nat → Nat} {M : Msx} (W : Ow_ A B ow M) : ∀ f i, okI M f i → dcI (ow (adI A B f i)) (adI A B f i - bs_ A B (ow (adI A B f i))) (plI f i) = (f, i) := by
  obtain ⟨w0, wA, wB, w8⟩ := W
  intro f i hok
  unfold okI at hok
  split at hok
  · subst hok
    simp [adI, plI, w0 0 (by omega), bs_, dcI, d_a]
  · have e := (wA i hok).2 0 (by omega)
    have hb : 1 + i ≤ 8 := by omega
    simp only [Nat.add_zero] at e
    simp [adI, plI, e, bs_, dcI, d_b, d_c, d_d, d_e, d_f, hb]
  · have e := (wA i hok).2 0 (by omega)
    have hb : 1 + i ≤ 8 := by omega
    simp only [Nat.add_zero] at e
    simp [adI, plI, e, bs_, dcI, d_b, d_c, d_d, d_e, d_f, hb]
  · have e := (wA (i / 64) hok.1).2 (2 + 2 * (i % 64)) (by omega)
    have hb : 1 + i / 64 ≤ 8 := by omega
    rw [← Nat.add_assoc] at e
    have e2 : A (i / 64) + 2 + 2 * (i % 64) - A (i / 64) = 2 + 2 * (i % 64) := by omega
    have e3 : (2 + 2 * (i % 64)) ≠ 0 := by omega
    have e4 : (2 + 2 * (i % 64) - 2) / 2 = i % 64 := by omega
    have e5 : 64 * (i / 64) + i % 64 = i := by omega
    simp [adI, plI, e, bs_, dcI, d_b, d_c, d_d, d_e, d_f, hb, e2, e4, e5]
  · have e := (wA (i / 64) hok.1).2 (2 + 2 * (i % 64)) (by omega)
    have hb : 1 + i / 64 ≤ 8 := by omega
    rw [← Nat.add_assoc] at e
    have e2 : A (i / 64) + 2 + 2 * (i % 64) - A (i / 64) = 2 + 2 * (i % 64) := by omega
    have e3 : (2 + 2 * (i % 64)) ≠ 0 := by omega
    have e4 : (2 + 2 * (i % 64) - 2) / 2 = i % 64 := by omega
    have e5 : 64 * (i / 64) + i % 64 = i := by omega
    simp [adI, plI, e, bs_, dcI, d_b, d_c, d_d, d_e, d_f, hb, e2, e4, e5]
  · have e := (wA (i / 64) hok.1).2 (2 + 2 * (i % 64)) (by omega)
    have hb : 1 + i / 64 ≤ 8 := by omega
    rw [← Nat.add_assoc] at e
    have e2 : A (i / 64) + 2 + 2 * (i % 64) - A (i / 64) = 2 + 2 * (i % 64) := by omega
    have e3 : (2 + 2 * (i % 64)) ≠ 0 := by omega
    have e4 : (2 + 2 * (i % 64) - 2) / 2 = i % 64 := by omega
    have e5 : 64 * (i / 64) + i % 64 = i := by omega
    simp [adI, plI, e, bs_, dcI, d_b, d_c, d_d, d_e, d_f, hb, e2, e4, e5]
  · subst hok
    simp [adI, plI, w0 0 (by omega), bs_, dcI, d_a]
  · have e := (wB i hok).2 0 (by unfold lB; split <;> omega)
    have hb : ¬ 9 + i ≤ 8 := by omega
    simp only [Nat.add_zero] at e
    simp [adI, plI, e, bs_, dcI, d_b, d_c, d_d, d_e, d_f, hb]
  · have e := (wB (i / 4) hok).2 4 (by unfold lB; split <;> omega)
    have hb : ¬ 9 + i / 4 ≤ 8 := by omega
    have e5 : 4 * (i / 4) + i % 4 = i := by omega
    simp [adI, plI, e, bs_, dcI, d_b, d_c, d_d, d_e, d_f, hb, e5]
  · have e := (wB i hok).2 0 (by unfold lB; split <;> omega)
    have hb : ¬ 9 + i ≤ 8 := by omega
    simp only [Nat.add_zero] at e
    simp [adI, plI, e, bs_, dcI, d_b, d_c, d_d, d_e, d_f, hb]
  · have e := (wB i hok).2 0 (by unfold lB; split <;> omega)
    have hb : ¬ 9 + i ≤ 8 := by omega
    simp only [Nat.add_zero] at e
    simp [adI, plI, e, bs_, dcI, d_b, d_c, d_d, d_e, d_f, hb]
  · have e := (wB i hok).2 0 (by unfold lB; split <;> omega)
    have hb : ¬ 9 + i ≤ 8 := by omega
    simp only [Nat.add_zero] at e
    simp [adI, plI, e, bs_, dcI, d_b, d_c, d_d, d_e, d_f, hb]
  · have e := (wB i hok).2 0 (by unfold lB; split <;> omega)
    have hb : ¬ 9 + i ≤ 8 := by omega
    simp only [Nat.add_zero] at e
    simp [adI, plI, e, bs_, dcI, d_b, d_c, d_d, d_e, d_f, hb]
  · have e := (wB i hok).2 0 (by unfold lB; split <;> omega)
    have hb : ¬ 9 + i ≤ 8 := by omega
    simp only [Nat.add_zero] at e
    simp [adI, plI, e, bs_, dcI, d_b, d_c, d_d, d_e, d_f, hb]
  · have e := (wB i hok).2 1 (by unfold lB; split <;> omega)
    have hb : ¬ 9 + i ≤ 8 := by omega
    simp [adI, plI, e, bs_, dcI, d_b, d_c, d_d, d_e, d_f, hb]
  · have e := (wB i hok).2 1 (by unfold lB; split <;> omega)
    have hb : ¬ 9 + i ≤ 8 := by omega
    simp [adI, plI, e, bs_, dcI, d_b, d_c, d_d, d_e, d_f, hb]
  · have e := (wB i hok).2 1 (by unfold lB; split <;> omega)
    have hb : ¬ 9 + i ≤ 8 := by omega
    simp [adI, plI, e, bs_, dcI, d_b, d_c, d_d, d_e, d_f, hb]
  · have e := (wB i hok).2 0 (by unfold lB; split <;> omega)
    have hb : ¬ 9 + i ≤ 8 := by omega
    simp only [Nat.add_zero] at e
    simp [adI, plI, e, bs_, dcI, d_b, d_c, d_d, d_e, d_f, hb]
  · subst hok
    simp [adI, plI, w0 0 (by omega), bs_, dcI, d_a]
  · subst hok
    simp [adI, plI, w0 0 (by omega), bs_, dcI, d_a]
  · subst hok
    simp [adI, plI, w0 0 (by omega), bs_, dcI, d_a]
  · subst hok
    simp [adI, plI, w0 0 (by omega), bs_, dcI, d_a]
  · by_cases h0 : i = 0
    · subst h0
      simp [adI, plI, w0 0 (by omega), bs_, dcI, d_a]
    · simp [adI, plI, h0, w0 3 (by omega), bs_, dcI, d_a]
  · simp [adI, plI, w0 4 (by omega), bs_, dcI, d_a]
  · subst hok
    simp [adI, plI, w0 0 (by omega), bs_, dcI, d_a]
  · have e := (wA i hok).2 0 (by omega)
    have hb : 1 + i ≤ 8 := by omega
    simp only [Nat.add_zero] at e
    simp [adI, plI, e, bs_, dcI, d_b, d_c, d_d, d_e, d_f, hb]
  · have e := (wA i hok).2 0 (by omega)
    have hb : 1 + i ≤ 8 := by omega
    simp only [Nat.add_zero] at e
    simp [adI, plI, e, bs_, dcI, d_b, d_c, d_d, d_e, d_f, hb]
  · have e := (wA (i / 64) hok.1).2 (2 + 2 * (i % 64)) (by omega)
    have hb : 1 + i / 64 ≤ 8 := by omega
    rw [← Nat.add_assoc] at e
    have e2 : A (i / 64) + 2 + 2 * (i % 64) - A (i / 64) = 2 + 2 * (i % 64) := by omega
    have e3 : (2 + 2 * (i % 64)) ≠ 0 := by omega
    have e4 : (2 + 2 * (i % 64) - 2) / 2 = i % 64 := by omega
    have e5 : 64 * (i / 64) + i % 64 = i := by omega
    simp [adI, plI, e, bs_, dcI, d_b, d_c, d_d, d_e, d_f, hb, e2, e4, e5]
  · have e := (wA (i / 64) hok.1).2 (2 + 2 * (i % 64)) (by omega)
    have hb : 1 + i / 64 ≤ 8 := by omega
    rw [← Nat.add_assoc] at e
    have e2 : A (i / 64) + 2 + 2 * (i % 64) - A (i / 64) = 2 + 2 * (i % 64) := by omega
    have e3 : (2 + 2 * (i % 64)) ≠ 0 := by omega
    have e4 : (2 + 2 * (i % 64) - 2) / 2 = i % 64 := by omega
    have e5 : 64 * (i / 64) + i % 64 = i := by omega
    simp [adI, plI, e, bs_, dcI, d_b, d_c, d_d, d_e, d_f, hb, e2, e4, e5]
  · have e := (wB (i / 8) hok).2 3 (by unfold lB; split <;> omega)
    have hb : ¬ 9 + i / 8 ≤ 8 := by omega
    have e5 : 8 * (i / 8) + i % 8 = i := by omega
    simp [adI, plI, e, bs_, dcI, d_b, d_c, d_d, d_e, d_f, hb, e5]
  · have e := (wB i hok).2 0 (by unfold lB; split <;> omega)
    have hb : ¬ 9 + i ≤ 8 := by omega
    simp only [Nat.add_zero] at e
    simp [adI, plI, e, bs_, dcI, d_b, d_c, d_d, d_e, d_f, hb]
  · have e := (wB i hok).2 0 (by unfold lB; split <;> omega)
    have hb : ¬ 9 + i ≤ 8 := by omega
    simp only [Nat.add_zero] at e
    simp [adI, plI, e, bs_, dcI, d_b, d_c, d_d, d_e, d_f, hb]
  · have e := (wB (i / 32) hok.1).2 (6 + 2 * (i % 32)) (by unfold lB; rw [if_pos hok.2]; omega)
    have hb : ¬ 9 + i / 32 ≤ 8 := by omega
    rw [← Nat.add_assoc] at e
    have e2 : B (i / 32) + 6 + 2 * (i % 32) - B (i / 32) = 6 + 2 * (i % 32) := by omega
    have e3 : (6 + 2 * (i % 32)) ≠ 0 := by omega
    have e31 : (6 + 2 * (i % 32)) ≠ 1 := by omega
    have e34 : (6 + 2 * (i % 32)) ≠ 4 := by omega
    have e33 : (6 + 2 * (i % 32)) ≠ 3 := by omega
    have e4 : (6 + 2 * (i % 32) - 6) / 2 = i % 32 := by omega
    have e5 : 32 * (i / 32) + i % 32 = i := by omega
    simp [adI, plI, e, bs_, dcI, d_b, d_c, d_d, d_e, d_f, hb, e2, e31, e34, e33, e4, e5]
  · have e := (wB i hok).2 1 (by unfold lB; split <;> omega)
    have hb : ¬ 9 + i ≤ 8 := by omega
    simp [adI, plI, e, bs_, dcI, d_b, d_c, d_d, d_e, d_f, hb]
  · have e := (wA i hok).2 0 (by omega)
    have hb : 1 + i ≤ 8 := by omega
    simp only [Nat.add_zero] at e
    simp [adI, plI, e, bs_, dcI, d_b, d_c, d_d, d_e, d_f, hb]
  · have e := (wB (i / 32) hok.1).2 (6 + 2 * (i % 32)) (by unfold lB; rw [if_pos hok.2]; omega)
    have hb : ¬ 9 + i / 32 ≤ 8 := by omega
    rw [← Nat.add_assoc] at e
    have e2 : B (i / 32) + 6 + 2 * (i % 32) - B (i / 32) = 6 + 2 * (i % 32) := by omega
    have e3 : (6 + 2 * (i % 32)) ≠ 0 := by omega
    have e31 : (6 + 2 * (i % 32)) ≠ 1 := by omega
    have e34 : (6 + 2 * (i % 32)) ≠ 4 := by omega
    have e33 : (6 + 2 * (i % 32)) ≠ 3 := by omega
    have e4 : (6 + 2 * (i % 32) - 6) / 2 = i % 32 := by omega
    have e5 : 32 * (i / 32) + i % 32 = i := by omega
    simp [adI, plI, e, bs_, dcI, d_b, d_c, d_d, d_e, d_f, hb, e2, e31, e34, e33, e4, e5]
  · have e := (wB (i / 32) hok.1).2 (6 + 2 * (i % 32)) (by unfold lB; rw [if_pos hok.2]; omega)
    have hb : ¬ 9 + i / 32 ≤ 8 := by omega
    rw [← Nat.add_assoc] at e
    have e2 : B (i / 32) + 6 + 2 * (i % 32) - B (i / 32) = 6 + 2 * (i % 32) := by omega
    have e3 : (6 + 2 * (i % 32)) ≠ 0 := by omega
    have e31 : (6 + 2 * (i % 32)) ≠ 1 := by omega
    have e34 : (6 + 2 * (i % 32)) ≠ 4 := by omega
    have e33 : (6 + 2 * (i % 32)) ≠ 3 := by omega
    have e4 : (6 + 2 * (i % 32) - 6) / 2 = i % 32 := by omega
    have e5 : 32 * (i / 32) + i % 32 = i := by omega
    simp [adI, plI, e, bs_, dcI, d_b, d_c, d_d, d_e, d_f, hb, e2, e31, e34, e33, e4, e5]
  · have e := (wB (i / 32) hok.1).2 (6 + 2 * (i % 32)) (by unfold lB; rw [if_pos hok.2]; omega)
    have hb : ¬ 9 + i / 32 ≤ 8 := by omega
    rw [← Nat.add_assoc] at e
    have e2 : B (i / 32) + 6 + 2 * (i % 32) - B (i / 32) = 6 + 2 * (i % 32) := by omega
    have e3 : (6 + 2 * (i % 32)) ≠ 0 := by omega
    have e31 : (6 + 2 * (i % 32)) ≠ 1 := by omega
    have e34 : (6 + 2 * (i % 32)) ≠ 4 := by omega
    have e33 : (6 + 2 * (i % 32)) ≠ 3 := by omega
    have e4 : (6 + 2 * (i % 32) - 6) / 2 = i % 32 := by omega
    have e5 : 32 * (i / 32) + i % 32 = i := by omega
    simp [adI, plI, e, bs_, dcI, d_b, d_c, d_d, d_e, d_f, hb, e2, e31, e34, e33, e4, e5]
  · exact absurd hok (fun h => h)
theorem own_J {A B ow : Nat → Nat} {M : Msx} (W : Ow_ A B ow M) : ∀ f i, okJ M f i → dcJ (ow (adJ A B f i)) (adJ A B f i - bs_ A B (ow (adJ A B f i))) (plJ f i) = (f, i) := by
  obtain ⟨w0, wA, wB, w8⟩ := W
  intro f i hok
  unfold okJ at hok
  split at hok
  · have e := (wA i hok).2 0 (by omega)
    have hb : 1 + i ≤ 8 := by omega
    simp only [Nat.add_zero] at e
    simp [adJ, plJ, e, bs_, dcJ, hb]
  · have e := (wA (i / 64) hok.1).2 (2 + 2 * (i % 64)) (by omega)
    have hb : 1 + i / 64 ≤ 8 := by omega
    rw [← Nat.add_assoc] at e
    have e2 : A (i / 64) + 2 + 2 * (i % 64) - A (i / 64) = 2 + 2 * (i % 64) := by omega
    have e3 : (2 + 2 * (i % 64)) % 2 = 0 := by omega
    have e4 : (2 + 2 * (i % 64) - 2) / 2 = i % 64 := by omega
    have e5 : 64 * (i / 64) + i % 64 = i := by omega
    simp [adJ, plJ, e, bs_, dcJ, hb, e2, e3, e4, e5]
  · have e := (wA (i / 512) hok.1).2 (3 + 2 * (i / 8 % 64)) (by omega)
    have hb : 1 + i / 512 ≤ 8 := by omega
    rw [← Nat.add_assoc] at e
    have e2 : A (i / 512) + 3 + 2 * (i / 8 % 64) - A (i / 512) = 3 + 2 * (i / 8 % 64) := by omega
    have e3 : ¬ (3 + 2 * (i / 8 % 64)) % 2 = 0 := by omega
    have e4 : (3 + 2 * (i / 8 % 64) - 3) / 2 = i / 8 % 64 := by omega
    have e5 : 512 * (i / 512) + 8 * (i / 8 % 64) + i % 8 = i := by omega
    simp [adJ, plJ, e, bs_, dcJ, hb, e2, e3, e4, e5]
  · have e := (wB i hok).2 1 (by unfold lB; split <;> omega)
    have hb : ¬ 9 + i ≤ 8 := by omega
    simp [adJ, plJ, e, bs_, dcJ, hb]
  · have e := (wB (i / 8) hok).2 2 (by unfold lB; split <;> omega)
    have hb : ¬ 9 + i / 8 ≤ 8 := by omega
    have e5 : 8 * (i / 8) + i % 8 = i := by omega
    simp [adJ, plJ, e, bs_, dcJ, hb, e5]
  · have e := (wB (i / 32) hok.1).2 (6 + 2 * (i % 32)) (by unfold lB; rw [if_pos hok.2]; omega)
    have hb : ¬ 9 + i / 32 ≤ 8 := by omega
    rw [← Nat.add_assoc] at e
    have e2 : B (i / 32) + 6 + 2 * (i % 32) - B (i / 32) = 6 + 2 * (i % 32) := by omega
    have e31 : (6 + 2 * (i % 32)) ≠ 1 := by omega
    have e32 : (6 + 2 * (i % 32)) ≠ 2 := by omega
    have e3 : (6 + 2 * (i % 32)) % 2 = 0 := by omega
    have e4 : (6 + 2 * (i % 32) - 6) / 2 = i % 32 := by omega
    have e5 : 32 * (i / 32) + i % 32 = i := by omega
    simp [adJ, plJ, e, bs_, dcJ, hb, e2, e31, e32, e3, e4, e5]
  · have e := (wB (i / 256) hok.1).2 (7 + 2 * (i / 8 % 32)) (by unfold lB; rw [if_pos hok.2]; omega)
    have hb : ¬ 9 + i / 256 ≤ 8 := by omega
    rw [← Nat.add_assoc] at e
    have e2 : B (i / 256) + 7 + 2 * (i / 8 % 32) - B (i / 256) = 7 + 2 * (i / 8 % 32) := by omega
    have e31 : (7 + 2 * (i / 8 % 32)) ≠ 1 := by omega
    have e32 : (7 + 2 * (i / 8 % 32)) ≠ 2 := by omega
    have e3 : ¬ (7 + 2 * (i / 8 % 32)) % 2 = 0 := by omega
    have e4 : (7 + 2 * (i / 8 % 32) - 7) / 2 = i / 8 % 32 := by omega
    have e5 : 256 * (i / 256) + 8 * (i / 8 % 32) + i % 8 = i := by omega
    simp [adJ, plJ, e, bs_, dcJ, hb, e2, e31, e32, e3, e4, e5]
  · exact absurd hok (fun h => h)
/-- the class's ints and longs, by fields -/
def RI_ (A B : Nat → Nat) (h : Hpx) (M : Msx) : Prop := ∀ f i, okI M f i → h_I h (adI A B f i) (plI f i) = m_I M f i
def RJ_ (A B : Nat → Nat) (h : Hpx) (M : Msx) : Prop := ∀ f i, okJ M f i → h_J h (adJ A B f i) (plJ f i) = m_J M f i
theorem inj_I {A B ow : Nat → Nat} {M : Msx} (W : Ow_ A B ow M) {f i f' i' : Nat} (h1 : okI M f i) (h2 : okI M f' i') (e1 : adI A B f i = adI A B f' i') (e2 : plI f i = plI f' i') : f = f' ∧ i = i' := by
  have q1 := own_I W f i h1
  have q2 := own_I W f' i' h2
  rw [e1, e2, q2] at q1
  exact ⟨(Prod.mk.inj q1).1.symm, (Prod.mk.inj q1).2.symm⟩
theorem inj_J {A B ow : Nat → Nat} {M : Msx} (W : Ow_ A B ow M) {f i f' i' : Nat} (h1 : okJ M f i) (h2 : okJ M f' i') (e1 : adJ A B f i = adJ A B f' i') (e2 : plJ f i = plJ f' i') : f = f' ∧ i = i' := by
  have q1 := own_J W f i h1
  have q2 := own_J W f' i' h2
  rw [e1, e2, q2] at q1
  exact ⟨(Prod.mk.inj q1).1.symm, (Prod.mk.inj q1).2.symm⟩
theorem up2_s {α : Type} {F : Nat → Nat → α} {a p : Nat} {x : α} : va_up F a (va_up (F a) p x) a p = x := by rw [va_up_self, va_up_self]
theorem up2_n {α : Type} {F : Nat → Nat → α} {a p b q : Nat} {x : α} (h : ¬ (b = a ∧ q = p)) : va_up F a (va_up (F a) p x) b q = F b q := by
  by_cases e : b = a
  · subst e
    rw [va_up_self, va_up_ne _ _ (fun z => h ⟨rfl, z⟩)]
  · rw [va_up_ne _ _ e]
theorem sI_s {h : Hpx} {a p : Nat} {x : Int32} : h_I (s_I h a p x) a p = x := up2_s
theorem sI_n {h : Hpx} {a p b q : Nat} {x : Int32} (e : ¬ (b = a ∧ q = p)) : h_I (s_I h a p x) b q = h_I h b q := up2_n e
theorem sJ_s {h : Hpx} {a p : Nat} {x : Int64} : h_J (s_J h a p x) a p = x := up2_s
theorem sJ_n {h : Hpx} {a p b q : Nat} {x : Int64} (e : ¬ (b = a ∧ q = p)) : h_J (s_J h a p x) b q = h_J h b q := up2_n e
theorem nI_s {M : Msx} {a p : Nat} {x : Int32} : m_I (n_I M a p x) a p = x := up2_s
theorem nI_n {M : Msx} {a p b q : Nat} {x : Int32} (e : ¬ (b = a ∧ q = p)) : m_I (n_I M a p x) b q = m_I M b q := up2_n e
theorem nJ_s {M : Msx} {a p : Nat} {x : Int64} : m_J (n_J M a p x) a p = x := up2_s
theorem nJ_n {M : Msx} {a p b q : Nat} {x : Int64} (e : ¬ (b = a ∧ q = p)) : m_J (n_J M a p x) b q = m_J M b q := up2_n e
theorem nI_at {M : Msx} {a p b q : Nat} {x : Int32} : m_I (n_I M a p x) b q = if b = a ∧ q = p then x else m_I M b q := by
  split
  · next e => rw [e.1, e.2, nI_s]
  · next e => rw [nI_n e]
theorem nJ_at {M : Msx} {a p b q : Nat} {x : Int64} : m_J (n_J M a p x) b q = if b = a ∧ q = p then x else m_J M b q := by
  split
  · next e => rw [e.1, e.2, nJ_s]
  · next e => rw [nJ_n e]
theorem nI_J {M : Msx} {a p : Nat} {x : Int32} : m_J (n_I M a p x) = m_J M := rfl
theorem nJ_I {M : Msx} {a p : Nat} {x : Int64} : m_I (n_J M a p x) = m_I M := rfl
/-- what the valid places rest on: numbers of rings and readers, slots, kinds -/
def Dm_ (M M' : Msx) : Prop := nR M' = nR M ∧ nD M' = nD M ∧ (∀ r, sL M' r = sL M r) ∧ ∀ j, kD M' j = kD M j
theorem ok_dmI {M M' : Msx} (d : Dm_ M M') {f i : Nat} (h : okI M' f i) : okI M f i := by
  obtain ⟨d1, d2, d3, d4⟩ := d
  unfold okI at h ⊢
  split at h <;> simp_all
theorem ok_dmJ {M M' : Msx} (d : Dm_ M M') {f i : Nat} (h : okJ M' f i) : okJ M f i := by
  obtain ⟨d1, d2, d3, d4⟩ := d
  unfold okJ at h ⊢
  split at h <;> simp_all
/-- a write of both sides -/
theorem RI_w {A B ow : Nat → Nat} {h : Hpx} {M : Msx} (W : Ow_ A B ow M) (R : RI_ A B h M) {f i : Nat} (hok : okI M f i) (x : Int32) (d : Dm_ M (n_I M f i x)) : RI_ A B (s_I h (adI A B f i) (plI f i) x) (n_I M f i x) := by
  intro f' i' hok'
  have hok2 := ok_dmI d hok'
  by_cases e : f' = f ∧ i' = i
  · obtain ⟨rfl, rfl⟩ := e
    rw [sI_s, nI_s]
  · rw [nI_n e, sI_n]
    · exact R f' i' hok2
    · rintro ⟨e1, e2⟩
      exact e (inj_I W hok2 hok e1 e2)
theorem RJ_wI {A B : Nat → Nat} {h : Hpx} {M : Msx} (R : RJ_ A B h M) {a p f i : Nat} {x : Int32} {y : Int32} (d : Dm_ M (n_I M f i x)) : RJ_ A B (s_I h a p y) (n_I M f i x) := fun f' i' hok => R f' i' (ok_dmJ d hok)
theorem RI_wJ {A B : Nat → Nat} {h : Hpx} {M : Msx} (R : RI_ A B h M) {a p f i : Nat} {x y : Int64} : RI_ A B (s_J h a p y) (n_J M f i x) := fun f' i' hok => R f' i' hok
theorem RJ_w {A B ow : Nat → Nat} {h : Hpx} {M : Msx} (W : Ow_ A B ow M) (R : RJ_ A B h M) {f i : Nat} (hok : okJ M f i) (x : Int64) : RJ_ A B (s_J h (adJ A B f i) (plJ f i) x) (n_J M f i x) := by
  intro f' i' hok'
  have hok2 : okJ M f' i' := hok'
  by_cases e : f' = f ∧ i' = i
  · obtain ⟨rfl, rfl⟩ := e
    rw [sJ_s, nJ_s]
  · rw [nJ_n e, sJ_n]
    · exact R f' i' hok2
    · rintro ⟨e1, e2⟩
      exact e (inj_J W hok2 hok e1 e2)
/-- a write of the reference's alone, at a place that the class hasn't -/
theorem RI_m {A B : Nat → Nat} {h : Hpx} {M : Msx} (R : RI_ A B h M) {f i : Nat} {x : Int32} (d : Dm_ M (n_I M f i x)) (hno : ¬ okI M f i) : RI_ A B h (n_I M f i x) := by
  intro f' i' hok'
  have hok2 := ok_dmI d hok'
  rw [nI_n]
  · exact R f' i' hok2
  · rintro ⟨rfl, rfl⟩
    exact hno hok2
theorem RJ_m {A B : Nat → Nat} {h : Hpx} {M : Msx} (R : RJ_ A B h M) {f i : Nat} {x : Int64} (hno : ¬ okJ M f i) : RJ_ A B h (n_J M f i x) := by
  intro f' i' hok'
  rw [nJ_n]
  · exact R f' i' hok'
  · rintro ⟨rfl, rfl⟩
    exact hno hok'
theorem RJ_mI {A B : Nat → Nat} {h : Hpx} {M : Msx} (R : RJ_ A B h M) {f i : Nat} {x : Int32} (d : Dm_ M (n_I M f i x)) : RJ_ A B h (n_I M f i x) := fun f' i' hok => R f' i' (ok_dmJ d hok)
theorem RI_mJ {A B : Nat → Nat} {h : Hpx} {M : Msx} (R : RI_ A B h M) {f i : Nat} {x : Int64} : RI_ A B h (n_J M f i x) := fun f' i' hok => R f' i' hok
theorem nI_ne_dm {M : Msx} {f i : Nat} {x : Int32} (h0 : f ≠ 0) (h10 : f ≠ 10) (h1 : f ≠ 1) (h11 : f ≠ 11) : Dm_ M (n_I M f i x) := by
  refine ⟨?_, ?_, fun r => ?_, fun j => ?_⟩
  · unfold nR; rw [n_I_o (Ne.symm h0)]
  · unfold nD; rw [n_I_o (Ne.symm h10)]
  · unfold sL; rw [n_I_o (Ne.symm h1)]
  · unfold kD; rw [n_I_o (Ne.symm h11)]
