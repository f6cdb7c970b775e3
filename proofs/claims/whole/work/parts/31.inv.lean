/-! the invariant -/
theorem litle {L : Int32} {n i : Nat} (hL : L.toInt = (n : Int)) (hi : i < 2 ^ 31) : L ≤ nI i ↔ n ≤ i := by
  rw [Int32.le_iff_toInt_le, hL, nI_toInt hi]
  omega
theorem lelit {L : Int32} {n i : Nat} (hL : L.toInt = (n : Int)) (hi : i < 2 ^ 31) : nI i ≤ L ↔ i ≤ n := by
  rw [Int32.le_iff_toInt_le, hL, nI_toInt hi]
  omega
theorem ltlit {L : Int32} {n i : Nat} (hL : L.toInt = (n : Int)) (hi : i < 2 ^ 31) : nI i < L ↔ i < n := by
  rw [Int32.lt_iff_toInt_lt, hL, nI_toInt hi]
  omega
theorem litlt {L : Int32} {n i : Nat} (hL : L.toInt = (n : Int)) (hi : i < 2 ^ 31) : L < nI i ↔ n < i := by
  rw [Int32.lt_iff_toInt_lt, hL, nI_toInt hi]
  omega
theorem eqlit {L : Int32} {n i : Nat} (hL : L.toInt = (n : Int)) (hi : i < 2 ^ 31) : nI i = L ↔ i = n := by
  rw [← Int32.toInt_inj, hL, nI_toInt hi]
  omega
/-- cells and references of the class -/
def S0_ (h : Hpx) : Prop := h_k h 0 = 4 ∧ h_R h 0 0 = some 1 ∧ h_R h 0 1 = some 2 ∧ h_R h 0 2 = some 3 ∧ h_R h 0 3 = some 4 ∧ h_k h 1 = 10 ∧ h_n h 1 = 8 ∧ h_k h 2 = 11 ∧ h_n h 2 = 16 ∧ h_k h 3 = 6 ∧ h_n h 3 = 7 ∧ h_k h 4 = 6 ∧ h_n h 4 = 16
def SR_ (A : Nat → Nat) (h : Hpx) (M : Msx) : Prop := ∀ r, r < 8 → h_R h 1 r = if r < nR M then some (A r) else none
def SD_ (B : Nat → Nat) (h : Hpx) (M : Msx) : Prop := ∀ j, j < 16 → h_R h 2 j = if j < nD M then some (B j) else none
def Sr_ (A : Nat → Nat) (h : Hpx) (M : Msx) (r : Nat) : Prop := h_k h (A r) = 3 ∧ h_R h (A r) 2 = some (A r + 1) ∧ h_k h (A r + 1) = 9 ∧ h_n h (A r + 1) = sL M r ∧ ∀ k, k < sL M r → h_R h (A r + 1) k = some (A r + 2 + 2 * k) ∧ h_k h (A r + 2 + 2 * k) = 1 ∧ h_R h (A r + 2 + 2 * k) 0 = some (A r + 3 + 2 * k) ∧ h_k h (A r + 3 + 2 * k) = 7 ∧ h_n h (A r + 3 + 2 * k) = 8
def Sd_ (A B : Nat → Nat) (h : Hpx) (M : Msx) (j : Nat) : Prop := h_k h (B j) = 2 ∧ h_R h (B j) 1 = some (A (rG M j 0)) ∧ h_R h (B j) 2 = (if kD M j = 7 then some (A (tG M j)) else none) ∧ h_R h (B j) 3 = some (B j + 1) ∧ h_k h (B j + 1) = 1 ∧ h_R h (B j + 1) 0 = some (B j + 2) ∧ h_k h (B j + 2) = 7 ∧ h_n h (B j + 2) = 8 ∧ h_R h (B j) 4 = some (B j + 3) ∧ h_k h (B j + 3) = 6 ∧ h_n h (B j + 3) = 8 ∧ h_R h (B j) 5 = some (B j + 4) ∧ h_k h (B j + 4) = 6 ∧ h_n h (B j + 4) = 4 ∧ h_R h (B j) 6 = some (B j + 5) ∧ h_k h (B j + 5) = 9 ∧ h_n h (B j + 5) = (if kD M j = 4 then 32 else 0) ∧ (kD M j = 4 → ∀ e, e < 32 → h_R h (B j + 5) e = some (B j + 6 + 2 * sG M j e)) ∧ (kD M j = 4 → ∀ p, p < 32 → h_k h (B j + 6 + 2 * p) = 1 ∧ h_R h (B j + 6 + 2 * p) 0 = some (B j + 7 + 2 * p) ∧ h_k h (B j + 7 + 2 * p) = 7 ∧ h_n h (B j + 7 + 2 * p) = 8)
def Sh_ (A B : Nat → Nat) (h : Hpx) (M : Msx) : Prop := S0_ h ∧ SR_ A h M ∧ SD_ B h M ∧ (∀ r, r < nR M → Sr_ A h M r) ∧ (∀ j, j < nD M → Sd_ A B h M j) ∧ MR_ h ∧ (∀ r, r < nR M → A r + 2 + 2 * sL M r ≤ h_z h) ∧ (∀ j, j < nD M → B j + lB M j ≤ h_z h)
/-- numbers: of the post, of a ring, of a reader -/
def W0_ (M : Msx) : Prop := m_I M 0 0 = nI (nR M) ∧ nR M ≤ 8 ∧ m_I M 10 0 = nI (nD M) ∧ nD M ≤ 16 ∧ (m_I M 34 0 = 0 ∨ m_I M 34 0 = 1) ∧ (m_I M 37 0 = 0 ∨ m_I M 37 0 < 0) ∧ (∃ w, w ≤ 16 ∧ m_I M 40 0 = nI w)
def Wr_ (n : Nat) (M : Msx) (r : Nat) : Prop := m_I M 1 r = nI (sL M r) ∧ (∃ t, t ≤ 6 ∧ sL M r = 2 ^ t) ∧ m_I M 2 r = nI (cL M r) ∧ cL M r ≤ 64 * n ∧ ((m_I M 3 r = 0 ∧ m_I M 50 r = 0 ∧ m_I M 51 r = 0) ∨ (m_I M 3 r = 1 ∧ m_I M 50 r = 0 ∧ m_I M 51 r = 1) ∨ (m_I M 3 r = 2 ∧ m_I M 50 r = 1)) ∧ m_I M 60 r = nI r ∧
  (∀ k, k < sL M r → (m_I M 5 (64 * r + k) = 0 ∨ m_I M 5 (64 * r + k) = 1) ∧ (cL M r ≤ k → m_I M 5 (64 * r + k) = 0) ∧ (m_I M 3 r = 2 → m_I M 5 (64 * r + k) = 0) ∧ (k < cL M r → m_I M 52 (64 * r + k) = nI r) ∧ (∃ y, y < 32 ∧ m_I M 7 (64 * r + k) = nI y)) ∧
  (∀ q, q < cL M r → cL M r ≤ q + sL M r → m_I M 53 (64 * r + q % sL M r) = nI q)
def We_ (M : Msx) (j : Nat) : Prop := (∀ e, e < 32 → m_I M 66 (32 * j + e) = nI (sG M j e) ∧ sG M j e < 32) ∧ (∀ e e', e < 32 → e' < 32 → sG M j e = sG M j e' → e = e') ∧
  (∀ e, e < eM M j → m_I M 29 (32 * j + e) = m_I M 61 (32 * j + sG M j e) ∧ m_I M 31 (32 * j + e) = m_I M 62 (32 * j + sG M j e) ∧ m_I M 32 (32 * j + e) = m_I M 63 (32 * j + sG M j e) ∧ m_J M 30 (32 * j + e) = m_J M 64 (32 * j + sG M j e) ∧ (∀ i, i < 8 → m_J M 33 (8 * (32 * j + e) + i) = m_J M 65 (8 * (32 * j + sG M j e) + i)) ∧ m_I M 57 (32 * j + sG M j e) = m_I M 12 (4 * j) ∧ (∃ y, y < 32 ∧ m_I M 31 (32 * j + e) = nI y) ∧ ¬ m_I M 29 (32 * j + e) < 0) ∧
  (∀ e e', e < eM M j → e' < eM M j → m_I M 31 (32 * j + e) = m_I M 31 (32 * j + e') → e = e')
def Wd_n (n : Nat) (M : Msx) (j : Nat) : Prop := (m_I M 11 j = nI (kD M j) ∧ 1 ≤ kD M j ∧ kD M j ≤ 7) ∧ (m_I M 14 j = nI (rM M j) ∧ 1 ≤ rM M j ∧ rM M j ≤ 4 ∧ (kD M j ≠ 5 → rM M j = 1)) ∧ (∀ k, k < rM M j → m_I M 12 (4 * j + k) = nI (rG M j k) ∧ rG M j k < nR M ∧ m_I M 13 (4 * j + k) = nI (pL M j k) ∧ pL M j k ≤ cL M (rG M j k)) ∧ (∀ k k', k < rM M j → k' < rM M j → rG M j k = rG M j k' → k = k') ∧
  (kD M j ≠ 1 → kD M j ≠ 4 → (∀ k, k < rM M j → m_I M 54 (8 * j + rG M j k) = m_I M 13 (4 * j + k)) ∧ (∀ q, q < 8 → (∀ k, k < rM M j → rG M j k ≠ q) → m_I M 54 (8 * j + q) = -1) ∧ m_I M 55 j = m_I M 14 j) ∧ (kD M j = 1 ∨ kD M j = 4 → ∀ q, q < 8 → m_I M 54 (8 * j + q) = -1) ∧
  (m_I M 16 j = nI (nM M j) ∧ nM M j ≤ 4 ∧ (kD M j ≠ 6 → kD M j ≠ 7 → nM M j = 0)) ∧ (∀ k, k < nM M j → m_I M 15 (4 * j + k) = nI (nA M j k) ∧ nA M j k < nD M) ∧ (∀ i, i < 16 → ((m_I M 56 j >>> (nI i &&& 31)) &&& 1 = 0 ↔ ∀ k, k < nM M j → nA M j k ≠ i)) ∧
  (kD M j = 7 → m_I M 17 j = nI (tG M j) ∧ tG M j < nR M ∧ tG M j ≠ rG M j 0) ∧ ((∃ y, y ≤ n ∧ m_I M 21 j = nI y ∧ (y = 0 → m_I M 58 j = -1) ∧ (y ≠ 0 → m_I M 58 j = m_I M 23 j ∧ ¬ m_I M 23 j < 0)) ∧ ∃ y, y < 32 ∧ m_I M 25 j = nI y) ∧ (m_I M 28 j = nI (eM M j) ∧ eM M j ≤ 32 ∧ (kD M j ≠ 4 → eM M j = 0)) ∧ (kD M j = 4 → We_ M j)
/-- who names whom, and no circle -/
def Nm_ (M : Msx) (j i : Nat) : Prop := j < nD M ∧ ∃ k, k < nM M j ∧ nA M j k = i
/-- no claim is made over what a holder has still to read; none before the beginning -/
def Hd_ (M : Msx) : Prop := (m_I M 34 0 = 0 → ∀ r, r < nR M → cL M r = 0) ∧ ∀ j, j < nD M → kD M j ≠ 1 → kD M j ≠ 3 → kD M j ≠ 4 → ∀ k, k < rM M j → cL M (rG M j k) ≤ pL M j k + sL M (rG M j k)
def Wf_ (n : Nat) (M : Msx) : Prop := W0_ M ∧ (∀ r, r < nR M → Wr_ n M r) ∧ (∀ j, j < nD M → Wd_n n M j) ∧ (∀ j, ¬ Relation.TransGen (Nm_ M) j j) ∧ Hd_ M
def Cn_ (n : Nat) (A B ow : Nat → Nat) (h : Hpx) (M : Msx) : Prop := Ow_ A B ow M ∧ Sh_ A B h M ∧ RI_ A B h M ∧ RJ_ A B h M ∧ Wf_ n M
/-- before the beginning nothing is claimed and nothing is read; what isn't made yet is empty -/
def Zf_ (M : Msx) : Prop := (∀ g, g = 2 ∨ g = 3 ∨ g = 5 ∨ g = 7 ∨ g = 8 ∨ g = 13 ∨ g = 18 ∨ g = 21 ∨ g = 22 ∨ g = 25 ∨ g = 26 ∨ g = 28 → ∀ i, m_I M g i = 0) ∧ (∀ g, g = 4 ∨ g = 6 ∨ g = 9 ∨ g = 24 ∨ g = 27 → ∀ i, m_J M g i = 0) ∧ (∀ j, nD M ≤ j → m_I M 16 j = 0) ∧ (∀ i, nD M ≤ i / 4 → m_I M 15 i = 0)
def Z_ (M : Msx) : Prop := m_I M 34 0 = 0 → Zf_ M
theorem Z_b {M : Msx} (h : m_I M 34 0 ≠ 0) : Z_ M := fun z => absurd z h
theorem Z_I {M : Msx} {f i : Nat} {x : Int32} (Z : Z_ M) (hf : 35 ≤ f) : Z_ (n_I M f i x) := by
  intro z
  rw [n_I_o (by omega)] at z
  obtain ⟨z1, z2, z3, z4⟩ := Z z
  have e : nD (n_I M f i x) = nD M := by unfold nD; rw [n_I_o (by omega)]
  refine ⟨fun g hg q => ?_, z2, fun j hj => ?_, fun q hq => ?_⟩
  · rw [n_I_o (by omega)]
    exact z1 g hg q
  · rw [n_I_o (by omega)]
    exact z3 j (by rw [← e]; exact hj)
  · rw [n_I_o (by omega)]
    exact z4 q (by rw [← e]; exact hq)
def Inv_ (n : Nat) (h : Hpx) (M : Msx) : Prop := ∃ A B ow : Nat → Nat, Cn_ n A B ow h M ∧ Z_ M
theorem inv_0 (n : Nat) (h : Hpx) (M : Msx) (I : Inv_ n h M) : MR_ h ∧ h_k h 0 = 4 := by
  obtain ⟨A, B, ow, ⟨-, S, -⟩, -⟩ := I
  exact ⟨S.2.2.2.2.2.1, S.1.1⟩
theorem Wr_mo {n : Nat} {M : Msx} {r : Nat} (w : Wr_ n M r) : Wr_ (n + 1) M r := ⟨w.1, w.2.1, w.2.2.1, by have := w.2.2.2.1; omega, w.2.2.2.2⟩
theorem Wd_mo {n : Nat} {M : Msx} {j : Nat} (w : Wd_n n M j) : Wd_n (n + 1) M j := by
  obtain ⟨w1, w2, w3, w4, w5, w6, w7, w8, w9, w10, ⟨⟨y, hy, q⟩, w11⟩, w12⟩ := w
  exact ⟨w1, w2, w3, w4, w5, w6, w7, w8, w9, w10, ⟨⟨y, by omega, q⟩, w11⟩, w12⟩
theorem inv_mo (n : Nat) (h : Hpx) (M : Msx) (I : Inv_ n h M) : Inv_ (n + 1) h M := by
  obtain ⟨A, B, ow, ⟨O, S, RI, RJ, W0, WR, WD, WN⟩, Z⟩ := I
  exact ⟨A, B, ow, ⟨O, S, RI, RJ, W0, fun r hr => Wr_mo (WR r hr), fun j hj => Wd_mo (WD j hj), WN⟩, Z⟩
theorem ag_rf (M : Msx) : Ag_ M M := fun _ _ => ⟨rfl, rfl⟩
/-! reading the picture -/
section RD
variable {n : Nat} {A B ow : Nat → Nat} {h : Hpx} {M : Msx}
theorem rd0 (C : Cn_ n A B ow h M) (f : Nat) (hok : okI M f 0) : h_I h (adI A B f 0) (plI f 0) = m_I M f 0 := C.2.2.1 f 0 hok
theorem rI_0 (C : Cn_ n A B ow h M) : h_I h 0 4 = m_I M 0 0 := C.2.2.1 0 0 rfl
theorem rI_10 (C : Cn_ n A B ow h M) : h_I h 0 5 = m_I M 10 0 := C.2.2.1 10 0 rfl
theorem rI_34 (C : Cn_ n A B ow h M) : h_I h 0 11 = m_I M 34 0 := C.2.2.1 34 0 rfl
theorem rI_35 (C : Cn_ n A B ow h M) : h_I h 0 6 = m_I M 35 0 := C.2.2.1 35 0 rfl
theorem rI_36 (C : Cn_ n A B ow h M) : h_I h 0 10 = m_I M 36 0 := C.2.2.1 36 0 rfl
theorem rI_37 (C : Cn_ n A B ow h M) : h_I h 0 9 = m_I M 37 0 := C.2.2.1 37 0 rfl
theorem rI_40 (C : Cn_ n A B ow h M) : h_I h 0 8 = m_I M 40 0 := C.2.2.1 40 0 rfl
theorem rI_38z (C : Cn_ n A B ow h M) : h_I h 0 7 = m_I M 38 0 := C.2.2.1 38 0 (by show 0 < 7; omega)
theorem rI_38 (C : Cn_ n A B ow h M) {i : Nat} (hi : i < 7) (h0 : i ≠ 0) : h_I h 3 i = m_I M 38 i := by
  have := C.2.2.1 38 i hi
  simp only [adI, plI, if_neg h0] at this
  exact this
theorem rI_39 (C : Cn_ n A B ow h M) {i : Nat} (hi : i < 16) : h_I h 4 i = m_I M 39 i := C.2.2.1 39 i hi
theorem rI_1 (C : Cn_ n A B ow h M) {r : Nat} (hr : r < nR M) : h_I h (A r) 1 = m_I M 1 r := C.2.2.1 1 r hr
theorem rI_2 (C : Cn_ n A B ow h M) {r : Nat} (hr : r < nR M) : h_I h (A r) 3 = m_I M 2 r := C.2.2.1 2 r hr
theorem rI_50 (C : Cn_ n A B ow h M) {r : Nat} (hr : r < nR M) : h_I h (A r) 6 = m_I M 50 r := C.2.2.1 50 r hr
theorem rI_51 (C : Cn_ n A B ow h M) {r : Nat} (hr : r < nR M) : h_I h (A r) 5 = m_I M 51 r := C.2.2.1 51 r hr
theorem rI_60 (C : Cn_ n A B ow h M) {r : Nat} (hr : r < nR M) : h_I h (A r) 0 = m_I M 60 r := C.2.2.1 60 r hr
theorem rJ_4 (C : Cn_ n A B ow h M) {r : Nat} (hr : r < nR M) : h_J h (A r) 4 = m_J M 4 r := C.2.2.2.1 4 r hr
theorem rI_5 (C : Cn_ n A B ow h M) {r k : Nat} (hr : r < nR M) (hk : k < sL M r) (h64 : k < 64) : h_I h (A r + 2 + 2 * k) 6 = m_I M 5 (64 * r + k) := by
  have e1 : (64 * r + k) / 64 = r := by omega
  have e2 : (64 * r + k) % 64 = k := by omega
  have := C.2.2.1 5 (64 * r + k) (by show _ / 64 < _ ∧ _ % 64 < _; rw [e1, e2]; exact ⟨hr, hk⟩)
  simp only [adI, plI, e1, e2] at this
  exact this
theorem rI_7 (C : Cn_ n A B ow h M) {r k : Nat} (hr : r < nR M) (hk : k < sL M r) (h64 : k < 64) : h_I h (A r + 2 + 2 * k) 4 = m_I M 7 (64 * r + k) := by
  have e1 : (64 * r + k) / 64 = r := by omega
  have e2 : (64 * r + k) % 64 = k := by omega
  have := C.2.2.1 7 (64 * r + k) (by show _ / 64 < _ ∧ _ % 64 < _; rw [e1, e2]; exact ⟨hr, hk⟩)
  simp only [adI, plI, e1, e2] at this
  exact this
theorem rI_8 (C : Cn_ n A B ow h M) {r k : Nat} (hr : r < nR M) (hk : k < sL M r) (h64 : k < 64) : h_I h (A r + 2 + 2 * k) 5 = m_I M 8 (64 * r + k) := by
  have e1 : (64 * r + k) / 64 = r := by omega
  have e2 : (64 * r + k) % 64 = k := by omega
  have := C.2.2.1 8 (64 * r + k) (by show _ / 64 < _ ∧ _ % 64 < _; rw [e1, e2]; exact ⟨hr, hk⟩)
  simp only [adI, plI, e1, e2] at this
  exact this
theorem rI_52 (C : Cn_ n A B ow h M) {r k : Nat} (hr : r < nR M) (hk : k < sL M r) (h64 : k < 64) : h_I h (A r + 2 + 2 * k) 1 = m_I M 52 (64 * r + k) := by
  have e1 : (64 * r + k) / 64 = r := by omega
  have e2 : (64 * r + k) % 64 = k := by omega
  have := C.2.2.1 52 (64 * r + k) (by show _ / 64 < _ ∧ _ % 64 < _; rw [e1, e2]; exact ⟨hr, hk⟩)
  simp only [adI, plI, e1, e2] at this
  exact this
theorem rI_53 (C : Cn_ n A B ow h M) {r k : Nat} (hr : r < nR M) (hk : k < sL M r) (h64 : k < 64) : h_I h (A r + 2 + 2 * k) 2 = m_I M 53 (64 * r + k) := by
  have e1 : (64 * r + k) / 64 = r := by omega
  have e2 : (64 * r + k) % 64 = k := by omega
  have := C.2.2.1 53 (64 * r + k) (by show _ / 64 < _ ∧ _ % 64 < _; rw [e1, e2]; exact ⟨hr, hk⟩)
  simp only [adI, plI, e1, e2] at this
  exact this
theorem rJ_6 (C : Cn_ n A B ow h M) {r k : Nat} (hr : r < nR M) (hk : k < sL M r) (h64 : k < 64) : h_J h (A r + 2 + 2 * k) 3 = m_J M 6 (64 * r + k) := by
  have e1 : (64 * r + k) / 64 = r := by omega
  have e2 : (64 * r + k) % 64 = k := by omega
  have := C.2.2.2.1 6 (64 * r + k) (by show _ / 64 < _ ∧ _ % 64 < _; rw [e1, e2]; exact ⟨hr, hk⟩)
  simp only [adJ, plJ, e1, e2] at this
  exact this
theorem rJ_9 (C : Cn_ n A B ow h M) {r k i : Nat} (hr : r < nR M) (hk : k < sL M r) (h64 : k < 64) (hi : i < 8) : h_J h (A r + 3 + 2 * k) i = m_J M 9 (8 * (64 * r + k) + i) := by
  have e1 : (8 * (64 * r + k) + i) / 512 = r := by omega
  have e2 : (8 * (64 * r + k) + i) / 8 % 64 = k := by omega
  have e3 : (8 * (64 * r + k) + i) % 8 = i := by omega
  have := C.2.2.2.1 9 (8 * (64 * r + k) + i) (by show _ / 512 < _ ∧ _ / 8 % 64 < _; rw [e1, e2]; exact ⟨hr, hk⟩)
  simp only [adJ, plJ, e1, e2, e3] at this
  exact this
theorem rI_11 (C : Cn_ n A B ow h M) {j : Nat} (hj : j < nD M) : h_I h (B j) 0 = m_I M 11 j := C.2.2.1 11 j hj
theorem rI_16 (C : Cn_ n A B ow h M) {j : Nat} (hj : j < nD M) : h_I h (B j) 8 = m_I M 16 j := C.2.2.1 16 j hj
theorem rI_18 (C : Cn_ n A B ow h M) {j : Nat} (hj : j < nD M) : h_I h (B j) 12 = m_I M 18 j := C.2.2.1 18 j hj
theorem rI_19 (C : Cn_ n A B ow h M) {j : Nat} (hj : j < nD M) : h_I h (B j) 13 = m_I M 19 j := C.2.2.1 19 j hj
theorem rI_20 (C : Cn_ n A B ow h M) {j : Nat} (hj : j < nD M) : h_I h (B j) 14 = m_I M 20 j := C.2.2.1 20 j hj
theorem rI_21 (C : Cn_ n A B ow h M) {j : Nat} (hj : j < nD M) : h_I h (B j) 11 = m_I M 21 j := C.2.2.1 21 j hj
theorem rI_55 (C : Cn_ n A B ow h M) {j : Nat} (hj : j < nD M) : h_I h (B j) 7 = m_I M 55 j := C.2.2.1 55 j hj
theorem rI_56 (C : Cn_ n A B ow h M) {j : Nat} (hj : j < nD M) : h_I h (B j) 9 = m_I M 56 j := C.2.2.1 56 j hj
theorem rI_28 (C : Cn_ n A B ow h M) {j : Nat} (hj : j < nD M) : h_I h (B j) 10 = m_I M 28 j := C.2.2.1 28 j hj
theorem rI_22 (C : Cn_ n A B ow h M) {j : Nat} (hj : j < nD M) : h_I h (B j + 1) 1 = m_I M 22 j := C.2.2.1 22 j hj
theorem rI_58 (C : Cn_ n A B ow h M) {j : Nat} (hj : j < nD M) : h_I h (B j + 1) 2 = m_I M 58 j := C.2.2.1 58 j hj
theorem rI_25 (C : Cn_ n A B ow h M) {j : Nat} (hj : j < nD M) : h_I h (B j + 1) 4 = m_I M 25 j := C.2.2.1 25 j hj
theorem rI_26 (C : Cn_ n A B ow h M) {j : Nat} (hj : j < nD M) : h_I h (B j + 1) 5 = m_I M 26 j := C.2.2.1 26 j hj
theorem rJ_24 (C : Cn_ n A B ow h M) {j : Nat} (hj : j < nD M) : h_J h (B j + 1) 3 = m_J M 24 j := C.2.2.2.1 24 j hj
theorem rI_15 (C : Cn_ n A B ow h M) {j k : Nat} (hj : j < nD M) (hk : k < 4) : h_I h (B j + 4) k = m_I M 15 (4 * j + k) := by
  have e1 : (4 * j + k) / 4 = j := by omega
  have e2 : (4 * j + k) % 4 = k := by omega
  have := C.2.2.1 15 (4 * j + k) (by show _ / 4 < _; rw [e1]; exact hj)
  simp only [adI, plI, e1, e2] at this
  exact this
theorem rI_54 (C : Cn_ n A B ow h M) {j k : Nat} (hj : j < nD M) (hk : k < 8) : h_I h (B j + 3) k = m_I M 54 (8 * j + k) := by
  have e1 : (8 * j + k) / 8 = j := by omega
  have e2 : (8 * j + k) % 8 = k := by omega
  have := C.2.2.1 54 (8 * j + k) (by show _ / 8 < _; rw [e1]; exact hj)
  simp only [adI, plI, e1, e2] at this
  exact this
theorem rJ_27 (C : Cn_ n A B ow h M) {j k : Nat} (hj : j < nD M) (hk : k < 8) : h_J h (B j + 2) k = m_J M 27 (8 * j + k) := by
  have e1 : (8 * j + k) / 8 = j := by omega
  have e2 : (8 * j + k) % 8 = k := by omega
  have := C.2.2.2.1 27 (8 * j + k) (by show _ / 8 < _; rw [e1]; exact hj)
  simp only [adJ, plJ, e1, e2] at this
  exact this
theorem rI_61 (C : Cn_ n A B ow h M) {j k : Nat} (hj : j < nD M) (h4 : kD M j = 4) (hk : k < 32) : h_I h (B j + 6 + 2 * k) 2 = m_I M 61 (32 * j + k) := by
  have e1 : (32 * j + k) / 32 = j := by omega
  have e2 : (32 * j + k) % 32 = k := by omega
  have := C.2.2.1 61 (32 * j + k) (by show _ / 32 < _ ∧ kD M (_ / 32) = 4; rw [e1]; exact ⟨hj, h4⟩)
  simp only [adI, plI, e1, e2] at this
  exact this
theorem rI_62 (C : Cn_ n A B ow h M) {j k : Nat} (hj : j < nD M) (h4 : kD M j = 4) (hk : k < 32) : h_I h (B j + 6 + 2 * k) 4 = m_I M 62 (32 * j + k) := by
  have e1 : (32 * j + k) / 32 = j := by omega
  have e2 : (32 * j + k) % 32 = k := by omega
  have := C.2.2.1 62 (32 * j + k) (by show _ / 32 < _ ∧ kD M (_ / 32) = 4; rw [e1]; exact ⟨hj, h4⟩)
  simp only [adI, plI, e1, e2] at this
  exact this
theorem rI_63 (C : Cn_ n A B ow h M) {j k : Nat} (hj : j < nD M) (h4 : kD M j = 4) (hk : k < 32) : h_I h (B j + 6 + 2 * k) 5 = m_I M 63 (32 * j + k) := by
  have e1 : (32 * j + k) / 32 = j := by omega
  have e2 : (32 * j + k) % 32 = k := by omega
  have := C.2.2.1 63 (32 * j + k) (by show _ / 32 < _ ∧ kD M (_ / 32) = 4; rw [e1]; exact ⟨hj, h4⟩)
  simp only [adI, plI, e1, e2] at this
  exact this
theorem rI_57 (C : Cn_ n A B ow h M) {j k : Nat} (hj : j < nD M) (h4 : kD M j = 4) (hk : k < 32) : h_I h (B j + 6 + 2 * k) 1 = m_I M 57 (32 * j + k) := by
  have e1 : (32 * j + k) / 32 = j := by omega
  have e2 : (32 * j + k) % 32 = k := by omega
  have := C.2.2.1 57 (32 * j + k) (by show _ / 32 < _ ∧ kD M (_ / 32) = 4; rw [e1]; exact ⟨hj, h4⟩)
  simp only [adI, plI, e1, e2] at this
  exact this
theorem rJ_64 (C : Cn_ n A B ow h M) {j k : Nat} (hj : j < nD M) (h4 : kD M j = 4) (hk : k < 32) : h_J h (B j + 6 + 2 * k) 3 = m_J M 64 (32 * j + k) := by
  have e1 : (32 * j + k) / 32 = j := by omega
  have e2 : (32 * j + k) % 32 = k := by omega
  have := C.2.2.2.1 64 (32 * j + k) (by show _ / 32 < _ ∧ kD M (_ / 32) = 4; rw [e1]; exact ⟨hj, h4⟩)
  simp only [adJ, plJ, e1, e2] at this
  exact this
theorem rJ_65 (C : Cn_ n A B ow h M) {j k i : Nat} (hj : j < nD M) (h4 : kD M j = 4) (hk : k < 32) (hi : i < 8) : h_J h (B j + 7 + 2 * k) i = m_J M 65 (8 * (32 * j + k) + i) := by
  have e1 : (8 * (32 * j + k) + i) / 256 = j := by omega
  have e2 : (8 * (32 * j + k) + i) / 8 % 32 = k := by omega
  have e3 : (8 * (32 * j + k) + i) % 8 = i := by omega
  have := C.2.2.2.1 65 (8 * (32 * j + k) + i) (by show _ / 256 < _ ∧ kD M (_ / 256) = 4; rw [e1]; exact ⟨hj, h4⟩)
  simp only [adJ, plJ, e1, e2, e3] at this
  exact this
end RD
