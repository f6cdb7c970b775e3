/-! who leads to whom, as the reference finds it -/
def wM (g : Nat → Int32) (M : Msx) : Msx := (fun f i => if f = 41 then g i else M.1 f i, M.2)
def upg (g : Nat → Int32) (k : Nat) (v : Int32) : Nat → Int32 := fun i => if i = k then v else g i
theorem w_I {g : Nat → Int32} {M : Msx} {f i : Nat} : m_I (wM g M) f i = if f = 41 then g i else m_I M f i := rfl
theorem w_41 {g : Nat → Int32} {M : Msx} {i : Nat} : m_I (wM g M) 41 i = g i := by rw [w_I, if_pos rfl]
theorem w_o {g : Nat → Int32} {M : Msx} {f : Nat} (hf : f ≠ 41) : m_I (wM g M) f = m_I M f := by
  funext i
  rw [w_I, if_neg hf]
theorem w_J {g : Nat → Int32} {M : Msx} : m_J (wM g M) = m_J M := rfl
theorem w_w {g : Nat → Int32} {M : Msx} {k : Nat} {v : Int32} : n_I (wM g M) 41 k v = wM (upg g k v) M := Ms_ext (fun f i => by
  rw [nI_at, w_I, w_I]
  unfold upg
  by_cases c : f = 41
  · rw [if_pos c, if_pos c]
    by_cases d : i = k
    · rw [if_pos ⟨c, d⟩, if_pos d]
    · rw [if_neg (fun z => d z.2), if_neg d]
  · rw [if_neg (fun z => c z.1), if_neg c, if_neg c]) (fun _ _ => rfl)
theorem w_self {M : Msx} : wM (m_I M 41) M = M := Ms_ext (fun f i => by
  rw [w_I]
  by_cases c : f = 41
  · rw [if_pos c, c]
  · rw [if_neg c]) (fun _ _ => rfl)
theorem up_s {g : Nat → Int32} {k : Nat} {v : Int32} : upg g k v k = v := if_pos rfl
theorem up_n {g : Nat → Int32} {k i : Nat} {v : Int32} (h : i ≠ k) : upg g k v i = g i := if_neg h
theorem up_id {g : Nat → Int32} {k : Nat} {v : Int32} (e : g k = v) : upg g k v = g := by
  funext i
  unfold upg
  by_cases c : i = k
  · rw [if_pos c, c, e]
  · rw [if_neg c]
theorem up_up {g : Nat → Int32} {k : Nat} {v w : Int32} : upg (upg g k v) k w = upg g k w := by
  funext i
  unfold upg
  by_cases c : i = k
  · rw [if_pos c, if_pos c]
  · rw [if_neg c, if_neg c, if_neg c]
/-- one of a reader's names is the goal, or leads there -/
def hit (M : Msx) (g : Nat → Int32) (t k j : Nat) : Bool := decide (nA M k j = t) || decide (g (nA M k j) ≠ 0)
def stV (M : Msx) (g : Nat → Int32) (t k m i : Nat) : Int32 := if g k ≠ 0 ∨ anB (hit M g t k) m i = true then 1 else 0
def rnF (M : Msx) (t : Nat) : Nat → Nat → (Nat → Int32) → Nat → Int32
  | 0, _, g => g
  | m + 1, k, g => rnF M t m (k + 1) (upg g k (stV M g t k (nM M k) 0))
def tmF (M : Msx) (t : Nat) : Nat → (Nat → Int32) → Nat → Int32
  | 0, g => g
  | m + 1, g => tmF M t m (rnF M t (nD M) 0 g)
section RC
variable {n : Nat} {A B ow : Nat → Nat} {h : Hpx} {M Mm : Msx}
theorem anB_cong {P Q : Nat → Bool} : ∀ (m i : Nat), (∀ t, i ≤ t → t < i + m → P t = Q t) → anB P m i = anB Q m i
  | 0, _, _ => rfl
  | m + 1, i, H => by rw [anB_s, anB_s, H i (Nat.le_refl i) (by omega), anB_cong m (i + 1) fun t a b => H t (by omega) (by omega)]
theorem r42 (W : Wf_ n M) (a : Ag_ Mm M) {t k : Nat} {x2 : Int32} (ht : t < 16) (hk : k < nD M) {r23 : Msx → Int32 → Int32 → Option Msx} {r31 : Msx → Int32 → Int32 → Int32 → Option Msx} : ∀ (m i fuel : Nat) (g : Nat → Int32), i + m = nM M k → m < fuel → (g k = 0 ∨ g k = 1) → l_X4_reach_42 r23 r31 fuel (wM g Mm) (nI t) x2 (nI k) (nI i) = r31 (wM (upg g k (stV M g t k m i)) Mm) (nI t) x2 (nI (k + 1)) := by
  have h16 := W.1.2.2.2.1
  obtain ⟨-, -, -, -, -, -, ⟨w7, w7a, -⟩, w8, -⟩ := W.2.2.1 k hk
  have self : ∀ j, j < nM M k → nA M k j ≠ k := fun j hj e => W.2.2.2.1 k (Relation.TransGen.single ⟨hk, j, hj, e⟩)
  intro m
  induction m with
  | zero =>
    intro i fuel g hi hf hg
    obtain ⟨f, rfl⟩ : ∃ f, fuel = f + 1 := ⟨fuel - 1, by omega⟩
    rw [u_X4_reach_42]
    unfold j_X4_reach_42
    rw [if_pos (in_nI (show k < 16 by omega) (by omega)), cl_nI (by omega), w_o (by omega), ← (a 16 (by omega)).1, w7, if_pos (by rw [nI_leI (by omega) (by omega)]; omega), nI_1, up_id]
    unfold stV
    rcases hg with e | e
    · rw [if_neg, e]
      rintro (z | z)
      · exact z e
      · exact absurd z Bool.false_ne_true
    · rw [if_pos (Or.inl (by rw [e]; decide)), e]
  | succ m ih =>
    intro i fuel g hi hf hg
    obtain ⟨f, rfl⟩ : ∃ f, fuel = f + 1 := ⟨fuel - 1, by omega⟩
    have hj : i < nM M k := by omega
    obtain ⟨v1, v2⟩ := w8 i hj
    have hs := self i hj
    have one : ∀ v : Int32, (v = 0 ∨ v = 1) → l_X4_reach_42 r23 r31 f (wM (upg g k v) Mm) (nI t) x2 (nI k) (nI (i + 1)) = r31 (wM (upg g k (if v ≠ 0 ∨ anB (hit M g t k) m (i + 1) = true then 1 else 0)) Mm) (nI t) x2 (nI (k + 1)) := fun v hv => by
      rw [ih (i + 1) f (upg g k v) (by omega) (by omega) (by rw [up_s]; exact hv), up_up]
      unfold stV
      rw [up_s, anB_cong m (i + 1) (P := hit M (upg g k v) t k) (Q := hit M g t k) fun j h1 h2 => by
        unfold hit
        rw [up_n (self j (by omega))]]
    rw [u_X4_reach_42]
    unfold j_X4_reach_42 j_X4_reach_96
    simp only [in_nI (show k < 16 by omega) (show 16 ≤ 65536 by omega), if_true, cl_nI (show k < 2 ^ 31 by omega), four_j, nI_add, in_nI (show 4 * k + i < 64 by omega) (show 64 ≤ 65536 by omega), cl_nI (show 4 * k + i < 2 ^ 31 by omega), w_41, w_o (g := g) (M := Mm) (f := 16) (by omega), w_o (g := g) (M := Mm) (f := 15) (by omega), ← (a 16 (by omega)).1, ← (a 15 (by omega)).1, w7, v1, in_nI (show nA M k i < 16 by omega) (show 16 ≤ 65536 by omega), cl_nI (show nA M k i < 2 ^ 31 by omega), b_d_eq, w_w, nI_1]
    rw [if_neg (by rw [nI_leI (by omega) (by omega)]; omega), one 1 (Or.inr rfl), one 0 (Or.inl rfl), if_pos (Or.inl (show (1 : Int32) ≠ 0 by decide))]
    unfold stV
    rw [anB_s]
    by_cases c : g k = 0
    · rw [if_pos c]
      by_cases d : nA M k i = t
      · rw [if_pos (by rw [d]), if_pos (Or.inr (by simp [hit, d]))]
      · rw [if_neg (nI_ne (by omega) (by omega) d)]
        by_cases e : g (nA M k i) = 0
        · rw [if_pos e, show hit M g t k i = false by simp [hit, d, e], Bool.false_or]
          by_cases z : anB (hit M g t k) m (i + 1) = true
          · rw [if_pos (Or.inr z), if_pos (Or.inr z)]
          · rw [if_neg (fun y => y.elim (fun q => q rfl) z), if_neg (fun y => y.elim (fun q => q c) z)]
        · rw [if_neg e, if_pos (Or.inr (by simp [hit, e]))]
    · rw [if_neg c, if_pos (Or.inl c)]
def g01 (g : Nat → Int32) : Prop := ∀ q, q < 16 → g q = 0 ∨ g q = 1
theorem g01_u {g : Nat → Int32} {k m i t : Nat} (H : g01 g) : g01 (upg g k (stV M g t k m i)) := fun q hq => by
  by_cases c : q = k
  · rw [c, up_s]
    unfold stV
    split
    · exact Or.inr rfl
    · exact Or.inl rfl
  · rw [up_n c]
    exact H q hq
theorem g01_r {t : Nat} : ∀ (m k : Nat) (g : Nat → Int32), g01 g → g01 (rnF M t m k g)
  | 0, _, _, H => H
  | m + 1, k, g, H => g01_r m (k + 1) _ (g01_u H)
theorem r31 (W : Wf_ n M) (a : Ag_ Mm M) {t : Nat} {x2 : Int32} (ht : t < 16) {r23 : Msx → Int32 → Int32 → Option Msx} : ∀ (m k fuel : Nat) (g : Nat → Int32), k + m = nD M → m < fuel → g01 g → l_X4_reach_31 r23 fuel (wM g Mm) (nI t) x2 (nI k) = r23 (wM (rnF M t m k g) Mm) (nI t) (x2 + 1) := by
  have h16 := W.1.2.2.2.1
  intro m
  induction m with
  | zero =>
    intro k fuel g hk hf hg
    obtain ⟨f, rfl⟩ : ∃ f, fuel = f + 1 := ⟨fuel - 1, by omega⟩
    rw [u_X4_reach_31]
    unfold j_X4_reach_31
    rw [w_o (by omega), ← (a 10 (by omega)).1, W.1.2.2.1, if_pos (by rw [nI_leI (by omega) (by omega)]; omega)]
    rfl
  | succ m ih =>
    intro k fuel g hk hf hg
    obtain ⟨f, rfl⟩ : ∃ f, fuel = f + 1 := ⟨fuel - 1, by omega⟩
    have hk' : k < nD M := by omega
    have w7a := (W.2.2.1 k hk').2.2.2.2.2.2.1.2.1
    rw [u_X4_reach_31]
    unfold j_X4_reach_31
    rw [w_o (by omega), ← (a 10 (by omega)).1, W.1.2.2.1, if_neg (by rw [nI_leI (by omega) (by omega)]; omega)]
    have := r42 W a (x2 := x2) ht hk' (r23 := r23) (r31 := l_X4_reach_31 r23 f) (nM M k) 0 70 g (by omega) (by omega) (hg k (by omega))
    refine Eq.trans this ?_
    rw [ih (k + 1) f _ (by omega) (by omega) (g01_u hg)]
    rfl
theorem r23 (W : Wf_ n M) (a : Ag_ Mm M) {t : Nat} (ht : t < 16) : ∀ (m s fuel : Nat) (g : Nat → Int32), s + m = 16 → m < fuel → g01 g → l_X4_reach_23 fuel (wM g Mm) (nI t) (nI s) = some (wM (tmF M t m g) Mm) := by
  have h16 := W.1.2.2.2.1
  intro m
  induction m with
  | zero =>
    intro s fuel g hs hf hg
    obtain ⟨f, rfl⟩ : ∃ f, fuel = f + 1 := ⟨fuel - 1, by omega⟩
    rw [u_X4_reach_23]
    unfold j_X4_reach_23
    rw [if_pos (by rw [litle (n := 16) rfl (by omega)]; omega)]
    rfl
  | succ m ih =>
    intro s fuel g hs hf hg
    obtain ⟨f, rfl⟩ : ∃ f, fuel = f + 1 := ⟨fuel - 1, by omega⟩
    rw [u_X4_reach_23]
    unfold j_X4_reach_23
    rw [if_neg (by rw [litle (n := 16) rfl (by omega)]; omega)]
    have := r31 W a (x2 := nI s) ht (r23 := l_X4_reach_23 f) (nD M) 0 70 g (by omega) (by omega) hg
    refine Eq.trans this ?_
    rw [nI_1, ih (s + 1) f _ (by omega) (by omega) (g01_r _ _ _ hg)]
    rfl
theorem r2 {t : Int32} : ∀ (m i fuel : Nat) (g : Nat → Int32), i + m = 16 → m < fuel → (∀ q, q < i → g q = 0) → ∃ g', l_X4_reach_2 fuel (wM g Mm) t (nI i) = l_X4_reach_23 70 (wM g' Mm) t 0 ∧ ∀ q, q < 16 → g' q = 0 := by
  intro m
  induction m with
  | zero =>
    intro i fuel g hi hf hg
    obtain ⟨f, rfl⟩ : ∃ f, fuel = f + 1 := ⟨fuel - 1, by omega⟩
    rw [u_X4_reach_2]
    unfold j_X4_reach_2
    rw [if_pos (by rw [litle (n := 16) rfl (by omega)]; omega)]
    exact ⟨g, rfl, fun q hq => hg q (by omega)⟩
  | succ m ih =>
    intro i fuel g hi hf hg
    obtain ⟨f, rfl⟩ : ∃ f, fuel = f + 1 := ⟨fuel - 1, by omega⟩
    rw [u_X4_reach_2]
    unfold j_X4_reach_2
    rw [if_neg (by rw [litle (n := 16) rfl (by omega)]; omega), if_pos (in_nI (show i < 16 by omega) (by omega)), cl_nI (by omega), b_d_eq, w_w, nI_1]
    exact ih (i + 1) f _ (by omega) (by omega) (fun q hq => by
      by_cases c : q = i
      · rw [c, up_s]
      · rw [up_n c]
        exact hg q (by omega))
/-- sound -/
def Sn_ (M : Msx) (t : Nat) (g : Nat → Int32) : Prop := ∀ k, k < nD M → g k ≠ 0 → Relation.TransGen (Nm_ M) k t
theorem Sn_r (W : Wf_ n M) {t : Nat} : ∀ (m k : Nat) (g : Nat → Int32), k + m = nD M → Sn_ M t g → Sn_ M t (rnF M t m k g)
  | 0, _, _, _, H => H
  | m + 1, k, g, hk, H => by
    refine Sn_r W m (k + 1) _ (by omega) (fun q hq hne => ?_)
    by_cases c : q = k
    · subst c
      rw [up_s] at hne
      unfold stV at hne
      by_cases d : g q ≠ 0 ∨ anB (hit M g t q) (nM M q) 0 = true
      · rcases d with d | d
        · exact H q hq d
        · obtain ⟨j, h1, h2, h3⟩ := (anB_iff _ _).mp d
          have e : Nm_ M q (nA M q j) := ⟨hq, j, by omega, rfl⟩
          unfold hit at h3
          rw [Bool.or_eq_true, decide_eq_true_eq, decide_eq_true_eq] at h3
          rcases h3 with h3 | h3
          · rw [h3] at e
            exact Relation.TransGen.single e
          · have t2 := H _ (nm_b W e).2 h3
            obtain ⟨u, p⟩ := pt_tg.mp t2
            exact pt_tg.mpr ⟨u + 1, _, e, p⟩
      · rw [if_neg d] at hne
        exact absurd rfl hne
    · rw [up_n c] at hne
      exact H q hq hne
theorem mo_u {g : Nat → Int32} {k m i t c : Nat} (h : g c ≠ 0) : upg g k (stV M g t k m i) c ≠ 0 := by
  by_cases e : c = k
  · subst e
    rw [up_s]
    unfold stV
    rw [if_pos (Or.inl h)]
    decide
  · rw [up_n e]
    exact h
theorem mo_r {t c : Nat} : ∀ (m k : Nat) (g : Nat → Int32), g c ≠ 0 → rnF M t m k g c ≠ 0
  | 0, _, _, H => H
  | m + 1, k, g, H => mo_r m (k + 1) _ (mo_u H)
theorem cp_r {t q c : Nat} (e : Nm_ M q c) : ∀ (m k : Nat) (g : Nat → Int32), k ≤ q → q < k + m → (c = t ∨ g c ≠ 0) → rnF M t m k g q ≠ 0
  | 0, k, _, h1, h2, _ => absurd h2 (by omega)
  | m + 1, k, g, h1, h2, H => by
    rw [rnF]
    by_cases d : q = k
    · subst d
      refine mo_r m (q + 1) _ ?_
      rw [up_s]
      unfold stV
      obtain ⟨hq, j, hj, ej⟩ := e
      rw [if_pos]
      · decide
      · right
        rw [anB_iff]
        refine ⟨j, by omega, by omega, ?_⟩
        unfold hit
        rw [ej, Bool.or_eq_true, decide_eq_true_eq, decide_eq_true_eq]
        exact H
    · refine cp_r e m (k + 1) _ (by omega) (by omega) ?_
      rcases H with H | H
      · exact Or.inl H
      · exact Or.inr (mo_u H)
theorem tm_c (W : Wf_ n M) {t : Nat} : ∀ (m s : Nat) (g : Nat → Int32), (∀ k, k < nD M → ∀ u, u < s → Pt M (u + 1) k t → g k ≠ 0) → ∀ k, k < nD M → ∀ u, u < s + m → Pt M (u + 1) k t → tmF M t m g k ≠ 0
  | 0, s, g, H => H
  | m + 1, s, g, H => by
    rw [show s + (m + 1) = s + 1 + m by omega]
    refine tm_c W m (s + 1) _ (fun k hk u hu p => ?_)
    obtain ⟨c, e, p'⟩ := p
    refine cp_r e (nD M) 0 g (by omega) (by omega) ?_
    cases u with
    | zero => exact Or.inl p'
    | succ u => exact Or.inr (H c (nm_b W e).2 u (by omega) p')
theorem Sn_t (W : Wf_ n M) {t : Nat} : ∀ (m : Nat) (g : Nat → Int32), Sn_ M t g → Sn_ M t (tmF M t m g)
  | 0, _, H => H
  | m + 1, g, H => Sn_t W m _ (Sn_r W (nD M) 0 g (by omega) H)
theorem g01_t {t : Nat} : ∀ (m : Nat) (g : Nat → Int32), g01 g → g01 (tmF M t m g)
  | 0, _, H => H
  | m + 1, g, H => g01_t m _ (g01_r _ _ _ H)
theorem reach_c (W : Wf_ n M) (a : Ag_ Mm M) {t : Nat} (ht : t < 16) : ∃ g, f_X4_reach Mm (nI t) = some (wM g Mm) ∧ g01 g ∧ ∀ k, k < nD M → (g k ≠ 0 ↔ Relation.TransGen (Nm_ M) k t) := by
  obtain ⟨g', e1, e2⟩ := r2 (Mm := Mm) (t := nI t) 16 0 70 (m_I Mm 41) (by omega) (by omega) (fun q hq => absurd hq (by omega))
  have h16 := W.1.2.2.2.1
  rw [w_self] at e1
  have g0 : g01 g' := fun q hq => Or.inl (e2 q hq)
  refine ⟨tmF M t 16 g', ?_, g01_t 16 _ g0, fun k hk => ⟨fun z => Sn_t W 16 g' (fun q hq z => absurd (e2 q (by omega)) z) k hk z, fun z => ?_⟩⟩
  · unfold f_X4_reach
    refine Eq.trans e1 ?_
    exact r23 W a ht 16 0 70 g' (by omega) (by omega) g0
  · obtain ⟨u, p⟩ := pt_tg.mp z
    have := pt_len W p
    exact tm_c W 16 0 g' (fun _ _ u hu => absurd hu (by omega)) k hk u (by omega) p
/-- does one name another -/
theorem dn_loop (W : Wf_ n M) {a b : Nat} (ha : a < nD M) (hb : b < 16) : ∀ (m i fuel : Nat) (x : Int32), i + m = nM M a → m < fuel → (x = 0 ∨ x = 1) → l_X4_doesName_5 M fuel (nI a) (nI b) x (nI i) = some (if x = 1 ∨ anB (fun j => decide (nA M a j = b)) m i = true then 1 else 0) := by
  have h16 := W.1.2.2.2.1
  obtain ⟨-, -, -, -, -, -, ⟨w7, w7a, -⟩, w8, -⟩ := W.2.2.1 a ha
  intro m
  induction m with
  | zero =>
    intro i fuel x hi hf hx
    obtain ⟨f, rfl⟩ : ∃ f, fuel = f + 1 := ⟨fuel - 1, by omega⟩
    rw [u_X4_doesName_5]
    unfold j_X4_doesName_5
    rw [if_pos (in_nI (show a < 16 by omega) (by omega)), cl_nI (by omega), w7, if_pos (by rw [nI_leI (by omega) (by omega)]; omega), if_pos hx]
    rcases hx with rfl | rfl
    · rw [if_neg]
      rintro (z | z)
      · exact absurd z (by decide)
      · exact absurd z Bool.false_ne_true
    · rw [if_pos (Or.inl rfl)]
  | succ m ih =>
    intro i fuel x hi hf hx
    obtain ⟨f, rfl⟩ : ∃ f, fuel = f + 1 := ⟨fuel - 1, by omega⟩
    obtain ⟨v1, v2⟩ := w8 i (by omega)
    rw [u_X4_doesName_5]
    unfold j_X4_doesName_5 j_X4_doesName_35
    rw [if_pos (in_nI (show a < 16 by omega) (by omega)), cl_nI (by omega), w7, if_neg (by rw [nI_leI (by omega) (by omega)]; omega), four_j, nI_add, if_pos (in_nI (by omega) (by omega)), cl_nI (by omega), v1, nI_1, ih (i + 1) f 1 (by omega) (by omega) (Or.inr rfl), ih (i + 1) f 0 (by omega) (by omega) (Or.inl rfl), if_pos (Or.inl rfl), anB_s]
    rcases hx with rfl | rfl
    · rw [if_pos rfl]
      by_cases c : nA M a i = b
      · rw [if_pos (by rw [c]), if_pos (Or.inr (by simp [c]))]
      · rw [if_neg (nI_ne (by omega) (by omega) c), decide_eq_false c, Bool.false_or]
    · rw [if_neg (show ¬ (1 : Int32) = 0 by decide), if_pos (Or.inl rfl)]
theorem does_c (W : Wf_ n M) {a b : Nat} (ha : a < nD M) (hb : b < 16) : f_X4_doesName M (nI a) (nI b) = some (if nB M a b = true then 1 else 0) := by
  have w7a := (W.2.2.1 a ha).2.2.2.2.2.2.1.2.1
  unfold f_X4_doesName
  have := dn_loop W ha hb (nM M a) 0 70 0 (by omega) (by omega) (Or.inl rfl)
  refine Eq.trans this ?_
  have e : ((0 : Int32) = 1 ∨ anB (fun j => decide (nA M a j = b)) (nM M a) 0 = true) ↔ nB M a b = true := by
    rw [nB_iff W ha hb, anB_iff]
    constructor
    · rintro (z | ⟨j, h1, h2, h3⟩)
      · exact absurd z (by decide)
      · exact ⟨j, by omega, by simpa using h3⟩
    · rintro ⟨j, h1, h2⟩
      exact Or.inr ⟨j, by omega, by omega, by simpa using h2⟩
  by_cases c : nB M a b = true
  · rw [if_pos c, if_pos (e.mpr c)]
  · rw [if_neg c, if_neg (fun z => c (e.mp z))]
end RC
