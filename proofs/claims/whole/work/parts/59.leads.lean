/-! who leads to whom -/
def naF (M : Msx) (x : Int32) : Nat → Nat → Int32 → Int32
  | 0, _, acc => acc
  | m + 1, i, acc => naF M x m (i + 1) (if i < nD M ∧ tb x i = true then acc ||| m_I M 56 i else acc)
def naA (M : Msx) (x : Int32) : Int32 := naF M x 16 0 0
def ldF (M : Msx) : Nat → Int32 → Int32
  | 0, r => r
  | m + 1, r => ldF M m (r ||| naA M r)
/-- whether a leads to b, as the class finds it -/
def LT (M : Msx) (a b : Nat) : Bool := tb (ldF M 16 (naA M ((1 : Int32) <<< (nI a &&& 31)))) b
def Pt (M : Msx) : Nat → Nat → Nat → Prop
  | 0, a, b => a = b
  | n + 1, a, b => ∃ c, Nm_ M a c ∧ Pt M n c b
section LD
variable {n : Nat} {A B ow : Nat → Nat} {h : Hpx} {M Mm : Msx}
theorem naF_tb {x : Int32} {q : Nat} : ∀ (m i : Nat) (acc : Int32), tb (naF M x m i acc) q = true ↔ (tb acc q = true ∨ ∃ j, i ≤ j ∧ j < i + m ∧ j < nD M ∧ tb x j = true ∧ tb (m_I M 56 j) q = true)
  | 0, i, acc => by
    unfold naF
    exact ⟨fun z => Or.inl z, fun z => z.elim (fun y => y) (fun ⟨j, h1, h2, _⟩ => absurd h1 (by omega))⟩
  | m + 1, i, acc => by
    rw [naF, naF_tb m (i + 1)]
    by_cases c : i < nD M ∧ tb x i = true
    · rw [if_pos c, tb_or, Bool.or_eq_true]
      constructor
      · rintro ((z | z) | ⟨j, h1, h2, h3, h4, h5⟩)
        · exact Or.inl z
        · exact Or.inr ⟨i, Nat.le_refl i, by omega, c.1, c.2, z⟩
        · exact Or.inr ⟨j, by omega, by omega, h3, h4, h5⟩
      · rintro (z | ⟨j, h1, h2, h3, h4, h5⟩)
        · exact Or.inl (Or.inl z)
        · by_cases e : j = i
          · subst e
            exact Or.inl (Or.inr h5)
          · exact Or.inr ⟨j, by omega, by omega, h3, h4, h5⟩
    · rw [if_neg c]
      constructor
      · rintro (z | ⟨j, h1, h2, h3, h4, h5⟩)
        · exact Or.inl z
        · exact Or.inr ⟨j, by omega, by omega, h3, h4, h5⟩
      · rintro (z | ⟨j, h1, h2, h3, h4, h5⟩)
        · exact Or.inl z
        · by_cases e : j = i
          · subst e
            exact absurd ⟨h3, h4⟩ c
          · exact Or.inr ⟨j, by omega, by omega, h3, h4, h5⟩
theorem na_loop (C : Cn_ n A B ow h M) {x : Int32} : ∀ (m i fuel : Nat) (acc : Int32), i + m = 16 → m < fuel → l_X3_namesOfAll_4 h 0 fuel x acc (nI i) = some (naF M x m i acc) := by
  intro m
  induction m with
  | zero =>
    intro i fuel acc hi hf
    obtain ⟨f, rfl⟩ : ∃ f, fuel = f + 1 := ⟨fuel - 1, by omega⟩
    rw [u_X3_namesOfAll_4]
    unfold j_X3_namesOfAll_4
    rw [if_pos (by rw [litle (n := 16) rfl (by omega)]; omega)]
    rfl
  | succ m ih =>
    intro i fuel acc hi hf
    obtain ⟨f, rfl⟩ : ∃ f, fuel = f + 1 := ⟨fuel - 1, by omega⟩
    rw [u_X3_namesOfAll_4]
    unfold j_X3_namesOfAll_4
    rw [if_neg (by rw [litle (n := 16) rfl (by omega)]; omega), if_pos C.2.1.1.1, readerAt_nI C (by omega), naF, nI_1]
    simp only [Option.bind_some, bit_tb (x := x) (show i < 16 by omega), ih (i + 1) f _ (show i + 1 + m = 16 by omega) (show m < f by omega)]
    by_cases e : i < nD M
    · simp only [if_pos e, reduceCtorEq, if_false, Option.bind_some, (C.2.1.2.2.2.2.1 i e).1, if_true, rI_56 C e]
      by_cases c : tb x i = true
      · rw [if_neg (by rw [c]; decide), if_pos ⟨e, c⟩]
      · rw [if_pos (by simpa using c), if_neg (fun z => c z.2)]
    · simp only [if_neg e, if_true]
      rw [if_neg (fun z => e z.1)]
theorem na_c (C : Cn_ n A B ow h M) (x : Int32) : f_X3_namesOfAll h 0 x = some (naA M x) := by
  unfold f_X3_namesOfAll naA
  exact na_loop C 16 0 70 0 (by omega) (by omega)
theorem ld_loop (C : Cn_ n A B ow h M) {t : Nat} (ht : t < 16) : ∀ (m i fuel : Nat) (r : Int32), i + m = 16 → m < fuel → l_X3_leadsTo_11 h 0 fuel (nI t) r (nI i) = some (if tb (ldF M m r) t = true then 1 else 0) := by
  intro m
  induction m with
  | zero =>
    intro i fuel r hi hf
    obtain ⟨f, rfl⟩ : ∃ f, fuel = f + 1 := ⟨fuel - 1, by omega⟩
    rw [u_X3_leadsTo_11]
    unfold j_X3_leadsTo_11
    rw [if_pos (by rw [litle (n := 16) rfl (by omega)]; omega)]
    show _ = some (if tb r t = true then 1 else 0)
    simp only [bit_tb (x := r) ht]
    by_cases c : tb r t = true
    · rw [if_neg (by rw [c]; decide), if_pos c]
    · rw [if_pos (by simpa using c), if_neg c]
  | succ m ih =>
    intro i fuel r hi hf
    obtain ⟨f, rfl⟩ : ∃ f, fuel = f + 1 := ⟨fuel - 1, by omega⟩
    rw [u_X3_leadsTo_11]
    unfold j_X3_leadsTo_11
    rw [if_neg (by rw [litle (n := 16) rfl (by omega)]; omega), if_pos C.2.1.1.1, na_c C]
    simp only [Option.bind_some]
    rw [nI_1, ih (i + 1) f _ (by omega) (by omega)]
    rfl
theorem leads_c (C : Cn_ n A B ow h M) {a t : Nat} (ht : t < 16) : f_X3_leadsTo h 0 (nI a) (nI t) = some (if LT M a t = true then 1 else 0) := by
  unfold f_X3_leadsTo LT
  rw [if_pos C.2.1.1.1, na_c C]
  exact ld_loop C ht 16 0 70 _ (by omega) (by omega)
theorem nm_b (W : Wf_ n M) {a b : Nat} (e : Nm_ M a b) : a < nD M ∧ b < nD M := by
  obtain ⟨ha, k, hk, hb⟩ := e
  have := ((W.2.2.1 a ha).2.2.2.2.2.2.2.1 k hk).2
  exact ⟨ha, by omega⟩
theorem nm_tb (W : Wf_ n M) {a b : Nat} (ha : a < nD M) (hb : b < 16) : tb (m_I M 56 a) b = true ↔ Nm_ M a b := by
  rw [← nB_tb hb, nB_iff W ha hb]
  exact ⟨fun ⟨k, hk, e⟩ => ⟨ha, k, hk, e⟩, fun ⟨_, k, hk, e⟩ => ⟨k, hk, e⟩⟩
theorem na_one (W : Wf_ n M) {a q : Nat} (ha : a < 16) (hq : q < 16) : tb (naA M ((1 : Int32) <<< (nI a &&& 31))) q = true ↔ Nm_ M a q := by
  have h16 := W.1.2.2.2.1
  unfold naA
  rw [naF_tb, tb_0]
  constructor
  · rintro (z | ⟨j, h1, h2, h3, h4, h5⟩)
    · exact absurd z Bool.false_ne_true
    · rw [tb_one a ha j (by omega), decide_eq_true_eq] at h4
      subst h4
      exact (nm_tb W h3 hq).mp h5
  · intro e
    have hn := (nm_b W e).1
    exact Or.inr ⟨a, by omega, by omega, hn, by rw [tb_one a ha a ha]; simp, (nm_tb W hn hq).mpr e⟩
theorem pt_snoc : ∀ (m : Nat) {a c b : Nat}, Pt M m a c → Nm_ M c b → Pt M (m + 1) a b
  | 0, a, c, b, e, f => by
    have e' : a = c := e
    subst e'
    exact ⟨b, f, rfl⟩
  | m + 1, a, c, b, ⟨d, e1, e2⟩, f => ⟨d, e1, pt_snoc m e2 f⟩
theorem pt_un : ∀ (m : Nat) {a b : Nat}, Pt M (m + 1) a b → ∃ c, Pt M m a c ∧ Nm_ M c b
  | 0, a, b, ⟨c, e1, e2⟩ => by
    have e2' : c = b := e2
    subst e2'
    exact ⟨a, rfl, e1⟩
  | m + 1, a, b, ⟨c, e1, e2⟩ => by
    obtain ⟨d, f1, f2⟩ := pt_un m e2
    exact ⟨d, ⟨c, e1, f1⟩, f2⟩
theorem pt_tg {a b : Nat} : Relation.TransGen (Nm_ M) a b ↔ ∃ m, Pt M (m + 1) a b := by
  constructor
  · intro t
    induction t with
    | single e => exact ⟨0, _, e, rfl⟩
    | tail _ e ih =>
      obtain ⟨m, p⟩ := ih
      exact ⟨m + 1, pt_snoc (m + 1) p e⟩
  · rintro ⟨m, p⟩
    induction m generalizing b with
    | zero =>
      obtain ⟨c, e1, e2⟩ := p
      have e2' : c = b := e2
      subst e2'
      exact Relation.TransGen.single e1
    | succ m ih =>
      obtain ⟨c, p1, p2⟩ := pt_un (m + 1) p
      exact Relation.TransGen.tail (ih p1) p2
theorem pt_seq : ∀ (m : Nat) {a b : Nat}, Pt M m a b → ∃ f : Nat → Nat, f 0 = a ∧ f m = b ∧ ∀ i, i < m → Nm_ M (f i) (f (i + 1))
  | 0, a, b, e => ⟨fun _ => a, rfl, e, fun i hi => absurd hi (by omega)⟩
  | m + 1, a, b, ⟨c, e1, e2⟩ => by
    obtain ⟨f, f0, fm, fs⟩ := pt_seq m e2
    refine ⟨fun i => if i = 0 then a else f (i - 1), if_pos rfl, ?_, fun i hi => ?_⟩
    · show (if m + 1 = 0 then a else f (m + 1 - 1)) = b
      rw [if_neg (by omega), Nat.add_sub_cancel]
      exact fm
    · show Nm_ M (if i = 0 then a else f (i - 1)) (if i + 1 = 0 then a else f (i + 1 - 1))
      rw [if_neg (show ¬ i + 1 = 0 by omega), Nat.add_sub_cancel]
      by_cases c : i = 0
      · rw [if_pos c, c, f0]
        exact e1
      · rw [if_neg c]
        have := fs (i - 1) (by omega)
        rw [show i - 1 + 1 = i by omega] at this
        exact this
theorem sq_tg {f : Nat → Nat} {m : Nat} (fs : ∀ i, i < m → Nm_ M (f i) (f (i + 1))) {i : Nat} : ∀ (d : Nat), i + d + 1 ≤ m → Relation.TransGen (Nm_ M) (f i) (f (i + d + 1))
  | 0, h => Relation.TransGen.single (fs i (by omega))
  | d + 1, h => Relation.TransGen.tail (sq_tg fs d (by omega)) (fs (i + d + 1) (by omega))
theorem pt_len (W : Wf_ n M) {m a b : Nat} (p : Pt M (m + 1) a b) : m + 1 ≤ 15 := by
  have h16 := W.1.2.2.2.1
  obtain ⟨f, f0, fm, fs⟩ := pt_seq (m + 1) p
  have := pig 16 (m + 2) f (fun e he => by
    by_cases c : e = m + 1
    · have := (nm_b W (fs m (by omega))).2
      rw [c]
      omega
    · have := (nm_b W (fs e (by omega))).1
      omega) (fun x y hx hy e => by
    rcases Nat.lt_trichotomy x y with c | c | c
    · exfalso
      have := sq_tg fs (i := x) (y - x - 1) (by omega)
      rw [show x + (y - x - 1) + 1 = y by omega, e] at this
      exact W.2.2.2.1 _ this
    · exact c
    · exfalso
      have := sq_tg fs (i := y) (x - y - 1) (by omega)
      rw [show y + (x - y - 1) + 1 = x by omega, e] at this
      exact W.2.2.2.1 _ this)
  omega
theorem ld_iff (W : Wf_ n M) {a : Nat} : ∀ (m s : Nat) (r : Int32), 1 ≤ s → (∀ q, q < 16 → (tb r q = true ↔ ∃ t, t < s ∧ Pt M (t + 1) a q)) → ∀ q, q < 16 → (tb (ldF M m r) q = true ↔ ∃ t, t < s + m ∧ Pt M (t + 1) a q)
  | 0, s, r, _, H => H
  | m + 1, s, r, hs, H => by
    have h16 := W.1.2.2.2.1
    rw [ldF, show s + (m + 1) = s + 1 + m by omega]
    refine ld_iff W m (s + 1) _ (by omega) (fun q hq => ?_)
    rw [tb_or, Bool.or_eq_true, H q hq]
    unfold naA
    rw [naF_tb, tb_0]
    constructor
    · rintro (⟨t, h1, h2⟩ | z | ⟨j, h1, h2, h3, h4, h5⟩)
      · exact ⟨t, by omega, h2⟩
      · exact absurd z Bool.false_ne_true
      · obtain ⟨t, t1, t2⟩ := (H j (by omega)).mp h4
        exact ⟨t + 1, by omega, pt_snoc (t + 1) t2 ((nm_tb W h3 hq).mp h5)⟩
    · rintro ⟨t, h1, h2⟩
      by_cases c : t < s
      · exact Or.inl ⟨t, c, h2⟩
      · obtain ⟨t', rfl⟩ : ∃ t', t = t' + 1 := ⟨t - 1, by omega⟩
        obtain ⟨j, p1, p2⟩ := pt_un (t' + 1) h2
        have hj := (nm_b W p2).1
        exact Or.inr (Or.inr ⟨j, by omega, by omega, hj, (H j (by omega)).mpr ⟨t', by omega, p1⟩, (nm_tb W hj hq).mpr p2⟩)
theorem LT_iff (W : Wf_ n M) {a b : Nat} (ha : a < 16) (hb : b < 16) : LT M a b = true ↔ Relation.TransGen (Nm_ M) a b := by
  unfold LT
  rw [ld_iff W 16 1 _ (by omega) (fun q hq => ?_) b hb, pt_tg]
  · constructor
    · rintro ⟨t, -, p⟩
      exact ⟨t, p⟩
    · rintro ⟨t, p⟩
      have := pt_len W p
      exact ⟨t, by omega, p⟩
  · rw [na_one W ha hq]
    constructor
    · intro e
      exact ⟨0, by omega, q, e, rfl⟩
    · rintro ⟨t, h1, p⟩
      have : t = 0 := by omega
      subst this
      obtain ⟨c, e1, e2⟩ := p
      have e2' : c = q := e2
      subst e2'
      exact e1
/-- the next one on the way -/
def nxB (M : Msx) (a t i : Nat) : Bool := tb (naA M ((1 : Int32) <<< (nI a &&& 31))) i && LT M i t
def nxV (M : Msx) (a t : Nat) : Int32 := if tb (naA M ((1 : Int32) <<< (nI a &&& 31))) t = true then -1 else lsA (nxB M a t) 16 0 (-1)
theorem lw_loop2 (C : Cn_ n A B ow h M) {a t : Nat} (ht : t < 16) : ∀ (m i fuel : Nat), i + m = 16 → m < fuel → l_X3_leastTowards_21 h 0 fuel (nI t) (naA M ((1 : Int32) <<< (nI a &&& 31))) (nI i) = some (lsA (nxB M a t) m i (-1)) := by
  intro m
  induction m with
  | zero =>
    intro i fuel hi hf
    obtain ⟨f, rfl⟩ : ∃ f, fuel = f + 1 := ⟨fuel - 1, by omega⟩
    rw [u_X3_leastTowards_21]
    unfold j_X3_leastTowards_21
    rw [if_pos (by rw [litle (n := 16) rfl (by omega)]; omega)]
    rfl
  | succ m ih =>
    intro i fuel hi hf
    obtain ⟨f, rfl⟩ : ∃ f, fuel = f + 1 := ⟨fuel - 1, by omega⟩
    rw [u_X3_leastTowards_21]
    unfold j_X3_leastTowards_21
    rw [if_neg (by rw [litle (n := 16) rfl (by omega)]; omega), if_pos C.2.1.1.1, nI_1, ih (i + 1) f (by omega) (by omega), leads_c C ht, lsA]
    simp only [bit_tb (x := naA M ((1 : Int32) <<< (nI a &&& 31))) (show i < 16 by omega), Option.bind_some]
    by_cases c : tb (naA M ((1 : Int32) <<< (nI a &&& 31))) i = true
    · rw [if_neg (by rw [c]; decide)]
      by_cases d : LT M i t = true
      · rw [if_pos d, if_neg (by decide), if_pos (by simp [nxB, c, d])]
      · rw [if_neg d, if_pos rfl, if_neg (by simp [nxB, d])]
    · rw [if_pos (by simpa using c), if_neg (by simp [nxB, c])]
theorem towards_c (C : Cn_ n A B ow h M) {a t : Nat} (ht : t < 16) : f_X3_leastTowards h 0 (nI a) (nI t) = some (nxV M a t) := by
  unfold f_X3_leastTowards nxV
  rw [if_pos C.2.1.1.1, na_c C]
  simp only [Option.bind_some, bit_tb (x := naA M ((1 : Int32) <<< (nI a &&& 31))) ht]
  by_cases c : tb (naA M ((1 : Int32) <<< (nI a &&& 31))) t = true
  · rw [if_neg (by rw [c]; decide), if_pos c]
  · rw [if_pos (by simpa using c), if_neg c]
    exact lw_loop2 C ht 16 0 70 (by omega) (by omega)
end LD
