/-! a folding reader takes its first entry -/
theorem cpM_at {f b0 m g q : Nat} {v : Nat → Int64} {M : Msx} : m_J (cpM f b0 v m M) g q = if g = f ∧ b0 ≤ q ∧ q < b0 + m then v (q - b0) else m_J M g q := by
  by_cases c : g = f
  · subst c
    by_cases d : b0 ≤ q ∧ q < b0 + m
    · rw [if_pos ⟨rfl, d⟩]
      have := cpM_in (f := g) (b0 := b0) (i := q - b0) (v := v) (M := M) m (by omega)
      rw [show b0 + (q - b0) = q by omega] at this
      exact this
    · rw [if_neg (fun z => d z.2), cpM_out m (by omega)]
  · rw [if_neg (fun z => c z.1), cpM_o c]
/-- entries shifted down: the first m of reader j -/
def shN (j m : Nat) (M : Msx) : Msx := (fun f i => if (f = 29 ∨ f = 31 ∨ f = 32) ∧ 32 * j ≤ i ∧ i < 32 * j + m then M.1 f (i + 1) else M.1 f i, fun f i => if f = 30 ∧ 32 * j ≤ i ∧ i < 32 * j + m then M.2 f (i + 1) else if f = 33 ∧ 256 * j ≤ i ∧ i < 256 * j + 8 * m then M.2 f (i + 8) else M.2 f i)
theorem sh_I {j m g q : Nat} {M : Msx} : m_I (shN j m M) g q = if (g = 29 ∨ g = 31 ∨ g = 32) ∧ 32 * j ≤ q ∧ q < 32 * j + m then m_I M g (q + 1) else m_I M g q := rfl
theorem sh_J {j m g q : Nat} {M : Msx} : m_J (shN j m M) g q = if g = 30 ∧ 32 * j ≤ q ∧ q < 32 * j + m then m_J M g (q + 1) else if g = 33 ∧ 256 * j ≤ q ∧ q < 256 * j + 8 * m then m_J M g (q + 8) else m_J M g q := rfl
theorem sh_o {j m g : Nat} {M : Msx} (h1 : g ≠ 29) (h2 : g ≠ 31) (h3 : g ≠ 32) : m_I (shN j m M) g = m_I M g := by
  funext q
  rw [sh_I, if_neg (by omega)]
theorem sh_Jo {j m g : Nat} {M : Msx} (h1 : g ≠ 30) (h2 : g ≠ 33) : m_J (shN j m M) g = m_J M g := by
  funext q
  rw [sh_J, if_neg (by omega), if_neg (by omega)]
theorem sh_0 {j : Nat} {M : Msx} : shN j 0 M = M := Ms_ext (fun g q => by rw [sh_I, if_neg (by omega)]) (fun g q => by rw [sh_J, if_neg (by omega), if_neg (by omega)])
theorem sh_ag {j m : Nat} {M Mm : Msx} (a : Ag_ Mm M) : Ag_ (shN j m Mm) (shN j m M) := fun g hg => ⟨by
    funext q
    rw [sh_I, sh_I, (a g hg).1], by
    funext q
    rw [sh_J, sh_J, (a g hg).2]⟩
/-- one step of the shift -/
def ssM (u : Nat) (S : Msx) : Msx := n_I (n_I (n_J (n_I S 29 u (m_I S 29 (u + 1))) 30 u (m_J S 30 (u + 1))) 31 u (m_I S 31 (u + 1))) 32 u (m_I S 32 (u + 1))
theorem sh_s {j m : Nat} {M : Msx} : cpM 33 (8 * (32 * j + m)) (fun i => m_J (shN j m M) 33 (8 * (32 * j + m) + 8 + i)) 8 (ssM (32 * j + m) (shN j m M)) = shN j (m + 1) M := by
  unfold ssM
  refine Ms_ext (fun g q => ?_) (fun g q => ?_)
  · rw [cpM_I, nI_at, nI_at, nJ_I, nI_at, sh_I, sh_I, sh_I, sh_I, sh_I]
    by_cases c : q = 32 * j + m
    · by_cases c1 : g = 32
      · rw [if_pos ⟨c1, c⟩, if_neg (by omega), if_pos (by omega), c1, c]
      have n1 : ¬ (g = 32 ∧ q = 32 * j + m) := by omega
      rw [if_neg n1]
      by_cases c2 : g = 31
      · rw [if_pos ⟨c2, c⟩, if_neg (by omega), if_pos (by omega), c2, c]
      have n2 : ¬ (g = 31 ∧ q = 32 * j + m) := by omega
      rw [if_neg n2]
      by_cases c3 : g = 29
      · rw [if_pos ⟨c3, c⟩, if_neg (by omega), if_pos (by omega), c3, c]
      have n3 : ¬ (g = 29 ∧ q = 32 * j + m) := by omega
      rw [if_neg n3, if_neg (show ¬ ((g = 29 ∨ g = 31 ∨ g = 32) ∧ 32 * j ≤ q ∧ q < 32 * j + m) by omega), if_neg (show ¬ ((g = 29 ∨ g = 31 ∨ g = 32) ∧ 32 * j ≤ q ∧ q < 32 * j + (m + 1)) by omega)]
    · rw [if_neg (show ¬ (g = 32 ∧ q = 32 * j + m) by omega), if_neg (show ¬ (g = 31 ∧ q = 32 * j + m) by omega), if_neg (show ¬ (g = 29 ∧ q = 32 * j + m) by omega)]
      by_cases d : (g = 29 ∨ g = 31 ∨ g = 32) ∧ 32 * j ≤ q ∧ q < 32 * j + m
      · rw [if_pos d, if_pos (by omega)]
      · rw [if_neg d, if_neg (by omega)]
  · rw [cpM_at, nI_J, nI_J, nJ_at, nI_J]
    by_cases c : g = 33 ∧ 8 * (32 * j + m) ≤ q ∧ q < 8 * (32 * j + m) + 8
    · rw [if_pos c]
      show m_J (shN j m M) 33 (8 * (32 * j + m) + 8 + (q - 8 * (32 * j + m))) = _
      rw [show 8 * (32 * j + m) + 8 + (q - 8 * (32 * j + m)) = q + 8 by omega, sh_J, sh_J, if_neg (by omega), if_neg (by omega), if_neg (by omega), if_pos (by omega), c.1]
    · rw [if_neg c]
      by_cases d : g = 30 ∧ q = 32 * j + m
      · rw [if_pos d, sh_J, if_neg (by omega), if_neg (by omega), sh_J, if_pos (by omega), d.1, d.2]
      · rw [if_neg d, sh_J, sh_J]
        by_cases e : g = 30 ∧ 32 * j ≤ q ∧ q < 32 * j + m
        · rw [if_pos e, if_pos (by omega)]
        · rw [if_neg e, if_neg (show ¬ (g = 30 ∧ 32 * j ≤ q ∧ q < 32 * j + (m + 1)) by omega)]
          by_cases e2 : g = 33 ∧ 256 * j ≤ q ∧ q < 256 * j + 8 * m
          · rw [if_pos e2, if_pos (by omega)]
          · rw [if_neg e2, if_neg (by omega)]
theorem w196 {u : Nat} {x1 x2 : Int32} {M : Msx} {rec : Msx → Int32 → Int32 → Int32 → Option Msx} (hu : u + 1 < 512) : ∀ (k i fuel : Nat), i + k = 8 → k < fuel → l_X4_takeEntry_196 rec fuel (cpM 33 (8 * u) (fun i => m_J M 33 (8 * u + 8 + i)) i M) x1 x2 (nI u) (nI i) = rec (cpM 33 (8 * u) (fun i => m_J M 33 (8 * u + 8 + i)) 8 M) x1 x2 (nI (u + 1)) := by
  intro k
  induction k with
  | zero =>
    intro i fuel hi hf
    obtain ⟨f, rfl⟩ : ∃ f, fuel = f + 1 := ⟨fuel - 1, by omega⟩
    rw [u_X4_takeEntry_196]
    unfold j_X4_takeEntry_196
    rw [if_pos (by rw [litle (n := 8) rfl (by omega)]; omega), show i = 8 by omega, nI_1]
  | succ k ih =>
    intro i fuel hi hf
    obtain ⟨f, rfl⟩ : ∃ f, fuel = f + 1 := ⟨fuel - 1, by omega⟩
    rw [u_X4_takeEntry_196]
    unfold j_X4_takeEntry_196
    have e8 : (8 : Int32) * nI u + 8 + nI i = nI (8 * u + 8 + i) := by
      rw [show (8 : Int32) = nI 8 from rfl, pk_mul, nI_add, nI_add]
    simp only [e8, eight_t, b_d_eq, nI_1]
    rw [if_neg (by rw [litle (n := 8) rfl (by omega)]; omega), if_pos (in_nI (by omega) (by omega)), if_pos (in_nI (by omega) (by omega)), cl_nI (by omega), cl_nI (by omega), cpM_out i (by omega)]
    have := ih (i + 1) f (by omega) (by omega)
    rw [cpM] at this
    exact this
theorem w125 {j E : Nat} {M : Msx} (hj : j < 16) (hE : E ≤ 31) (h28 : m_I M 28 j = nI E) : ∀ (k m fuel : Nat), m + k = E → k < fuel → l_X4_takeEntry_125 fuel (shN j m M) (nI j) (nI (32 * j)) (nI (32 * j + m)) = some (shN j E M) := by
  intro k
  induction k with
  | zero =>
    intro m fuel hm hf
    obtain ⟨f, rfl⟩ : ∃ f, fuel = f + 1 := ⟨fuel - 1, by omega⟩
    rw [u_X4_takeEntry_125]
    unfold j_X4_takeEntry_125
    rw [if_pos (in_nI hj (by omega)), cl_nI (by omega), sh_o (by omega) (by omega) (by omega), h28, nI_add, if_pos (by rw [nI_leI (by omega) (by omega)]; omega), show m = E by omega]
  | succ k ih =>
    intro m fuel hm hf
    obtain ⟨f, rfl⟩ : ∃ f, fuel = f + 1 := ⟨fuel - 1, by omega⟩
    rw [u_X4_takeEntry_125]
    unfold j_X4_takeEntry_125
    rw [if_pos (in_nI hj (by omega)), cl_nI (by omega), sh_o (by omega) (by omega) (by omega), h28, nI_add, if_neg (by rw [nI_leI (by omega) (by omega)]; omega)]
    simp only [nI_1, in_nI (show 32 * j + m + 1 < 512 by omega) (show 512 ≤ 65536 by omega), in_nI (show 32 * j + m < 512 by omega) (show 512 ≤ 65536 by omega), if_true, cl_nI (show 32 * j + m + 1 < 2 ^ 31 by omega), cl_nI (show 32 * j + m < 2 ^ 31 by omega), b_d_eq]
    have := ih (m + 1) f (by omega) (by omega)
    rw [← sh_s] at this
    generalize hS : shN j m M = S at this ⊢
    have x1 : m_J (n_I S 29 (32 * j + m) (m_I S 29 (32 * j + m + 1))) 30 (32 * j + m + 1) = m_J S 30 (32 * j + m + 1) := rfl
    have x2 : m_I (n_J (n_I S 29 (32 * j + m) (m_I S 29 (32 * j + m + 1))) 30 (32 * j + m) (m_J S 30 (32 * j + m + 1))) 31 (32 * j + m + 1) = m_I S 31 (32 * j + m + 1) := by rw [nJ_I, n_I_o (by omega)]
    have x3 : m_I (n_I (n_J (n_I S 29 (32 * j + m) (m_I S 29 (32 * j + m + 1))) 30 (32 * j + m) (m_J S 30 (32 * j + m + 1))) 31 (32 * j + m) (m_I S 31 (32 * j + m + 1))) 32 (32 * j + m + 1) = m_I S 32 (32 * j + m + 1) := by rw [n_I_o (by omega), nJ_I, n_I_o (by omega)]
    rw [x1, x2, x3]
    have lp := w196 (u := 32 * j + m) (x1 := nI j) (x2 := nI (32 * j)) (M := ssM (32 * j + m) S) (rec := l_X4_takeEntry_125 f) (by omega) 8 0 70 (by omega) (by omega)
    rw [cpM] at lp
    have e33 : (fun i => m_J (ssM (32 * j + m) S) 33 (8 * (32 * j + m) + 8 + i)) = fun i => m_J S 33 (8 * (32 * j + m) + 8 + i) := by
      unfold ssM
      rw [nI_J, nI_J, n_J_o (by omega), nI_J]
    rw [e33] at lp
    exact Eq.trans lp this
theorem w79 {j E : Nat} {M : Msx} (hj : j < 16) (hE : E ≤ 31) (h28 : m_I M 28 j = nI (E + 1)) : ∀ (k i fuel : Nat), i + k = 8 → k < fuel → l_X4_takeEntry_79 fuel (cpM 27 (8 * j) (fun i => m_J M 33 (8 * (32 * j) + i)) i M) (nI j) (nI (32 * j)) (nI i) = some (shN j E (n_I (cpM 27 (8 * j) (fun i => m_J M 33 (8 * (32 * j) + i)) 8 M) 28 j (nI E))) := by
  intro k
  induction k with
  | zero =>
    intro i fuel hi hf
    obtain ⟨f, rfl⟩ : ∃ f, fuel = f + 1 := ⟨fuel - 1, by omega⟩
    rw [u_X4_takeEntry_79]
    unfold j_X4_takeEntry_79
    rw [if_pos (by rw [litle (n := 8) rfl (by omega)]; omega), show i = 8 by omega, if_pos (in_nI hj (by omega)), cl_nI (by omega), b_d_eq, cpM_I, h28, nI_pred]
    have := w125 (M := n_I (cpM 27 (8 * j) (fun i => m_J M 33 (8 * (32 * j) + i)) 8 M) 28 j (nI E)) hj hE nI_s E 0 70 (by omega) (by omega)
    rw [sh_0] at this
    exact this
  | succ k ih =>
    intro i fuel hi hf
    obtain ⟨f, rfl⟩ : ∃ f, fuel = f + 1 := ⟨fuel - 1, by omega⟩
    rw [u_X4_takeEntry_79]
    unfold j_X4_takeEntry_79
    simp only [eight_t, b_d_eq, nI_1]
    rw [if_neg (by rw [litle (n := 8) rfl (by omega)]; omega), if_pos (in_nI (by omega) (by omega)), if_pos (in_nI (by omega) (by omega)), cl_nI (by omega), cl_nI (by omega), cpM_o (by omega)]
    have := ih (i + 1) f (by omega) (by omega)
    rw [cpM] at this
    exact this
theorem tk_Jc {j : Nat} {q v1 : Int32} {v3 : Int64} {v4 v5 x : Int32} {w : Nat → Int64} {M : Msx} : m_J (tkM j q v1 v3 v4 v5 x w M) = m_J (cpM 27 (8 * j) w 8 (n_J M 24 j v3)) := by
  unfold tkM
  rw [← cpM_nI, ← cpM_nI]
  show m_J (cpM 27 (8 * j) w 8 (n_I (n_I (n_I (n_J M 24 j v3) 21 j x) 22 j v1) 23 j q)) = _
  rw [← cpM_nI, ← cpM_nI, ← cpM_nI]
  rfl
theorem tk_28 {j p : Nat} {q v1 : Int32} {v3 : Int64} {v4 v5 x y : Int32} {w : Nat → Int64} {M : Msx} : n_I (tkM j q v1 v3 v4 v5 x w M) 28 p y = tkM j q v1 v3 v4 v5 x w (n_I M 28 p y) := by
  refine Ms_ext (fun g r => ?_) (fun g r => ?_)
  · rw [nI_at, tk_I, tk_I, nI_at]
    by_cases c : g = 28 ∧ r = p
    · rw [if_pos c, if_neg (by omega), if_neg (by omega), if_neg (by omega), if_neg (by omega), if_neg (by omega), if_pos c]
    · rw [if_neg c, if_neg c]
  · rw [nI_J, tk_Jc, tk_Jc, cpM_at, cpM_at]
    rfl
theorem tk_sh {j m : Nat} {q v1 : Int32} {v3 : Int64} {v4 v5 x : Int32} {w : Nat → Int64} {M : Msx} : shN j m (tkM j q v1 v3 v4 v5 x w M) = tkM j q v1 v3 v4 v5 x w (shN j m M) := by
  refine Ms_ext (fun g r => ?_) (fun g r => ?_)
  · rw [sh_I, tk_I, tk_I, tk_I, sh_I]
    by_cases c : (g = 29 ∨ g = 31 ∨ g = 32) ∧ 32 * j ≤ r ∧ r < 32 * j + m
    · rw [if_pos c, if_neg (by omega), if_neg (by omega), if_neg (by omega), if_neg (by omega), if_neg (by omega), if_neg (by omega), if_neg (by omega), if_neg (by omega), if_neg (by omega), if_neg (by omega), if_pos c]
    · rw [if_neg c, if_neg c]
  · rw [sh_J, tk_Jc, tk_Jc, cpM_at, cpM_at, cpM_at, cpM_at, nJ_at, nJ_at, nJ_at, nJ_at, sh_J]
    by_cases c : g = 30 ∧ 32 * j ≤ r ∧ r < 32 * j + m
    · rw [if_pos c, if_neg (by omega), if_neg (by omega), if_neg (by omega), if_neg (by omega), if_pos c]
    · rw [if_neg c, if_neg c]
      by_cases d : g = 33 ∧ 256 * j ≤ r ∧ r < 256 * j + 8 * m
      · rw [if_pos d, if_neg (by omega), if_neg (by omega), if_neg (by omega), if_neg (by omega), if_pos d]
      · rw [if_neg d, if_neg d]
/-- the places of entries turned: the first of E goes behind the others -/
def rtM (j E : Nat) (M : Msx) : Msx := (fun f i => if f = 66 ∧ 32 * j ≤ i ∧ i + 1 < 32 * j + E then M.1 66 (i + 1) else if f = 66 ∧ 32 * j ≤ i ∧ i + 1 = 32 * j + E then M.1 66 (32 * j) else M.1 f i, M.2)
theorem rt_I {j E g q : Nat} {M : Msx} : m_I (rtM j E M) g q = if g = 66 ∧ 32 * j ≤ q ∧ q + 1 < 32 * j + E then m_I M 66 (q + 1) else if g = 66 ∧ 32 * j ≤ q ∧ q + 1 = 32 * j + E then m_I M 66 (32 * j) else m_I M g q := rfl
theorem rt_o {j E g : Nat} {M : Msx} (h1 : g ≠ 66) : m_I (rtM j E M) g = m_I M g := by
  funext q
  rw [rt_I, if_neg (by omega), if_neg (by omega)]
theorem rt_J {j E : Nat} {M : Msx} : m_J (rtM j E M) = m_J M := rfl
theorem rt_ag {j E : Nat} {M Mm : Msx} (a : Ag_ Mm M) : Ag_ Mm (rtM j E M) := fun g hg => ⟨by rw [rt_o (by omega)]; exact (a g hg).1, (a g hg).2⟩
def shR (b m : Nat) (h : Hpx) : Hpx := (h_k h, h_n h, h_z h, h_I h, h_J h, fun a p => if a = b ∧ p < m then h_R h b (p + 1) else h_R h a p)
theorem shR_R {b m a p : Nat} {h : Hpx} : h_R (shR b m h) a p = if a = b ∧ p < m then h_R h b (p + 1) else h_R h a p := rfl
theorem sR_at {h : Hpx} {a p b q : Nat} {x : Option Nat} : h_R (s_R h a p x) b q = if b = a ∧ q = p then x else h_R h b q := by
  show va_up (h_R h) a (va_up (h_R h a) p x) b q = _
  by_cases e : b = a ∧ q = p
  · rw [if_pos e, e.1, e.2]
    exact up2_s
  · rw [if_neg e]
    exact up2_n e
theorem Hx_R {h h' : Hpx} (e1 : h_k h' = h_k h) (e2 : h_n h' = h_n h) (e3 : h_z h' = h_z h) (e4 : h_I h' = h_I h) (e5 : h_J h' = h_J h) (e6 : ∀ a p, h_R h' a p = h_R h a p) : h' = h := Prod.ext e1 (Prod.ext e2 (Prod.ext e3 (Prod.ext e4 (Prod.ext e5 (funext fun a => funext fun p => e6 a p)))))
theorem shR_0 {b : Nat} {h : Hpx} : shR b 0 h = h := Hx_R rfl rfl rfl rfl rfl (fun a p => by rw [shR_R, if_neg (by omega)])
theorem shR_s {b m : Nat} {h : Hpx} : s_R (shR b m h) b m (h_R h b (m + 1)) = shR b (m + 1) h := Hx_R rfl rfl rfl rfl rfl (fun a p => by
  rw [sR_at, shR_R, shR_R]
  by_cases c : a = b ∧ p = m
  · rw [if_pos c, if_pos (by omega), c.2]
  · rw [if_neg c]
    by_cases d : a = b ∧ p < m
    · rw [if_pos d, if_pos (by omega)]
    · rw [if_neg d, if_neg (by omega)])
section TE
variable {n : Nat} {A B ow : Nat → Nat} {h : Hpx} {M Mm : Msx}
theorem te_loop {E b a : Nat} {j : Nat} (s1 : h_k h (B j) = 2) (hb : b = B j + 5) (s15 : h_R h (B j) 6 = some b) (s16 : h_k h b = 9) (s17 : h_n h b = 32) (ka : h_k h a = 1) (hI : h_I h (B j) 10 = nI E) (hE : E ≤ 32) (hR : ∀ e, e < 32 → ∃ c, h_R h b e = some c ∧ h_k h c = 1) : ∀ (m t fuel : Nat), t + 1 + m = E → m < fuel → l_X1_takeEntry_31 (B j) fuel (shR b t h) (some a) (nI (t + 1)) = c_l (f_X1_keep (s_R (s_I (shR b (E - 1) h) (B j) 10 (nI (E - 1))) b (E - 1) (some a)) (B j) (some a)) fun h37 r38 => if r38 = 0 ∨ r38 = 1 then some (h37, r38) else none := by
  intro m
  induction m with
  | zero =>
    intro t fuel ht hf
    obtain ⟨f, rfl⟩ : ∃ f, fuel = f + 1 := ⟨fuel - 1, by omega⟩
    have et : E - 1 = t := by omega
    have k1 : h_k (shR b t h) (B j) = 2 := s1
    have k2 : h_I (shR b t h) (B j) 10 = nI E := hI
    rw [u_X1_takeEntry_31]
    unfold j_X1_takeEntry_31
    rw [if_pos k1, k2, if_pos (by rw [nI_leI (by omega) (by omega)]; omega), et, b_d_eq, show nI E - 1 = nI t by rw [show E = t + 1 by omega]; exact nI_pred t]
    have k3 : h_R (s_I (shR b t h) (B j) 10 (nI t)) (B j) 6 = some b := by
      rw [RsI, shR_R, if_neg (by omega), s15]
    have k4 : h_k (s_I (shR b t h) (B j) 10 (nI t)) b = 9 := s16
    have k5 : h_n (s_I (shR b t h) (B j) 10 (nI t)) b = 32 := s17
    have k6 : h_k (s_I (shR b t h) (B j) 10 (nI t)) a = 1 := ka
    rw [k3]
    simp only [Option.bind_some, k4, k5, if_true, sI_s, in_nI (show t < 32 by omega) (show 32 ≤ 65536 by omega), k6, cl_nI (show t < 2 ^ 31 by omega), b_d_eq]
  | succ m ih =>
    intro t fuel ht hf
    obtain ⟨f, rfl⟩ : ∃ f, fuel = f + 1 := ⟨fuel - 1, by omega⟩
    have k1 : h_k (shR b t h) (B j) = 2 := s1
    have k2 : h_I (shR b t h) (B j) 10 = nI E := hI
    have k3 : h_R (shR b t h) (B j) 6 = some b := by rw [shR_R, if_neg (by omega), s15]
    have k4 : h_k (shR b t h) b = 9 := s16
    have k5 : h_n (shR b t h) b = 32 := s17
    obtain ⟨c, hc, kc⟩ := hR (t + 1) (by omega)
    have k6 : h_R (shR b t h) b (t + 1) = some c := by rw [shR_R, if_neg (by omega), hc]
    have k7 : h_k (shR b t h) c = 1 := kc
    rw [u_X1_takeEntry_31]
    unfold j_X1_takeEntry_31
    rw [if_pos k1, k2, if_neg (by rw [nI_leI (by omega) (by omega)]; omega), k3]
    simp only [Option.bind_some, k4, k5, if_true, in_nI (show t + 1 < 32 by omega) (show 32 ≤ 65536 by omega), nI_pred, in_nI (show t < 32 by omega) (show 32 ≤ 65536 by omega), cl_nI (show t + 1 < 2 ^ 31 by omega), cl_nI (show t < 2 ^ 31 by omega), k6, k7, b_d_eq, nI_1]
    have := ih (t + 1) f (by omega) (by omega)
    rw [← shR_s, hc] at this
    exact this
/-- the cells of the class, where entries' places are turned -/
theorem Sh_R {h' : Hpx} {M' : Msx} {j : Nat} (S : Sh_ A B h M) (O : Ow_ A B ow M) (hj : j < nD M) (h4 : kD M j = 4) (ek : h_k h' = h_k h) (en : h_n h' = h_n h) (ez : h_z h' = h_z h) (eR : ∀ a p, a ≠ B j + 5 → h_R h' a p = h_R h a p) (d : Dm_ M M') (dr : ∀ i, rG M' i 0 = rG M i 0) (dt : ∀ i, tG M' i = tG M i) (ds : ∀ i e, e < 32 → i ≠ j → sG M' i e = sG M i e) (hE : ∀ e, e < 32 → h_R h' (B j + 5) e = some (B j + 6 + 2 * sG M' j e)) : Sh_ A B h' M' := by
  obtain ⟨s0, sR, sD, sr, sd, sm, z1, z2⟩ := S
  have b41 := (O.2.2.1 j hj).1
  have lj : lB M j = 70 := lB4 h4
  have nej : ∀ i x, i < nD M → x < lB M i → i ≠ j → B i + x ≠ B j + 5 := fun i x hi hx hij e => by
    have e1 := (O.2.2.1 i hi).2 x hx
    have e2 := (O.2.2.1 j hj).2 5 (by omega)
    rw [e, e2] at e1
    omega
  have l6 : ∀ i, 6 ≤ lB M i := fun i => by unfold lB; split <;> omega
  refine ⟨?_, fun r hr => ?_, fun i hi => ?_, fun r hr => ?_, fun i hi => ?_, ?_, fun r hr => ?_, fun i hi => ?_⟩
  · unfold S0_
    rw [ek, en, eR 0 0 (by omega), eR 0 1 (by omega), eR 0 2 (by omega), eR 0 3 (by omega)]
    exact s0
  · rw [eR 1 r (by omega), d.1]
    exact sR r hr
  · rw [eR 2 i (by omega), d.2.1]
    exact sD i hi
  · rw [d.1] at hr
    have o : ∀ x, x < 2 + 2 * sL M r → A r + x ≠ B j + 5 := fun x hx => own_ne O hr hj hx (by omega)
    unfold Sr_
    obtain ⟨q1, q2, q3, q4, q5⟩ := sr r hr
    rw [ek, en, d.2.2.1 r]
    refine ⟨q1, ?_, q3, q4, fun k hk => ?_⟩
    · rw [eR (A r) 2 (by have := o 0 (by omega); omega)]
      exact q2
    · obtain ⟨p1, p2, p3, p4, p5⟩ := q5 k hk
      refine ⟨?_, p2, ?_, p4, p5⟩
      · rw [eR (A r + 1) k (o 1 (by omega))]
        exact p1
      · rw [eR (A r + 2 + 2 * k) 0 (by have := o (2 + 2 * k) (by omega); omega)]
        exact p3
  · rw [d.2.1] at hi
    unfold Sd_
    rw [ek, en, d.2.2.2 i, dr i, dt i]
    obtain ⟨q1, q2, q3, q4, q5, q6, q7, q8, q9, q10, q11, q12, q13, q14, q15, q16, q17, q18, q19⟩ := sd i hi
    have n0 : B i ≠ B j + 5 := by
      by_cases e : i = j
      · rw [e]; omega
      · have := nej i 0 hi (by have := l6 i; omega) e
        omega
    have n1 : B i + 1 ≠ B j + 5 := by
      by_cases e : i = j
      · rw [e]; omega
      · exact nej i 1 hi (by have := l6 i; omega) e
    refine ⟨q1, by rw [eR _ _ n0]; exact q2, by rw [eR _ _ n0]; exact q3, by rw [eR _ _ n0]; exact q4, q5, by rw [eR _ _ n1]; exact q6, q7, q8, by rw [eR _ _ n0]; exact q9, q10, q11, by rw [eR _ _ n0]; exact q12, q13, q14, by rw [eR _ _ n0]; exact q15, q16, q17, fun k4 e he => ?_, fun k4 p hp => ?_⟩
    · by_cases c : i = j
      · subst c
        exact hE e he
      · rw [eR _ _ (nej i 5 hi (by have := l6 i; omega) c), ds i e he c]
        exact q18 k4 e he
    · obtain ⟨p1, p2, p3, p4⟩ := q19 k4 p hp
      refine ⟨p1, ?_, p3, p4⟩
      have : B i + 6 + 2 * p ≠ B j + 5 := by
        by_cases e : i = j
        · rw [e]; omega
        · have := nej i (6 + 2 * p) hi (by rw [lB4 k4]; omega) e
          omega
      rw [eR _ _ this]
      exact p2
  · unfold MR_
    rw [ek, ez]
    exact sm
  · rw [d.1] at hr
    rw [ez, d.2.2.1 r]
    exact z1 r hr
  · rw [d.2.1] at hi
    have : lB M' i = lB M i := by unfold lB; rw [d.2.2.2 i]
    rw [ez, this]
    exact z2 i hi
/-- fields that the class hasn't -/
theorem Pn_cg {M' : Msx} (P : Pn_ A B ow h M) (eI : ∀ g, g ≠ 29 → g ≠ 31 → g ≠ 32 → m_I M' g = m_I M g) (eJ : ∀ g, g ≠ 30 → g ≠ 33 → m_J M' g = m_J M g) : Pn_ A B ow h M' := by
  have dm : Dm_ M M' := ⟨by unfold nR; rw [eI 0 (by omega) (by omega) (by omega)], by unfold nD; rw [eI 10 (by omega) (by omega) (by omega)], fun r => by unfold sL; rw [eI 1 (by omega) (by omega) (by omega)], fun j => by unfold kD; rw [eI 11 (by omega) (by omega) (by omega)]⟩
  have d : Dn_ M M' := ⟨dm, fun j => by unfold rG; rw [eI 12 (by omega) (by omega) (by omega)], fun j => by unfold tG; rw [eI 17 (by omega) (by omega) (by omega)], fun j e => by unfold sG; rw [eI 66 (by omega) (by omega) (by omega)]⟩
  refine ⟨Ow_c P.1 d, Sh_c P.2.1 d rfl rfl rfl rfl, fun f i hok => ?_, fun f i hok => ?_⟩
  · have h2 := ok_dmI dm hok
    rw [eI f (fun z => by subst z; exact hok) (fun z => by subst z; exact hok) (fun z => by subst z; exact hok)]
    exact P.2.2.1 f i h2
  · have h2 := ok_dmJ dm hok
    rw [eJ f (fun z => by subst z; exact hok) (fun z => by subst z; exact hok)]
    exact P.2.2.2 f i h2
/-- the reader's numbers once its first entry is gone -/
def trM (j E : Nat) (M : Msx) : Msx := shN j E (n_I (rtM j (E + 1) M) 28 j (nI E))
theorem tr_o {j E g : Nat} (h1 : g ≠ 28) (h2 : g ≠ 29) (h3 : g ≠ 31) (h4 : g ≠ 32) (h5 : g ≠ 66) : m_I (trM j E M) g = m_I M g := by
  unfold trM
  rw [sh_o h2 h3 h4, n_I_o h1, rt_o h5]
theorem tr_Jo {j E g : Nat} (h1 : g ≠ 30) (h2 : g ≠ 33) : m_J (trM j E M) g = m_J M g := by
  unfold trM
  rw [sh_Jo h1 h2, nI_J, rt_J]
theorem tr_e {j E e g : Nat} (hg : g = 29 ∨ g = 31 ∨ g = 32) (he : e < E) : m_I (trM j E M) g (32 * j + e) = m_I M g (32 * j + (e + 1)) := by
  unfold trM
  rw [sh_I, if_pos (by omega), n_I_o (by omega), rt_o (by omega)]
  rfl
theorem tr_s {j E e : Nat} : m_I (trM j E M) 66 (32 * j + e) = if e < E then m_I M 66 (32 * j + (e + 1)) else if e = E then m_I M 66 (32 * j) else m_I M 66 (32 * j + e) := by
  unfold trM
  rw [sh_o (by omega) (by omega) (by omega), n_I_o (by omega), rt_I]
  by_cases c : e < E
  · rw [if_pos (by omega), if_pos c]
    rfl
  · rw [if_neg (by omega), if_neg c]
    by_cases d : e = E
    · rw [if_pos (by omega), if_pos d]
    · rw [if_neg (by omega), if_neg d]
theorem tr_sG {j E e : Nat} : sG (trM j E M) j e = if e < E then sG M j (e + 1) else if e = E then sG M j 0 else sG M j e := by
  unfold sG
  rw [tr_s]
  by_cases c : e < E
  · rw [if_pos c, if_pos c]
  · rw [if_neg c, if_neg c]
    by_cases d : e = E
    · rw [if_pos d, if_pos d]
      rfl
    · rw [if_neg d, if_neg d]
theorem tr_W (W : Wf_ n M) {j E : Nat} (hj : j < nD M) (h4 : kD M j = 4) (hE : eM M j = E + 1) : Wf_ n (trM j E M) := by
  have w := W.2.2.1 j hj
  obtain ⟨w28, w28a, -⟩ := w.2.2.2.2.2.2.2.2.2.2.2.1
  obtain ⟨e1, e2, e3, e4⟩ := w.2.2.2.2.2.2.2.2.2.2.2.2 h4
  have o : ∀ g, g ≠ 28 → g ≠ 29 → g ≠ 31 → g ≠ 32 → g ≠ 66 → m_I (trM j E M) g = m_I M g := fun g h1 h2 h3 h4 h5 => tr_o h1 h2 h3 h4 h5
  have r0 : ∀ g, g < 28 ∨ (33 ≤ g ∧ g < 66) → m_I (trM j E M) g = m_I M g := fun g hg => o g (by omega) (by omega) (by omega) (by omega) (by omega)
  have k28 : m_I (trM j E M) 28 j = nI E := by
    unfold trM
    rw [sh_o (by omega) (by omega) (by omega), nI_s]
  have kE : eM (trM j E M) j = E := by
    unfold eM
    rw [k28, cl_nI (by omega)]
  refine Wf_d W (Nat.le_refl n) (j := j) (fun g hg _ _ _ _ => r0 g (by omega)) (fun g hg p hp => ?_) (fun g hg i hi => by rw [r0 g (by omega)]) (fun i hi => by rw [r0 54 (by omega)]) (fun g hg i hi => ?_) (fun g hg i hi => ?_) (fun g hg i hi => ?_) ?_ (Nm_d (r0 10 (by omega)) (r0 16 (by omega)) (r0 15 (by omega)) W) (fun a1 a3 a4 k hk => absurd (show kD (trM j E M) j = 4 by unfold kD; rw [r0 11 (by omega)]; exact h4) a4)
  · by_cases c : g = 28
    · subst c
      unfold trM
      rw [sh_o (by omega) (by omega) (by omega), nI_n (by omega), rt_o (by omega)]
    · rw [r0 g (by omega)]
  · unfold trM
    rw [sh_I, if_neg (by omega), n_I_o (by omega), rt_I, if_neg (by omega), if_neg (by omega)]
  · unfold trM
    rw [sh_J, if_neg (by omega), if_neg (by omega), nI_J, rt_J]
  · unfold trM
    rw [sh_J, if_neg (by omega), if_neg (by omega), nI_J, rt_J]
  · obtain ⟨p1, p2, p3⟩ := pl_keep (M' := trM j E M) w W.1.2.1 (fun k hk => by rw [r0 13 (by omega)]) (fun q hq => by rw [r0 54 (by omega)]) (by rw [r0 55 (by omega)]) (fun q hq => by unfold cL; rw [r0 2 (by omega)]; exact Nat.le_refl _)
    refine Wd_x w (fun g hg => by rw [r0 g (by omega)]) (fun g hg k hk => by rw [r0 g (by omega)]) p1 p2 p3 ?_ ⟨by rw [kE, k28], by omega, fun z => absurd h4 z⟩ (fun _ => ⟨fun e he => ?_, fun a b ha hb q => ?_, fun e he => ?_, fun a b ha hb q => ?_⟩) (by unfold nR; rw [r0 0 (by omega)]; exact Nat.le_refl _) (by unfold nD; rw [r0 10 (by omega)]; exact Nat.le_refl _)
    · rw [r0 21 (by omega), r0 58 (by omega), r0 23 (by omega), r0 25 (by omega)]
      exact w.2.2.2.2.2.2.2.2.2.2.1
    · rw [tr_sG, tr_s]
      by_cases c : e < E
      · rw [if_pos c, if_pos c]
        exact e1 (e + 1) (by omega)
      · rw [if_neg c, if_neg c]
        by_cases d : e = E
        · rw [if_pos d, if_pos d]
          exact e1 0 (by omega)
        · rw [if_neg d, if_neg d]
          exact e1 e he
    · rw [tr_sG, tr_sG] at q
      by_cases c : a < E
      · rw [if_pos c] at q
        by_cases c' : b < E
        · rw [if_pos c'] at q
          have := e2 (a + 1) (b + 1) (by omega) (by omega) q
          omega
        · rw [if_neg c'] at q
          by_cases d' : b = E
          · rw [if_pos d'] at q
            have := e2 (a + 1) 0 (by omega) (by omega) q
            omega
          · rw [if_neg d'] at q
            have := e2 (a + 1) b (by omega) (by omega) q
            omega
      · rw [if_neg c] at q
        by_cases d : a = E
        · rw [if_pos d] at q
          by_cases c' : b < E
          · rw [if_pos c'] at q
            have := e2 0 (b + 1) (by omega) (by omega) q
            omega
          · rw [if_neg c'] at q
            by_cases d' : b = E
            · omega
            · rw [if_neg d'] at q
              have := e2 0 b (by omega) (by omega) q
              omega
        · rw [if_neg d] at q
          by_cases c' : b < E
          · rw [if_pos c'] at q
            have := e2 a (b + 1) (by omega) (by omega) q
            omega
          · rw [if_neg c'] at q
            by_cases d' : b = E
            · rw [if_pos d'] at q
              have := e2 a 0 (by omega) (by omega) q
              omega
            · rw [if_neg d'] at q
              exact e2 a b (by omega) (by omega) q
    · rw [kE] at he
      obtain ⟨v1, v2, v3, v4, v5, v6, v7, v8⟩ := e3 (e + 1) (by omega)
      rw [tr_sG, if_pos he, tr_e (by omega) he, tr_e (by omega) he, tr_e (by omega) he, r0 61 (by omega), r0 62 (by omega), r0 63 (by omega), r0 57 (by omega), r0 12 (by omega), tr_Jo (g := 64) (by omega) (by omega), tr_Jo (g := 65) (by omega) (by omega)]
      refine ⟨v1, v2, v3, ?_, fun i hi => ?_, v6, v7, v8⟩
      · unfold trM
        rw [sh_J, if_pos (by omega), nI_J, rt_J]
        exact v4
      · unfold trM
        rw [sh_J, if_neg (by omega), if_pos (by omega), nI_J, rt_J, show 8 * (32 * j + e) + i + 8 = 8 * (32 * j + (e + 1)) + i by omega]
        exact v5 i hi
    · rw [kE] at ha hb
      rw [tr_e (by omega) ha, tr_e (by omega) hb] at q
      have := e4 (a + 1) (b + 1) (by omega) (by omega) q
      omega
theorem takeEntry_c (C : Cn_ n A B ow h M) (a : Ag_ Mm M) {j : Nat} (hj : j < nD M) (hn : n ≤ 512) (h4 : kD M j = 4) (h0 : eM M j ≠ 0) (hg : gT M j < n) : ∃ h' Mm' M', f_X1_takeEntry h (B j) = some (h', 1) ∧ f_X4_takeEntry Mm (nI j) = some Mm' ∧ Ag_ Mm' M' ∧ Cn_ n A B ow h' M' ∧ nR M' = nR M ∧ nD M' = nD M ∧ m_I M' 34 = m_I M 34 ∧ (∀ i, i ≠ j → m_I M' 21 i = m_I M 21 i) ∧ m_I M' 2 = m_I M 2 ∧ m_I M' 11 = m_I M 11 := by
  have W := C.2.2.2.2
  have h16 : j < 16 := by have := W.1.2.2.2.1; omega
  have w := W.2.2.1 j hj
  obtain ⟨w28, w28a, -⟩ := w.2.2.2.2.2.2.2.2.2.2.2.1
  have we := w.2.2.2.2.2.2.2.2.2.2.2.2 h4
  obtain ⟨g1, -⟩ := gT_e W hj (show n ≤ 513 by omega)
  obtain ⟨r1, r2, r8, -⟩ := r0_c W hj
  obtain ⟨E, hE⟩ : ∃ E, eM M j = E + 1 := ⟨eM M j - 1, by omega⟩
  obtain ⟨s1, s2, s3, s4, s5, s6, s7, s8, s9, s10, s11, s12, s13, s14, s15, s16, s17, s18, s19⟩ := C.2.1.2.2.2.2.1 j hj
  rw [if_pos h4] at s17
  have hp := (we.1 0 (by omega)).2
  obtain ⟨v1, v2, v3, v4, v5, v6, ⟨y, hy, v7⟩, v8⟩ := we.2.2.1 0 (by omega)
  obtain ⟨b1, b2, b3, b4⟩ := s19 h4 _ hp
  have Wt := tr_W W hj h4 hE
  have o : ∀ g, g ≠ 28 → g ≠ 29 → g ≠ 31 → g ≠ 32 → g ≠ 66 → m_I (trM j E M) g = m_I M g := fun g h1 h2 h3 h4 h5 => tr_o h1 h2 h3 h4 h5
  have r0 : ∀ g, g < 28 ∨ (33 ≤ g ∧ g < 66) → m_I (trM j E M) g = m_I M g := fun g hg => o g (by omega) (by omega) (by omega) (by omega) (by omega)
  -- the turned cells
  have Ct : Cn_ n A B ow (s_R (s_I (shR (B j + 5) E h) (B j) 10 (nI E)) (B j + 5) E (some (B j + 6 + 2 * sG M j 0))) (trM j E M) := by
    have dm : Dm_ M (rtM j (E + 1) M) := ⟨by unfold nR; rw [rt_o (by omega)], by unfold nD; rw [rt_o (by omega)], fun r => by unfold sL; rw [rt_o (by omega)], fun i => by unfold kD; rw [rt_o (by omega)]⟩
    have P1 : Pn_ A B ow (s_R (shR (B j + 5) E h) (B j + 5) E (some (B j + 6 + 2 * sG M j 0))) (rtM j (E + 1) M) := by
      refine ⟨?_, ?_, ?_, ?_⟩
      · obtain ⟨o0, oA, oB, o8⟩ := C.1
        refine ⟨o0, fun r hr => ?_, fun i hi => ?_, by rw [dm.1]; exact o8⟩
        · rw [dm.1] at hr
          rw [dm.2.2.1 r]
          exact oA r hr
        · rw [dm.2.1] at hi
          have : lB (rtM j (E + 1) M) i = lB M i := by unfold lB; rw [dm.2.2.2 i]
          rw [this]
          exact oB i hi
      · refine Sh_R C.2.1 C.1 hj h4 rfl rfl rfl (fun b p hb => ?_) dm (fun i => by unfold rG; rw [rt_o (by omega)]) (fun i => by unfold tG; rw [rt_o (by omega)]) (fun i e he hij => ?_) (fun e he => ?_)
        · rw [sR_at, if_neg (by omega), shR_R, if_neg (by omega)]
        · unfold sG
          rw [rt_I, if_neg (by omega), if_neg (by omega)]
        · have es : sG (rtM j (E + 1) M) j e = if e < E then sG M j (e + 1) else if e = E then sG M j 0 else sG M j e := by
            unfold sG
            rw [rt_I]
            by_cases c : e < E
            · rw [if_pos (by omega), if_pos c]
              rfl
            · rw [if_neg (by omega), if_neg c]
              by_cases d : e = E
              · rw [if_pos (by omega), if_pos d]
                rfl
              · rw [if_neg (by omega), if_neg d]
          rw [es, sR_at, shR_R]
          by_cases d : e = E
          · rw [if_pos ⟨rfl, d⟩, if_neg (by omega), if_pos d]
          · rw [if_neg (fun z => d z.2)]
            by_cases c : e < E
            · rw [if_pos ⟨rfl, c⟩, if_pos c, s18 h4 (e + 1) (by omega)]
            · rw [if_neg (fun z => c z.2), if_neg c, if_neg d, s18 h4 e he]
      · intro f i hok
        have h2 := ok_dmI dm hok
        rw [rt_o (fun z => by subst z; exact hok)]
        exact C.2.2.1 f i h2
      · intro f i hok
        exact C.2.2.2.1 f i (ok_dmJ dm hok)
    have P2 := Pn_wI P1 (f := 28) (i := j) (show j < nD _ by rw [dm.2.1]; exact hj) (nI E) (by omega) (by omega) (by omega) (by omega) (by omega) (by omega) (by omega)
    have P3 : Pn_ A B ow (s_R (s_I (shR (B j + 5) E h) (B j) 10 (nI E)) (B j + 5) E (some (B j + 6 + 2 * sG M j 0))) (n_I (rtM j (E + 1) M) 28 j (nI E)) := P2
    exact Cn_of (Pn_cg P3 (fun g e1 e2 e3 => sh_o e1 e2 e3) (fun g e1 e2 => sh_Jo e1 e2)) Wt
  have hjt : j < nD (trM j E M) := by unfold nD; rw [r0 10 (by omega)]; exact hj
  have h4t : kD (trM j E M) j = 4 := by unfold kD; rw [r0 11 (by omega)]; exact h4
  have gt : gT (trM j E M) j = gT M j := by unfold gT; rw [r0 21 (by omega)]
  have e61 := rI_61 Ct hjt h4t hp
  have e62 := rI_62 Ct hjt h4t hp
  have e63 := rI_63 Ct hjt h4t hp
  have e57 := rI_57 Ct hjt h4t hp
  have e64 := rJ_64 Ct hjt h4t hp
  have e65 := fun i (hi : i < 8) => rJ_65 Ct hjt h4t hp hi
  rw [r0 61 (by omega), ← v1] at e61
  rw [r0 62 (by omega), ← v2] at e62
  rw [r0 63 (by omega), ← v3] at e63
  rw [r0 57 (by omega), v6] at e57
  rw [tr_Jo (g := 64) (by omega) (by omega), ← v4] at e64
  have kc := keep_c Ct (a := B j + 6 + 2 * sG M j 0) (wa := B j + 7 + 2 * sG M j 0) hjt (by omega) (by omega) b1 (by
    show h_R (s_R (s_I (shR (B j + 5) E h) (B j) 10 (nI E)) (B j + 5) E (some (B j + 6 + 2 * sG M j 0))) _ 0 = _
    rw [sR_at, if_neg (by omega), RsI, shR_R, if_neg (by omega)]
    exact b2) b3 b4
  rw [gt] at kc
  have P4 := kg_P (j := j) (a := B j + 6 + 2 * sG M j 0) (wa := B j + 7 + 2 * sG M j 0) (q := m_I M 29 (32 * j + 0)) (x := nI (gT M j + 1)) (w := fun i => m_J M 33 (8 * (32 * j + 0) + i)) (Pn_of Ct) hjt e57 e61 e64 e62 e63 (by omega) (fun i hi => by
    rw [e65 i hi, tr_Jo (g := 65) (by omega) (by omega)]
    exact (v5 i hi).symm)
  have W4 := kg_W Wt (j := j) (y := y) (q := m_I M 29 (32 * j + 0)) (v1 := m_I M 12 (4 * j)) (v5 := m_I M 32 (32 * j + 0)) (v3 := m_J M 30 (32 * j + 0)) (w := fun i => m_J M 33 (8 * (32 * j + 0) + i)) hjt v8 hy (by rw [gt]; exact hg) (by omega)
  rw [gt] at W4
  rw [v7] at P4
  refine ⟨_, shN j E (n_I (tkM j (m_I M 29 (32 * j + 0)) (m_I M 12 (4 * j)) (m_J M 30 (32 * j + 0)) (nI y) (m_I M 32 (32 * j + 0)) (nI (gT M j + 1)) (fun i => m_J M 33 (8 * (32 * j + 0) + i)) Mm) 28 j (nI E)), _, ?_, ?_, ?_, Cn_of P4 W4, ?_, ?_, ?_, ?_, ?_, ?_⟩
  · unfold f_X1_takeEntry
    rw [if_pos s1, rI_28 C hj, w28, if_neg (by rw [ltlit (n := 1) rfl (by omega)]; omega), s15]
    simp only [Option.bind_some, s16, if_true, s17]
    rw [if_pos (by rw [nI_leI (by omega) (by omega)]; omega), if_pos (show in_b (0 : Int32) 32 = true from in_nI (a := 0) (by omega) (by omega)), sb_cl0, s18 h4 0 (by omega)]
    have lp := te_loop (a := B j + 6 + 2 * sG M j 0) s1 rfl s15 s16 s17 b1 (E := E + 1) (by rw [rI_28 C hj, w28, hE]) (by omega) (fun e he => ⟨_, s18 h4 e he, (s19 h4 _ (we.1 e he).2).1⟩) E 0 70 (by omega) (by omega)
    rw [shR_0] at lp
    have lp' : l_X1_takeEntry_31 (B j) 70 h (some (B j + 6 + 2 * sG M j 0)) 1 = _ := lp
    rw [lp', show E + 1 - 1 = E by omega, kc]
    simp only [c_l_some]
    rw [if_pos (Or.inr trivial)]
  · unfold f_X4_takeEntry
    have x29 : m_I Mm 29 (32 * j) = m_I M 29 (32 * j + 0) := by rw [(a 29 (by omega)).1]; rfl
    have x30 : m_J Mm 30 (32 * j) = m_J M 30 (32 * j + 0) := by rw [(a 30 (by omega)).2]; rfl
    have x31 : m_I Mm 31 (32 * j) = nI y := by rw [← (a 31 (by omega)).1]; exact v7
    have x32 : m_I Mm 32 (32 * j) = m_I M 32 (32 * j + 0) := by rw [(a 32 (by omega)).1]; rfl
    have x12 : m_I Mm 12 (4 * j) = m_I M 12 (4 * j) := by rw [(a 12 (by omega)).1]
    have x21 : m_I Mm 21 j = nI (gT M j) := by rw [← (a 21 (by omega)).1]; exact g1
    have t32 : (32 : Int32) * nI j = nI (32 * j) := by rw [show (32 : Int32) = nI 32 from rfl, pk_mul]
    simp only [in_nI h16 (show 16 ≤ 65536 by omega), if_true, cl_nI (show j < 2 ^ 31 by omega), b_d_eq, four_j, t32, in_nI (show 4 * j < 64 by omega) (show 64 ≤ 65536 by omega), in_nI (show 32 * j < 512 by omega) (show 512 ≤ 65536 by omega), cl_nI (show 4 * j < 2 ^ 31 by omega), cl_nI (show 32 * j < 2 ^ 31 by omega), x21, nI_1]
    have y1 : m_I (n_I Mm 21 j (nI (gT M j + 1))) 12 (4 * j) = m_I M 12 (4 * j) := by rw [n_I_o (by omega), x12]
    rw [y1]
    have y2 : m_I (n_I (n_I Mm 21 j (nI (gT M j + 1))) 22 j (m_I M 12 (4 * j))) 29 (32 * j) = m_I M 29 (32 * j + 0) := by rw [n_I_o (by omega), n_I_o (by omega), x29]
    rw [y2]
    have y3 : m_J (n_I (n_I (n_I Mm 21 j (nI (gT M j + 1))) 22 j (m_I M 12 (4 * j))) 23 j (m_I M 29 (32 * j + 0))) 30 (32 * j) = m_J M 30 (32 * j + 0) := x30
    rw [y3]
    have y4 : m_I (n_J (n_I (n_I (n_I Mm 21 j (nI (gT M j + 1))) 22 j (m_I M 12 (4 * j))) 23 j (m_I M 29 (32 * j + 0))) 24 j (m_J M 30 (32 * j + 0))) 31 (32 * j) = nI y := by rw [nJ_I, n_I_o (by omega), n_I_o (by omega), n_I_o (by omega), x31]
    rw [y4]
    have y5 : m_I (n_I (n_J (n_I (n_I (n_I Mm 21 j (nI (gT M j + 1))) 22 j (m_I M 12 (4 * j))) 23 j (m_I M 29 (32 * j + 0))) 24 j (m_J M 30 (32 * j + 0))) 25 j (nI y)) 32 (32 * j) = m_I M 32 (32 * j + 0) := by rw [n_I_o (by omega), nJ_I, n_I_o (by omega), n_I_o (by omega), n_I_o (by omega), x32]
    rw [y5]
    have lp := w79 (j := j) (E := E) (M := n_I (n_I (n_J (n_I (n_I (n_I Mm 21 j (nI (gT M j + 1))) 22 j (m_I M 12 (4 * j))) 23 j (m_I M 29 (32 * j + 0))) 24 j (m_J M 30 (32 * j + 0))) 25 j (nI y)) 26 j (m_I M 32 (32 * j + 0))) h16 (by omega) (by rw [n_I_o (by omega), n_I_o (by omega), nJ_I, n_I_o (by omega), n_I_o (by omega), n_I_o (by omega), ← (a 28 (by omega)).1, w28, hE]) 8 0 70 (by omega) (by omega)
    rw [cpM] at lp
    refine Eq.trans lp ?_
    have e33 : (fun i => m_J (n_I (n_I (n_J (n_I (n_I (n_I Mm 21 j (nI (gT M j + 1))) 22 j (m_I M 12 (4 * j))) 23 j (m_I M 29 (32 * j + 0))) 24 j (m_J M 30 (32 * j + 0))) 25 j (nI y)) 26 j (m_I M 32 (32 * j + 0))) 33 (8 * (32 * j) + i)) = fun i => m_J M 33 (8 * (32 * j + 0) + i) := by
      rw [nI_J, nI_J, n_J_o (by omega), nI_J, nI_J, nI_J, ← (a 33 (by omega)).2]
      rfl
    rw [e33]
    rfl
  · rw [tk_28, tk_sh]
    exact tk_ag (sh_ag (ag_cI (rt_ag a)))
  · unfold nR
    rw [kg_o (by omega) (by omega) (by omega) (by omega) (by omega) (by omega), r0 0 (by omega)]
  · unfold nD
    rw [kg_o (by omega) (by omega) (by omega) (by omega) (by omega) (by omega), r0 10 (by omega)]
  · rw [kg_o (by omega) (by omega) (by omega) (by omega) (by omega) (by omega), r0 34 (by omega)]
  · intro i hi
    rw [kg_n hi, r0 21 (by omega)]
  · rw [kg_o (by omega) (by omega) (by omega) (by omega) (by omega) (by omega), r0 2 (by omega)]
  · rw [kg_o (by omega) (by omega) (by omega) (by omega) (by omega) (by omega), r0 11 (by omega)]
end TE
