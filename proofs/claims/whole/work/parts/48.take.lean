/-! taking a message, stepping on, missing -/
theorem find4 {M : Msx} {t : Nat} (h1 : 1 ≤ t) (h6 : t ≤ 6) : f_X4_find M (nI t) = some (n_I (n_I M 38 0 (nI t)) 38 t (m_I M 38 t + 1), -12) := by
  unfold f_X4_find
  rw [if_pos (by decide)]
  simp only [b_d_eq, in_nI (show t < 7 by omega) (show 7 ≤ 65536 by omega), if_true, cl_nI (show t < 2 ^ 31 by omega), sb_cl0]
  rw [nI_n (by omega)]
theorem cpM_nI {f b0 g i : Nat} {v : Nat → Int64} {M : Msx} {x : Int32} : ∀ m, n_I (cpM f b0 v m M) g i x = cpM f b0 v m (n_I M g i x)
  | 0 => rfl
  | m + 1 => by
    rw [cpM, cpM, ← cpM_nI m]
    rfl
section TK
variable {n : Nat} {A B ow : Nat → Nat} {h : Hpx} {M Mm : Msx}
theorem find_a (C : Cn_ n A B ow h M) (a : Ag_ Mm M) {t : Nat} (h1 : 1 ≤ t) (h6 : t ≤ 6) : ∃ h' Mm' M', f_X3_finding h 0 (nI t) = some (h', -12) ∧ f_X4_find Mm (nI t) = some (Mm', -12) ∧ Ag_ Mm' M' ∧ Cn_ n A B ow h' M' ∧ M' = n_I (n_I M 38 0 (nI t)) 38 t (m_I M 38 t + 1) := by
  obtain ⟨h', M', e1, e2, C', -⟩ := find_c C h1 h6
  rw [find4 h1 h6] at e2
  have e3 := (Prod.mk.inj (Option.some.inj e2)).1
  refine ⟨h', _, M', e1, find4 h1 h6, ?_, C', e3.symm⟩
  rw [← e3, ← (a 38 (by omega)).1]
  exact ag_cI (ag_cI a)
/-- how often a reader got -/
def gT (M : Msx) (j : Nat) : Nat := (m_I M 21 j).toNatClampNeg
/-- what is kept of a message: its number, its fields, its words -/
def kgM (j : Nat) (q v1 v2 : Int32) (v3 : Int64) (v4 v5 g : Int32) (w : Nat → Int64) (M : Msx) : Msx := n_I (cpM 27 (8 * j) w 8 (n_I (n_I (n_J (n_I (n_I (n_I M 23 j q) 22 j v1) 58 j v2) 24 j v3) 25 j v4) 26 j v5)) 21 j g
theorem kg_I {j : Nat} {q v1 v2 : Int32} {v3 : Int64} {v4 v5 x : Int32} {w : Nat → Int64} (g p : Nat) : m_I (kgM j q v1 v2 v3 v4 v5 x w M) g p = if g = 21 ∧ p = j then x else if g = 26 ∧ p = j then v5 else if g = 25 ∧ p = j then v4 else if g = 58 ∧ p = j then v2 else if g = 22 ∧ p = j then v1 else if g = 23 ∧ p = j then q else m_I M g p := by
  unfold kgM
  rw [nI_at, cpM_I, nI_at, nI_at, nJ_I, nI_at, nI_at, nI_at]
theorem kg_o {j : Nat} {q v1 v2 : Int32} {v3 : Int64} {v4 v5 x : Int32} {w : Nat → Int64} {g : Nat} (h1 : g ≠ 21) (h2 : g ≠ 22) (h3 : g ≠ 23) (h5 : g ≠ 25) (h6 : g ≠ 26) (h8 : g ≠ 58) : m_I (kgM j q v1 v2 v3 v4 v5 x w M) g = m_I M g := by
  funext p
  rw [kg_I, if_neg (by omega), if_neg (by omega), if_neg (by omega), if_neg (by omega), if_neg (by omega), if_neg (by omega)]
theorem kg_n {j : Nat} {q v1 v2 : Int32} {v3 : Int64} {v4 v5 x : Int32} {w : Nat → Int64} {g p : Nat} (hp : p ≠ j) : m_I (kgM j q v1 v2 v3 v4 v5 x w M) g p = m_I M g p := by
  rw [kg_I, if_neg (by omega), if_neg (by omega), if_neg (by omega), if_neg (by omega), if_neg (by omega), if_neg (by omega)]
theorem kg_J {j : Nat} {q v1 v2 : Int32} {v3 : Int64} {v4 v5 x : Int32} {w : Nat → Int64} {g : Nat} (h1 : g ≠ 24) (h2 : g ≠ 27) : m_J (kgM j q v1 v2 v3 v4 v5 x w M) g = m_J M g := by
  unfold kgM
  rw [nI_J, cpM_o h2, nI_J, nI_J, n_J_o h1, nI_J, nI_J, nI_J]
/-- the reference's way -/
def tkM (j : Nat) (q v1 : Int32) (v3 : Int64) (v4 v5 g : Int32) (w : Nat → Int64) (M : Msx) : Msx := cpM 27 (8 * j) w 8 (n_I (n_I (n_J (n_I (n_I (n_I M 21 j g) 22 j v1) 23 j q) 24 j v3) 25 j v4) 26 j v5)
theorem tk_I {j : Nat} {q v1 : Int32} {v3 : Int64} {v4 v5 x : Int32} {w : Nat → Int64} (g p : Nat) : m_I (tkM j q v1 v3 v4 v5 x w M) g p = if g = 26 ∧ p = j then v5 else if g = 25 ∧ p = j then v4 else if g = 23 ∧ p = j then q else if g = 22 ∧ p = j then v1 else if g = 21 ∧ p = j then x else m_I M g p := by
  unfold tkM
  rw [cpM_I, nI_at, nI_at, nJ_I, nI_at, nI_at, nI_at]
theorem tk_ag {j : Nat} {q v1 v2 : Int32} {v3 : Int64} {v4 v5 x : Int32} {w : Nat → Int64} (a : Ag_ Mm M) : Ag_ (tkM j q v1 v3 v4 v5 x w Mm) (kgM j q v1 v2 v3 v4 v5 x w M) := by
  have hI : ∀ g, g < 42 ∨ g = 99 → m_I (kgM j q v1 v2 v3 v4 v5 x w M) g = m_I (tkM j q v1 v3 v4 v5 x w Mm) g := fun g hg => by
    funext p
    rw [kg_I, tk_I, (a g hg).1]
    by_cases c : p = j
    · by_cases c1 : g = 21
      · rw [if_pos ⟨c1, c⟩, if_neg (by omega), if_neg (by omega), if_neg (by omega), if_neg (by omega), if_pos ⟨c1, c⟩]
      have n1 : ¬ (g = 21 ∧ p = j) := by omega
      rw [if_neg n1, if_neg n1]
      by_cases c2 : g = 26
      · rw [if_pos ⟨c2, c⟩, if_pos ⟨c2, c⟩]
      have n2 : ¬ (g = 26 ∧ p = j) := by omega
      rw [if_neg n2, if_neg n2]
      by_cases c3 : g = 25
      · rw [if_pos ⟨c3, c⟩, if_pos ⟨c3, c⟩]
      have n3 : ¬ (g = 25 ∧ p = j) := by omega
      rw [if_neg n3, if_neg n3, if_neg (show ¬ (g = 58 ∧ p = j) by omega)]
      by_cases c4 : g = 22
      · rw [if_pos ⟨c4, c⟩, if_neg (show ¬ (g = 23 ∧ p = j) by omega), if_pos ⟨c4, c⟩]
      have n4 : ¬ (g = 22 ∧ p = j) := by omega
      rw [if_neg n4, if_neg n4]
    · rw [if_neg (by omega), if_neg (by omega), if_neg (by omega), if_neg (by omega), if_neg (by omega), if_neg (by omega), if_neg (by omega), if_neg (by omega), if_neg (by omega), if_neg (by omega), if_neg (by omega)]
  intro g hg
  refine ⟨hI g hg, ?_⟩
  have b : Ag_ (cpM 27 (8 * j) w 8 (n_J Mm 24 j v3)) (cpM 27 (8 * j) w 8 (n_J M 24 j v3)) := cpM_ag (ag_cJ a) 8
  have e1 : m_J (kgM j q v1 v2 v3 v4 v5 x w M) = m_J (cpM 27 (8 * j) w 8 (n_J M 24 j v3)) := by
    unfold kgM
    rw [← cpM_nI, ← cpM_nI]
    show m_J (cpM 27 (8 * j) w 8 (n_I (n_I (n_I (n_J M 24 j v3) 23 j q) 22 j v1) 58 j v2)) = _
    rw [← cpM_nI, ← cpM_nI, ← cpM_nI]
    rfl
  have e2 : m_J (tkM j q v1 v3 v4 v5 x w Mm) = m_J (cpM 27 (8 * j) w 8 (n_J Mm 24 j v3)) := by
    unfold tkM
    rw [← cpM_nI, ← cpM_nI]
    show m_J (cpM 27 (8 * j) w 8 (n_I (n_I (n_I (n_J Mm 24 j v3) 21 j x) 22 j v1) 23 j q)) = _
    rw [← cpM_nI, ← cpM_nI, ← cpM_nI]
    rfl
  rw [e1, e2]
  exact (b g hg).2
theorem okJ27 {j i : Nat} (hj : j < nD M) (hi : i < 8) : okJ M 27 (8 * j + i) ∧ adJ A B 27 (8 * j + i) = B j + 2 ∧ plJ 27 (8 * j + i) = i := by
  have e1 : (8 * j + i) / 8 = j := by omega
  have e2 : (8 * j + i) % 8 = i := by omega
  refine ⟨by show _ / 8 < _; rw [e1]; exact hj, ?_, ?_⟩
  · simp only [adJ, e1]
  · simp only [plJ, e2]
/-- the class's side: cell a's message is kept, words at wa -/
theorem kg_P {j a wa : Nat} {q v1 v2 v4 v5 x : Int32} {v3 : Int64} {w : Nat → Int64} (P : Pn_ A B ow h M) (hj : j < nD M) (f1 : h_I h a 1 = v1) (f2 : h_I h a 2 = v2) (f3 : h_J h a 3 = v3) (f4 : h_I h a 4 = v4) (f5 : h_I h a 5 = v5) (hw : wa ≠ B j + 1) (f6 : ∀ i, i < 8 → h_J h wa i = w i) : Pn_ A B ow (s_I (bcH h (B j + 1) a (B j + 2) wa) (B j) 11 x) (kgM j q v1 v2 v3 v4 v5 x w M) := by
  unfold bcH kgM
  rw [f1, f2, f3, f4, f5]
  have P0 := Pn_mI P (f := 23) (i := j) (x := q) (fun z => z) (by omega) (by omega) (by omega) (by omega) (by omega) (by omega) (by omega)
  have d0 : Dm_ M (n_I M 23 j q) := Dm_I (by omega) (by omega) (by omega) (by omega)
  have P1 := Pn_wI P0 (f := 22) (i := j) (show j < nD _ by rw [d0.2.1]; exact hj) v1 (by omega) (by omega) (by omega) (by omega) (by omega) (by omega) (by omega)
  have d1 := Dm_tr d0 (Dm_I (f := 22) (i := j) (x := v1) (by omega) (by omega) (by omega) (by omega))
  have P2 := Pn_wI P1 (f := 58) (i := j) (show j < nD _ by rw [d1.2.1]; exact hj) v2 (by omega) (by omega) (by omega) (by omega) (by omega) (by omega) (by omega)
  have d2 := Dm_tr d1 (Dm_I (f := 58) (i := j) (x := v2) (by omega) (by omega) (by omega) (by omega))
  have P3 := Pn_wJ P2 (f := 24) (i := j) (show j < nD _ by rw [d2.2.1]; exact hj) v3
  have d3 := Dm_tr d2 (Dm_J (f := 24) (i := j) (x := v3))
  have P4 := Pn_wI P3 (f := 25) (i := j) (show j < nD _ by rw [d3.2.1]; exact hj) v4 (by omega) (by omega) (by omega) (by omega) (by omega) (by omega) (by omega)
  have d4 := Dm_tr d3 (Dm_I (f := 25) (i := j) (x := v4) (by omega) (by omega) (by omega) (by omega))
  have P5 := Pn_wI P4 (f := 26) (i := j) (show j < nD _ by rw [d4.2.1]; exact hj) v5 (by omega) (by omega) (by omega) (by omega) (by omega) (by omega) (by omega)
  have d5 := Dm_tr d4 (Dm_I (f := 26) (i := j) (x := v5) (by omega) (by omega) (by omega) (by omega))
  have P6 := Pn_cp (a := wa) (b := B j + 2) (sp := 0) (f := 27) (b0 := 8 * j) (m := 8) (v := w) P5 (Nat.le_refl 8) (fun i hi => okJ27 (by rw [d5.2.1]; exact hj) hi) (fun i hi => by
    rw [Nat.zero_add]
    show h_J (s_J (s_I (s_I h (B j + 1) 1 v1) (B j + 1) 2 v2) (B j + 1) 3 v3) wa i = _
    rw [sJ_n (fun z => hw z.1), JsI, JsI]
    exact f6 i hi) 8 (Nat.le_refl 8)
  have d6 := Dm_tr d5 (Dm_cp (f := 27) (b0 := 8 * j) (v := w) (m := 8))
  exact Pn_wI P6 (f := 21) (i := j) (show j < nD _ by rw [d6.2.1]; exact hj) x (by omega) (by omega) (by omega) (by omega) (by omega) (by omega) (by omega)
theorem kg_W (W : Wf_ n M) {j y : Nat} {q v1 v5 : Int32} {v3 : Int64} {w : Nat → Int64} (hj : j < nD M) (hq : ¬ q < 0) (hy : y < 32) (hg : gT M j < n) (hn : n ≤ 513) : Wf_ n (kgM j q v1 q v3 (nI y) v5 (nI (gT M j + 1)) w M) := by
  have w0 := W.2.2.1 j hj
  have o : ∀ g, g ≠ 21 → g ≠ 22 → g ≠ 23 → g ≠ 25 → g ≠ 26 → g ≠ 58 → m_I (kgM j q v1 q v3 (nI y) v5 (nI (gT M j + 1)) w M) g = m_I M g := fun g h1 h2 h3 h4 h5 h6 => kg_o h1 h2 h3 h4 h5 h6
  have r0 : ∀ g, g < 21 ∨ (28 ≤ g ∧ g < 58) ∨ 58 < g → m_I (kgM j q v1 q v3 (nI y) v5 (nI (gT M j + 1)) w M) g = m_I M g := fun g hg => o g (by omega) (by omega) (by omega) (by omega) (by omega) (by omega)
  have hH : ∀ k, kD M j ≠ 1 → kD M j ≠ 3 → kD M j ≠ 4 → k < rM M j → cL M (rG M j k) ≤ pL M j k + sL M (rG M j k) := fun k a1 a3 a4 hk => W.2.2.2.2.2 j hj a1 a3 a4 k hk
  refine Wf_d W (Nat.le_refl n) (j := j) (fun g hg _ _ _ _ => r0 g (by omega)) (fun g hg p hp => kg_n hp) (fun g hg i hi => by rw [r0 g (by omega)]) (fun i hi => by rw [r0 54 (by omega)]) (fun g hg i hi => by rw [r0 g (by omega)]) (fun g hg i hi => by rw [kg_J (by omega) (by omega)]) (fun g hg i hi => by rw [kg_J (by omega) (by omega)]) ?_ (Nm_d (r0 10 (by omega)) (r0 16 (by omega)) (r0 15 (by omega)) W) (fun a1 a3 a4 k hk => ?_)
  · obtain ⟨p1, p2, p3⟩ := pl_keep (M' := kgM j q v1 q v3 (nI y) v5 (nI (gT M j + 1)) w M) w0 W.1.2.1 (fun k hk => by rw [r0 13 (by omega)]) (fun q hq => by rw [r0 54 (by omega)]) (by rw [r0 55 (by omega)]) (fun q hq => by unfold cL; rw [r0 2 (by omega)]; exact Nat.le_refl _)
    refine Wd_x w0 (fun g hg => by rw [r0 g (by omega)]) (fun g hg k hk => by rw [r0 g (by omega)]) p1 p2 p3 ⟨⟨gT M j + 1, by omega, ?_, fun z => absurd z (by omega), fun _ => ⟨?_, ?_⟩⟩, y, hy, ?_⟩ ?_ (fun a => ?_) (by unfold nR; rw [r0 0 (by omega)]; exact Nat.le_refl _) (by unfold nD; rw [r0 10 (by omega)]; exact Nat.le_refl _)
    · rw [kg_I, if_pos ⟨rfl, rfl⟩]
    · rw [kg_I, kg_I, if_neg (by omega), if_neg (by omega), if_neg (by omega), if_pos ⟨rfl, rfl⟩, if_neg (by omega), if_neg (by omega), if_neg (by omega), if_neg (by omega), if_neg (by omega), if_pos ⟨rfl, rfl⟩]
    · rw [kg_I, if_neg (by omega), if_neg (by omega), if_neg (by omega), if_neg (by omega), if_neg (by omega), if_pos ⟨rfl, rfl⟩]
      exact hq
    · rw [kg_I, if_neg (by omega), if_neg (by omega), if_pos ⟨rfl, rfl⟩]
    · have e : eM (kgM j q v1 q v3 (nI y) v5 (nI (gT M j + 1)) w M) j = eM M j := by unfold eM; rw [r0 28 (by omega)]
      rw [e, r0 28 (by omega)]
      exact w0.2.2.2.2.2.2.2.2.2.2.2.1
    · exact We_c (w0.2.2.2.2.2.2.2.2.2.2.2.2 a) (by rw [r0 28 (by omega)]) w0.2.2.2.2.2.2.2.2.2.2.2.1.2.1 (by rw [r0 12 (by omega)]) (fun g hg k hk => by rw [r0 g (by omega)]) (fun g hg k hk => by rw [kg_J (by omega) (by omega)]) (fun g hg k hk i hi => by rw [kg_J (by omega) (by omega)])
  · unfold kD at a1 a3 a4
    unfold rM at hk
    unfold rG pL
    rw [r0 11 (by omega)] at a1 a3 a4
    rw [r0 14 (by omega)] at hk
    rw [r0 12 (by omega), r0 13 (by omega)]
    exact hH k a1 a3 a4 hk
theorem gT_e (W : Wf_ n M) {j : Nat} (hj : j < nD M) (hn : n ≤ 513) : m_I M 21 j = nI (gT M j) ∧ gT M j ≤ n := by
  obtain ⟨y, hy, e, -⟩ := (W.2.2.1 j hj).2.2.2.2.2.2.2.2.2.2.1.1
  unfold gT
  rw [e, cl_nI (by omega)]
  exact ⟨rfl, hy⟩
/-- keeping a message from any cell -/
theorem keep_c (C : Cn_ n A B ow h M) {j a wa : Nat} (hj : j < nD M) (hn : n ≤ 513) (hab : a ≠ B j + 1) (k1 : h_k h a = 1) (ra : h_R h a 0 = some wa) (k7 : h_k h wa = 7) (n7 : h_n h wa = 8) : f_X1_keep h (B j) (some a) = some (s_I (bcH h (B j + 1) a (B j + 2) wa) (B j) 11 (nI (gT M j + 1)), 1) := by
  obtain ⟨s1, s2, s3, s4, s5, s6, s7, s8, -⟩ := C.2.1.2.2.2.2.1 j hj
  obtain ⟨g1, -⟩ := gT_e C.2.2.2.2 hj hn
  unfold f_X1_keep
  rw [if_neg (by simp), if_pos s1, s4]
  simp only [Option.bind_some, s5, if_true, become_c hab s5 k1 s6 ra s7 k7 s8 n7, bc_k, s1, b_d_eq]
  rw [bc_I (by omega), rI_21 C hj, g1, nI_1]
theorem take_8 {t j : Nat} {M : Msx} (ht : t < 512) (hj : j < 16) : ∀ (k i fuel : Nat), i + k = 8 → k < fuel → l_X4_take_74 fuel (cpM 27 (8 * j) (fun i => m_J M 9 (8 * t + i)) i M) (nI j) (nI t) (nI i) = some (cpM 27 (8 * j) (fun i => m_J M 9 (8 * t + i)) 8 M) := by
  intro k
  induction k with
  | zero =>
    intro i fuel hi hf
    obtain ⟨f, rfl⟩ : ∃ f, fuel = f + 1 := ⟨fuel - 1, by omega⟩
    rw [u_X4_take_74]
    unfold j_X4_take_74
    rw [if_pos (by rw [litle (n := 8) rfl (by omega)]; omega), show i = 8 by omega]
  | succ k ih =>
    intro i fuel hi hf
    obtain ⟨f, rfl⟩ : ∃ f, fuel = f + 1 := ⟨fuel - 1, by omega⟩
    rw [u_X4_take_74]
    unfold j_X4_take_74
    simp only [eight_t, b_d_eq, nI_1]
    rw [if_neg (by rw [litle (n := 8) rfl (by omega)]; omega), if_pos (in_nI (by omega) (by omega)), if_pos (in_nI (by omega) (by omega)), cl_nI (by omega), cl_nI (by omega), cpM_o (by omega)]
    have := ih (i + 1) f (by omega) (by omega)
    rw [cpM] at this
    exact this
theorem take4 (W : Wf_ n M) (a : Ag_ Mm M) {r q j : Nat} (hr : r < nR M) (hq : q < 2 ^ 30) (hj : j < nD M) (hn : n ≤ 513) : f_X4_take Mm (nI j) (nI r) (nI q) = some (tkM j (nI q) (nI r) (m_J M 6 (64 * r + q % sL M r)) (m_I M 7 (64 * r + q % sL M r)) (m_I M 8 (64 * r + q % sL M r)) (nI (gT M j + 1)) (fun i => m_J M 9 (8 * (64 * r + q % sL M r) + i)) Mm) := by
  have h8 : r < 8 := by have := W.1.2.1; omega
  have h16 : j < 16 := by have := W.1.2.2.2.1; omega
  have hm := sl_mod (q := q) (W.2.1 r hr)
  obtain ⟨g1, -⟩ := gT_e W hj hn
  unfold f_X4_take
  rw [← g_f_X4_slot a, slot_nI W hr hq]
  simp only [Option.bind_some, in_nI h16 (show 16 ≤ 65536 by omega), in_nI (show 64 * r + q % sL M r < 512 by omega) (show 512 ≤ 65536 by omega), if_true, cl_nI (show j < 2 ^ 31 by omega), cl_nI (show 64 * r + q % sL M r < 2 ^ 31 by omega), b_d_eq, ← (a 21 (by omega)).1, g1, nI_1]
  rw [(a 6 (by omega)).2, (a 7 (by omega)).1, (a 8 (by omega)).1, show (fun i => m_J M 9 (8 * (64 * r + q % sL M r) + i)) = (fun i => m_J Mm 9 (8 * (64 * r + q % sL M r) + i)) by rw [(a 9 (by omega)).2]]
  have ht5 : 64 * r + q % sL M r < 512 := by omega
  generalize 64 * r + q % sL M r = t at *
  have x1 : m_J (n_I (n_I (n_I Mm 21 j (nI (gT M j + 1))) 22 j (nI r)) 23 j (nI q)) 6 t = m_J Mm 6 t := rfl
  have x2 : m_I (n_J (n_I (n_I (n_I Mm 21 j (nI (gT M j + 1))) 22 j (nI r)) 23 j (nI q)) 24 j (m_J Mm 6 t)) 7 t = m_I Mm 7 t := by rw [nJ_I, n_I_o (by omega), n_I_o (by omega), n_I_o (by omega)]
  have x3 : m_I (n_I (n_J (n_I (n_I (n_I Mm 21 j (nI (gT M j + 1))) 22 j (nI r)) 23 j (nI q)) 24 j (m_J Mm 6 t)) 25 j (m_I Mm 7 t)) 8 t = m_I Mm 8 t := by rw [n_I_o (by omega), nJ_I, n_I_o (by omega), n_I_o (by omega), n_I_o (by omega)]
  rw [x1, x2, x3]
  have lp := take_8 (t := t) (j := j) (M := n_I (n_I (n_J (n_I (n_I (n_I Mm 21 j (nI (gT M j + 1))) 22 j (nI r)) 23 j (nI q)) 24 j (m_J Mm 6 t)) 25 j (m_I Mm 7 t)) 26 j (m_I Mm 8 t)) (by omega) h16 8 0 70 (by omega) (by omega)
  rw [cpM] at lp
  rw [show (0 : Int32) = nI 0 from rfl, lp]
  unfold tkM
  rw [cpM_v 8 (w := fun i => m_J Mm 9 (8 * t + i))]
  intro i hi
  show m_J (n_I (n_I (n_J (n_I (n_I (n_I Mm 21 j (nI (gT M j + 1))) 22 j (nI r)) 23 j (nI q)) 24 j (m_J Mm 6 t)) 25 j (m_I Mm 7 t)) 26 j (m_I Mm 8 t)) 9 (8 * t + i) = _
  rw [nI_J, nI_J, n_J_o (by omega), nI_J, nI_J, nI_J]
/-- what a read leaves alone -/
def Lv_ (j : Nat) (M M' : Msx) : Prop := (∀ g, g ≠ 13 → g ≠ 18 → g ≠ 19 → g ≠ 20 → g ≠ 21 → g ≠ 22 → g ≠ 23 → g ≠ 25 → g ≠ 26 → g ≠ 54 → g ≠ 58 → m_I M' g = m_I M g) ∧ (∀ g, g ≠ 24 → g ≠ 27 → m_J M' g = m_J M g) ∧ (∀ g i, i ≠ j → g = 21 → m_I M' g i = m_I M g i)
theorem Lv_rf {j : Nat} : Lv_ j M M := ⟨fun _ _ _ _ _ _ _ _ _ _ _ _ => rfl, fun _ _ _ => rfl, fun _ _ _ _ => rfl⟩
theorem Lv_tr {j : Nat} {M1 M2 M3 : Msx} (a : Lv_ j M1 M2) (b : Lv_ j M2 M3) : Lv_ j M1 M3 := ⟨fun g g1 g2 g3 g4 g5 g6 g7 g8 g9 g10 g11 => (b.1 g g1 g2 g3 g4 g5 g6 g7 g8 g9 g10 g11).trans (a.1 g g1 g2 g3 g4 g5 g6 g7 g8 g9 g10 g11), fun g g1 g2 => (b.2.1 g g1 g2).trans (a.2.1 g g1 g2), fun g i hi hg => (b.2.2 g i hi hg).trans (a.2.2 g i hi hg)⟩
theorem Lv_kg {j : Nat} {q v1 v2 : Int32} {v3 : Int64} {v4 v5 x : Int32} {w : Nat → Int64} : Lv_ j M (kgM j q v1 v2 v3 v4 v5 x w M) := ⟨fun g g1 g2 g3 g4 g5 g6 g7 g8 g9 g10 g11 => kg_o g5 g6 g7 g8 g9 g11, fun g g1 g2 => kg_J g1 g2, fun g i hi hg => kg_n hi⟩
/-- a message of a ring is kept -/
theorem got_c (C : Cn_ n A B ow h M) (a : Ag_ Mm M) {r q j : Nat} (hr : r < nR M) (hk : kp M r q = true) (hj : j < nD M) (hn : n ≤ 513) (hg : gT M j < n) : ∃ h' Mm' M', f_X1_keep h (B j) (some (A r + 2 + 2 * (q % sL M r))) = some (h', 1) ∧ f_X4_take Mm (nI j) (nI r) (nI q) = some Mm' ∧ Ag_ Mm' M' ∧ Cn_ n A B ow h' M' ∧ Lv_ j M M' ∧ m_I M' 13 = m_I M 13 ∧ m_I M' 54 = m_I M 54 ∧ gT M' j = gT M j + 1 := by
  have W := C.2.2.2.2
  unfold kp at hk
  rw [decide_eq_true_eq] at hk
  have hc := (W.2.1 r hr).2.2.2.1
  have hm := sl_mod (q := q) (W.2.1 r hr)
  obtain ⟨x1, x2, x3, x4, x5, x6, x7, x8, x9, x10, x11, x12⟩ := slot_r C hr hk.2.1 hk.2.2
  obtain ⟨y, hy, ey⟩ := ((W.2.1 r hr).2.2.2.2.2.2.1 _ hm.1).2.2.2.2
  have l6 : 6 ≤ lB M j := by unfold lB; split <;> omega
  have ne1 : A r + 2 + 2 * (q % sL M r) ≠ B j + 1 := by
    have := own_ne C.1 (x := 2 + 2 * (q % sL M r)) (y := 1) hr hj (by omega) (by omega)
    omega
  have ne2 : A r + 3 + 2 * (q % sL M r) ≠ B j + 1 := by
    have := own_ne C.1 (x := 3 + 2 * (q % sL M r)) (y := 1) hr hj (by omega) (by omega)
    omega
  refine ⟨_, _, _, keep_c C hj hn ne1 x3 x4 x5 x6, take4 W a hr (by omega) hj hn, tk_ag (v2 := nI q) a, ?_, Lv_kg, kg_o (by omega) (by omega) (by omega) (by omega) (by omega) (by omega), kg_o (by omega) (by omega) (by omega) (by omega) (by omega) (by omega), ?_⟩
  · refine Cn_of (kg_P (Pn_of C) hj (x7.trans x1) (x8.trans x2) x9 x10 x11 ne2 x12) ?_
    rw [ey]
    exact kg_W W hj (nI_pos (by omega)) hy hg hn
  · unfold gT
    rw [kg_I, if_pos ⟨rfl, rfl⟩, cl_nI (by unfold gT at hg; omega)]
/-- a step on in a ring -/
def stM (j k r p : Nat) (M : Msx) : Msx := n_I (n_I M 13 (4 * j + k) (nI p)) 54 (8 * j + r) (nI p)
theorem st_o {j k r p g : Nat} (h1 : g ≠ 13) (h2 : g ≠ 54) : m_I (stM j k r p M) g = m_I M g := by
  unfold stM
  rw [n_I_o h2, n_I_o h1]
theorem st_W (W : Wf_ n M) {j k p : Nat} (hj : j < nD M) (hn : n ≤ 513) (a1 : kD M j ≠ 1) (a4 : kD M j ≠ 4) (hk : k < rM M j) (hp : pL M j k ≤ p) (hp2 : p ≤ cL M (rG M j k)) : Wf_ n (stM j k (rG M j k) p M) := by
  have w0 := W.2.2.1 j hj
  obtain ⟨w1, w2, w3, w4, w5, w6, -⟩ := id w0
  obtain ⟨g1, g2, g3, g4⟩ := w3 k hk
  have h8 := W.1.2.1
  have hcl := (W.2.1 _ g2).2.2.2.1
  have o : ∀ g, g ≠ 13 → g ≠ 54 → m_I (stM j k (rG M j k) p M) g = m_I M g := fun g h1 h2 => st_o h1 h2
  have e13 : ∀ k', m_I (stM j k (rG M j k) p M) 13 (4 * j + k') = if k' = k then nI p else m_I M 13 (4 * j + k') := fun k' => by
    unfold stM
    rw [n_I_o (by omega), nI_at]
    by_cases c : k' = k
    · rw [if_pos (by omega), if_pos c]
    · rw [if_neg (by omega), if_neg c]
  have e54 : ∀ q, m_I (stM j k (rG M j k) p M) 54 (8 * j + q) = if q = rG M j k then nI p else m_I M 54 (8 * j + q) := fun q => by
    unfold stM
    rw [nI_at, n_I_o (by omega)]
    by_cases c : q = rG M j k
    · rw [if_pos (by omega), if_pos c]
    · rw [if_neg (by omega), if_neg c]
  have epl : ∀ k', pL (stM j k (rG M j k) p M) j k' = if k' = k then p else pL M j k' := fun k' => by
    unfold pL
    rw [e13]
    split
    · rw [cl_nI (by omega)]
    · rfl
  refine Wf_d W (Nat.le_refl n) (j := j) (fun g hg _ _ _ _ => o g (by omega) (by omega)) (fun g hg p hp => by rw [o g (by omega) (by omega)]) (fun g hg i hi => ?_) (fun i hi => ?_) (fun g hg i hi => by rw [o g (by omega) (by omega)]) (fun g hg i hi => rfl) (fun g hg i hi => rfl) ?_ (Nm_d (o 10 (by omega) (by omega)) (o 16 (by omega) (by omega)) (o 15 (by omega) (by omega)) W) (fun b1 b3 b4 k' hk' => ?_)
  · unfold stM
    rw [n_I_o (by omega), nI_n (by omega)]
  · unfold stM
    rw [nI_n (by omega), n_I_o (by omega)]
  · have ec : ∀ q, cL (stM j k (rG M j k) p M) q = cL M q := fun q => by unfold cL; rw [o 2 (by omega) (by omega)]
    refine Wd_x w0 (fun g hg => by rw [o g (by omega) (by omega)]) (fun g hg k hk => by rw [o g (by omega) (by omega)]) (fun k' hk' => ?_) (fun _ _ => ⟨fun k' hk' => ?_, fun q hq hno => ?_, ?_⟩) (fun z => absurd z (fun y => y.elim a1 a4)) ?_ ?_ (fun z => absurd z a4) (by unfold nR; rw [o 0 (by omega) (by omega)]; exact Nat.le_refl _) (by unfold nD; rw [o 10 (by omega) (by omega)]; exact Nat.le_refl _)
    · rw [e13, epl, ec]
      by_cases c : k' = k
      · rw [if_pos c, if_pos c, c]
        exact ⟨rfl, hp2⟩
      · rw [if_neg c, if_neg c]
        exact ⟨(w3 k' hk').2.2.1, (w3 k' hk').2.2.2⟩
    · rw [e13, e54]
      by_cases c : k' = k
      · rw [if_pos c, c, if_pos rfl]
      · rw [if_neg c, if_neg (fun z => c (w4 k' k hk' hk z))]
        exact (w5 a1 a4).1 k' hk'
    · rw [e54, if_neg (fun z => hno k hk z.symm)]
      exact (w5 a1 a4).2.1 q hq hno
    · rw [o 55 (by omega) (by omega)]
      exact (w5 a1 a4).2.2
    · rw [o 21 (by omega) (by omega), o 58 (by omega) (by omega), o 23 (by omega) (by omega), o 25 (by omega) (by omega)]
      exact w0.2.2.2.2.2.2.2.2.2.2.1
    · have e : eM (stM j k (rG M j k) p M) j = eM M j := by unfold eM; rw [o 28 (by omega) (by omega)]
      rw [e, o 28 (by omega) (by omega)]
      exact w0.2.2.2.2.2.2.2.2.2.2.2.1
  · unfold kD at b1 b3 b4
    unfold rM at hk'
    rw [o 11 (by omega) (by omega)] at b1 b3 b4
    rw [o 14 (by omega) (by omega)] at hk'
    have er : rG (stM j k (rG M j k) p M) j k' = rG M j k' := by
      show (m_I (stM j k (rG M j k) p M) 12 (4 * j + k')).toNatClampNeg = _
      rw [o 12 (by omega) (by omega)]
      rfl
    have := W.2.2.2.2.2 j hj b1 b3 b4 k' hk'
    rw [er, epl]
    by_cases c : k' = k
    · rw [if_pos c]
      rw [c] at this ⊢
      omega
    · rw [if_neg c]
      exact this
theorem okI54 {j q : Nat} (hj : j < nD M) (hq : q < 8) : okI M 54 (8 * j + q) ∧ adI A B 54 (8 * j + q) = B j + 3 ∧ plI 54 (8 * j + q) = q := by
  have e1 : (8 * j + q) / 8 = j := by omega
  have e2 : (8 * j + q) % 8 = q := by omega
  refine ⟨by show _ / 8 < _; rw [e1]; exact hj, ?_, ?_⟩
  · simp only [adI, e1]
  · simp only [plI, e2]
theorem st_P {j k r p : Nat} (P : Pn_ A B ow h M) (hj : j < nD M) (hr : r < 8) : Pn_ A B ow (s_I h (B j + 3) r (nI p)) (stM j k r p M) := by
  have P1 := Pn_mI P (f := 13) (i := 4 * j + k) (x := nI p) (fun z => z) (by omega) (by omega) (by omega) (by omega) (by omega) (by omega) (by omega)
  have d1 : Dm_ M (n_I M 13 (4 * j + k) (nI p)) := Dm_I (by omega) (by omega) (by omega) (by omega)
  obtain ⟨q1, q2, q3⟩ := okI54 (M := n_I M 13 (4 * j + k) (nI p)) (A := A) (B := B) (j := j) (q := r) (by rw [d1.2.1]; exact hj) hr
  have P2 := Pn_wI P1 (f := 54) (i := 8 * j + r) q1 (nI p) (by omega) (by omega) (by omega) (by omega) (by omega) (by omega) (by omega)
  rw [q2, q3] at P2
  exact P2
theorem Lv_st {j k r p : Nat} : Lv_ j M (stM j k r p M) := ⟨fun g g1 g2 g3 g4 g5 g6 g7 g8 g9 g10 g11 => st_o g1 g10, fun g g1 g2 => rfl, fun g i hi hg => by rw [st_o (by omega) (by omega)]⟩
theorem stepOn_c (C : Cn_ n A B ow h M) {j k : Nat} (hj : j < nD M) (hn : n ≤ 513) (a1 : kD M j ≠ 1) (a4 : kD M j ≠ 4) (hk : k < rM M j) (hp : pL M j k < cL M (rG M j k)) : f_X1_stepOn h (B j) (nI (rG M j k)) = some (s_I h (B j + 3) (rG M j k) (nI (pL M j k + 1))) ∧ Cn_ n A B ow (s_I h (B j + 3) (rG M j k) (nI (pL M j k + 1))) (stM j k (rG M j k) (pL M j k + 1) M) := by
  have W := C.2.2.2.2
  obtain ⟨k4, g1, g2, g8, g3, gp, gn, g4, g5⟩ := pk_c W hj a1 a4 hk
  obtain ⟨s1, s2, s3, s4, s5, s6, s7, s8, s9, s10, s11, -⟩ := C.2.1.2.2.2.2.1 j hj
  constructor
  · unfold f_X1_stepOn
    rw [if_neg (nI_pos (by omega)), if_neg (by rw [litle (n := 8) rfl (by omega)]; omega), if_pos s1, s9]
    simp only [Option.bind_some, s10, s11, if_true, in_nI g8 (show 8 ≤ 65536 by omega), cl_nI (show rG M j k < 2 ^ 31 by omega), b_d_eq, rI_54 C hj g8]
    have gp' : m_I M 54 (8 * j + rG M j k) = nI (pL M j k) := gp
    rw [gp', nI_1]
  · exact Cn_of (st_P (Pn_of C) hj g8) (st_W W hj hn a1 a4 hk (by omega) (by omega))
/-- a reader takes the message at its place, and steps on -/
theorem tap_c (C : Cn_ n A B ow h M) (a : Ag_ Mm M) {j k : Nat} (hj : j < nD M) (hn : n ≤ 512) (a1 : kD M j ≠ 1) (a4 : kD M j ≠ 4) (hk : k < rM M j) (hkp : kp M (rG M j k) (pL M j k) = true) (hg : gT M j < n) : ∃ h' Mm' M', f_X3_takeAtPlace h 0 (some (B j)) (some (A (rG M j k))) = some (h', 1) ∧ f_X4_take Mm (nI j) (nI (rG M j k)) (nI (pL M j k)) = some Mm' ∧ m_I Mm' 13 (4 * j + k) = nI (pL M j k) ∧ Ag_ (n_I Mm' 13 (4 * j + k) (nI (pL M j k + 1))) M' ∧ Cn_ n A B ow h' M' ∧ Lv_ j M M' ∧ (∀ i, i ≠ 8 * j + rG M j k → m_I M' 54 i = m_I M 54 i) := by
  have W := C.2.2.2.2
  obtain ⟨k4, g1, g2, g8, g3, gp, gn, g4, g5⟩ := pk_c W hj a1 a4 hk
  obtain ⟨h1, Mm1, M1, e1, e2, e3, C1, e5, e13, e54, -⟩ := got_c C a g2 hkp hj (by omega) hg
  have W1 := C1.2.2.2.2
  have oj : ∀ g, g = 0 ∨ g = 2 ∨ g = 10 ∨ g = 11 ∨ g = 12 ∨ g = 14 ∨ g = 60 → m_I M1 g = m_I M g := fun g hg => e5.1 g (by omega) (by omega) (by omega) (by omega) (by omega) (by omega) (by omega) (by omega) (by omega) (by omega) (by omega)
  have hj1 : j < nD M1 := by unfold nD; rw [oj 10 (by omega)]; exact hj
  have ek : kD M1 j = kD M j := by unfold kD; rw [oj 11 (by omega)]
  have er : rM M1 j = rM M j := by unfold rM; rw [oj 14 (by omega)]
  have eg : rG M1 j k = rG M j k := by unfold rG; rw [oj 12 (by omega)]
  have ep : pL M1 j k = pL M j k := by unfold pL; rw [e13]
  have ec : cL M1 (rG M j k) = cL M (rG M j k) := by unfold cL; rw [oj 2 (by omega)]
  have eR : nR M1 = nR M := by unfold nR; rw [oj 0 (by omega)]
  have hlt : pL M j k < cL M (rG M j k) := by
    have := hkp
    unfold kp at this
    rw [decide_eq_true_eq] at this
    omega
  obtain ⟨f1, f2⟩ := stepOn_c C1 hj1 (by omega) (by rw [ek]; exact a1) (by rw [ek]; exact a4) (k := k) (by rw [er]; exact hk) (by rw [eg, ep, ec]; exact hlt)
  rw [eg, ep] at f1 f2
  refine ⟨_, Mm1, _, ?_, e2, ?_, ?_, f2, Lv_tr e5 Lv_st, fun i hi => by unfold stM; rw [nI_n (by omega), n_I_o (by omega), e54]⟩
  · unfold f_X3_takeAtPlace
    rw [if_neg (by simp)]
    simp only [Option.bind_some, (C.2.1.2.2.2.1 _ g2).1, if_true, (C.2.1.2.2.2.2.1 j hj).1, rI_60 C g2, (W.2.1 _ g2).2.2.2.2.2.1, placeIn1 C hj g8, gp]
    rw [slotOf_nI C hn g2 (by omega), if_pos hkp]
    simp only [Option.bind_some, e1, c_l_some]
    have k3 : h_k h1 (A (rG M j k)) = 3 := (C1.2.1.2.2.2.1 _ (by rw [eR]; exact g2)).1
    have k2 : h_k h1 (B j) = 2 := (C1.2.1.2.2.2.2.1 j hj1).1
    have i0 : h_I h1 (A (rG M j k)) 0 = nI (rG M j k) := by
      rw [rI_60 C1 (by rw [eR]; exact g2), oj 60 (by omega), (W.2.1 _ g2).2.2.2.2.2.1]
    rw [if_neg (by decide), if_pos k3, if_pos k2, i0, f1]
    rfl
  · rw [← (e3 13 (by omega)).1, e13, g3]
  · unfold stM
    exact ag_g (ag_cI e3) (by omega) (by omega)
end TK
