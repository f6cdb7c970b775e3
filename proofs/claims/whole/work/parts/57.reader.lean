/-! reader: numbers -/
def rdR (j k r : Nat) (x : Int32) (M : Msx) : Msx := (fun f i => if f = 10 ∧ i = 0 then nI (j + 1) else if f = 11 ∧ i = j then nI k else if f = 12 ∧ i = 4 * j then nI r else if f = 12 ∧ i = 4 * j + 1 ∧ k = 5 then x else if f = 14 ∧ i = j then (if k = 5 then 2 else 1) else if f = 15 ∧ i = 4 * j ∧ k = 6 then x else if f = 16 ∧ i = j ∧ k = 6 then 1 else if f = 17 ∧ i = j then x else if (f = 19 ∨ f = 20) ∧ i = j then -1 else if f = 35 ∧ i = 0 then m_I M 35 0 + (if k = 4 then 33 else 1) else m_I M f i, m_J M)
def plK (k r : Nat) (x : Int32) (q : Nat) : Int32 := if k = 1 ∨ k = 4 then -1 else if q = r then 0 else if k = 5 ∧ nI q = x then 0 else -1
def pcK (k : Nat) : Int32 := if k = 1 ∨ k = 4 then 0 else if k = 5 then 2 else 1
def nmK (k : Nat) (x : Int32) (q : Nat) : Int32 := if k = 6 ∧ q = 0 then x else 0
def ncK (k : Nat) : Int32 := if k = 6 then 1 else 0
def nbK (k : Nat) (x : Int32) : Int32 := if k = 6 then 0 ||| ((1 : Int32) <<< (x &&& 31)) else 0
def rdM (j k r : Nat) (x : Int32) (M : Msx) : Msx := (fun f i => if f = 54 ∧ i / 8 = j then plK k r x (i % 8) else if f = 55 ∧ i = j then pcK k else if f = 56 ∧ i = j then nbK k x else if f = 58 ∧ i = j then -1 else if (f = 57 ∨ f = 62 ∨ f = 63) ∧ i / 32 = j then 0 else if f = 61 ∧ i / 32 = j then -1 else if f = 66 ∧ i / 32 = j then nI (i % 32) else m_I (rdR j k r x M) f i, fun f i => if f = 64 ∧ i / 32 = j then 0 else if f = 65 ∧ i / 256 = j then 0 else m_J M f i)
section RM
variable {j k r : Nat} {x : Int32} {M : Msx}
theorem rR_I {f i : Nat} : m_I (rdR j k r x M) f i = if f = 10 ∧ i = 0 then nI (j + 1) else if f = 11 ∧ i = j then nI k else if f = 12 ∧ i = 4 * j then nI r else if f = 12 ∧ i = 4 * j + 1 ∧ k = 5 then x else if f = 14 ∧ i = j then (if k = 5 then 2 else 1) else if f = 15 ∧ i = 4 * j ∧ k = 6 then x else if f = 16 ∧ i = j ∧ k = 6 then 1 else if f = 17 ∧ i = j then x else if (f = 19 ∨ f = 20) ∧ i = j then -1 else if f = 35 ∧ i = 0 then m_I M 35 0 + (if k = 4 then 33 else 1) else m_I M f i := rfl
theorem rd_I {f i : Nat} : m_I (rdM j k r x M) f i = if f = 54 ∧ i / 8 = j then plK k r x (i % 8) else if f = 55 ∧ i = j then pcK k else if f = 56 ∧ i = j then nbK k x else if f = 58 ∧ i = j then -1 else if (f = 57 ∨ f = 62 ∨ f = 63) ∧ i / 32 = j then 0 else if f = 61 ∧ i / 32 = j then -1 else if f = 66 ∧ i / 32 = j then nI (i % 32) else m_I (rdR j k r x M) f i := rfl
theorem rd_J {f i : Nat} : m_J (rdM j k r x M) f i = if f = 64 ∧ i / 32 = j then 0 else if f = 65 ∧ i / 256 = j then 0 else m_J M f i := rfl
theorem rd_R {f i : Nat} (hf : f < 54 ∨ f = 59 ∨ f = 60) : m_I (rdM j k r x M) f i = m_I (rdR j k r x M) f i := by
  rw [rd_I, if_neg (by omega), if_neg (by omega), if_neg (by omega), if_neg (by omega), if_neg (by omega), if_neg (by omega), if_neg (by omega)]
theorem rR_n {f i : Nat} (h10 : ¬ (f = 10 ∧ i = 0)) (h35 : ¬ (f = 35 ∧ i = 0)) (h1 : ¬ ((f = 11 ∨ f = 14 ∨ f = 16 ∨ f = 17 ∨ f = 19 ∨ f = 20) ∧ i = j)) (h4 : ¬ ((f = 12 ∨ f = 15) ∧ i / 4 = j)) : m_I (rdR j k r x M) f i = m_I M f i := by
  rw [rR_I, if_neg h10, if_neg (by omega), if_neg (by omega), if_neg (by omega), if_neg (by omega), if_neg (by omega), if_neg (by omega), if_neg (by omega), if_neg (by omega), if_neg h35]
theorem rd_n {f i : Nat} (h10 : ¬ (f = 10 ∧ i = 0)) (h35 : ¬ (f = 35 ∧ i = 0)) (h1 : ¬ ((f = 11 ∨ f = 14 ∨ f = 16 ∨ f = 17 ∨ f = 19 ∨ f = 20 ∨ f = 55 ∨ f = 56 ∨ f = 58) ∧ i = j)) (h4 : ¬ ((f = 12 ∨ f = 15) ∧ i / 4 = j)) (h8 : ¬ (f = 54 ∧ i / 8 = j)) (h32 : ¬ ((f = 57 ∨ f = 61 ∨ f = 62 ∨ f = 63 ∨ f = 66) ∧ i / 32 = j)) : m_I (rdM j k r x M) f i = m_I M f i := by
  rw [rd_I, if_neg h8, if_neg (by omega), if_neg (by omega), if_neg (by omega), if_neg (by omega), if_neg (by omega), if_neg (by omega), rR_n h10 h35 (by omega) h4]
theorem rd_o {f : Nat} (hf : f < 10 ∨ f = 13 ∨ f = 18 ∨ (20 < f ∧ f < 35) ∨ (35 < f ∧ f < 54) ∨ f = 59 ∨ f = 60) : m_I (rdM j k r x M) f = m_I M f := by
  funext i
  exact rd_n (by omega) (by omega) (by omega) (by omega) (by omega) (by omega)
theorem rd_ag : Ag_ (rdR j k r x M) (rdM j k r x M) := fun g hg => ⟨by
    funext i
    rw [rd_I, if_neg (by omega), if_neg (by omega), if_neg (by omega), if_neg (by omega), if_neg (by omega), if_neg (by omega), if_neg (by omega)], by
    funext i
    rw [rd_J, if_neg (by omega), if_neg (by omega)]
    rfl⟩
theorem rd_10 : m_I (rdM j k r x M) 10 0 = nI (j + 1) := by
  rw [rd_R (by omega), rR_I, if_pos ⟨rfl, rfl⟩]
theorem rd_11 : m_I (rdM j k r x M) 11 j = nI k := by
  rw [rd_R (by omega), rR_I, if_neg (by omega), if_pos ⟨rfl, rfl⟩]
theorem rd_12 : m_I (rdM j k r x M) 12 (4 * j) = nI r := by
  rw [rd_R (by omega), rR_I, if_neg (by omega), if_neg (by omega), if_pos ⟨rfl, rfl⟩]
theorem rd_12b (h5 : k = 5) : m_I (rdM j k r x M) 12 (4 * j + 1) = x := by
  rw [rd_R (by omega), rR_I, if_neg (by omega), if_neg (by omega), if_neg (by omega), if_pos ⟨rfl, rfl, h5⟩]
theorem rd_14 : m_I (rdM j k r x M) 14 j = if k = 5 then 2 else 1 := by
  rw [rd_R (by omega), rR_I, if_neg (by omega), if_neg (by omega), if_neg (by omega), if_neg (by omega), if_pos ⟨rfl, rfl⟩]
theorem rd_15 {q : Nat} (hq : q < 4) : m_I (rdM j k r x M) 15 (4 * j + q) = if k = 6 ∧ q = 0 then x else m_I M 15 (4 * j + q) := by
  rw [rd_R (by omega), rR_I, if_neg (by omega), if_neg (by omega), if_neg (by omega), if_neg (by omega), if_neg (by omega)]
  by_cases c : k = 6 ∧ q = 0
  · rw [if_pos (by omega), if_pos c]
  · rw [if_neg (by omega), if_neg c, if_neg (by omega), if_neg (by omega), if_neg (by omega), if_neg (by omega)]
theorem rd_16 : m_I (rdM j k r x M) 16 j = if k = 6 then 1 else m_I M 16 j := by
  rw [rd_R (by omega), rR_I, if_neg (by omega), if_neg (by omega), if_neg (by omega), if_neg (by omega), if_neg (by omega), if_neg (by omega)]
  by_cases c : k = 6
  · rw [if_pos ⟨rfl, rfl, c⟩, if_pos c]
  · rw [if_neg (by omega), if_neg c, if_neg (by omega), if_neg (by omega), if_neg (by omega)]
theorem rd_17 : m_I (rdM j k r x M) 17 j = x := by
  rw [rd_R (by omega), rR_I, if_neg (by omega), if_neg (by omega), if_neg (by omega), if_neg (by omega), if_neg (by omega), if_neg (by omega), if_neg (by omega), if_pos ⟨rfl, rfl⟩]
theorem rd_19 {g : Nat} (hg : g = 19 ∨ g = 20) : m_I (rdM j k r x M) g j = -1 := by
  rw [rd_R (by omega), rR_I, if_neg (by omega), if_neg (by omega), if_neg (by omega), if_neg (by omega), if_neg (by omega), if_neg (by omega), if_neg (by omega), if_neg (by omega), if_pos ⟨hg, rfl⟩]
theorem rd_35 : m_I (rdM j k r x M) 35 0 = m_I M 35 0 + (if k = 4 then 33 else 1) := by
  rw [rd_R (by omega), rR_I, if_neg (by omega), if_neg (by omega), if_neg (by omega), if_neg (by omega), if_neg (by omega), if_neg (by omega), if_neg (by omega), if_neg (by omega), if_neg (by omega), if_pos ⟨rfl, rfl⟩]
theorem rd_54 {q : Nat} (hq : q < 8) : m_I (rdM j k r x M) 54 (8 * j + q) = plK k r x q := by
  rw [rd_I, if_pos (by omega), show (8 * j + q) % 8 = q by omega]
theorem rd_55 : m_I (rdM j k r x M) 55 j = pcK k := by
  rw [rd_I, if_neg (by omega), if_pos ⟨rfl, rfl⟩]
theorem rd_56 : m_I (rdM j k r x M) 56 j = nbK k x := by
  rw [rd_I, if_neg (by omega), if_neg (by omega), if_pos ⟨rfl, rfl⟩]
theorem rd_58 : m_I (rdM j k r x M) 58 j = -1 := by
  rw [rd_I, if_neg (by omega), if_neg (by omega), if_neg (by omega), if_pos ⟨rfl, rfl⟩]
theorem rd_66 {e : Nat} (he : e < 32) : m_I (rdM j k r x M) 66 (32 * j + e) = nI e := by
  rw [rd_I, if_neg (by omega), if_neg (by omega), if_neg (by omega), if_neg (by omega), if_neg (by omega), if_neg (by omega), if_pos (by omega), show (32 * j + e) % 32 = e by omega]
/-- the reference's way -/
theorem rd_ext {c : Msx} (hI : ∀ f i, m_I c f i = m_I (rdR j k r x M) f i) (hJ : m_J c = m_J M) : c = rdR j k r x M := Ms_ext hI (fun a b => by rw [hJ]; rfl)
theorem fl_cases (f : Nat) : f = 10 ∨ f = 11 ∨ f = 12 ∨ f = 14 ∨ f = 15 ∨ f = 16 ∨ f = 17 ∨ f = 19 ∨ f = 20 ∨ f = 35 ∨ (f ≠ 10 ∧ f ≠ 11 ∧ f ≠ 12 ∧ f ≠ 14 ∧ f ≠ 15 ∧ f ≠ 16 ∧ f ≠ 17 ∧ f ≠ 19 ∧ f ≠ 20 ∧ f ≠ 35) := by omega
theorem rd40 (h10 : m_I M 10 0 = nI j) (hj : j < 16) (hk : k < 8) : j_X4_reader_40 M (nI k) (nI r) x = some (rdR j k r x M, nI j) := by
  unfold j_X4_reader_40 j_X4_reader_119 j_X4_reader_143
  have e41 : nI (4 * j) + 1 = nI (4 * j + 1) := nI_1 _
  rw [h10, if_neg (by rw [eqlit (n := 16) rfl (by omega)]; omega)]
  simp only [b_d_eq, nI_1, four_j, e41, in_nI hj (show 16 ≤ 65536 by omega), in_nI (show 4 * j < 64 by omega) (show 64 ≤ 65536 by omega), in_nI (show 4 * j + 1 < 64 by omega) (show 64 ≤ 65536 by omega), if_true, cl_nI (show j < 2 ^ 31 by omega), cl_nI (show 4 * j < 2 ^ 31 by omega), cl_nI (show 4 * j + 1 < 2 ^ 31 by omega)]
  have fin : ∀ c : Msx, c = rdR j k r x M → some (c, nI j) = some (rdR j k r x M, nI j) := fun c e => by rw [e]
  by_cases c5 : k = 5
  · have b4 : ¬ nI k = 4 := by rw [c5]; decide
    have b6 : ¬ nI k = 6 := by rw [c5]; decide
    rw [if_pos (by rw [c5]; rfl), if_neg b6, if_neg b4]
    refine fin _ (rd_ext (fun f i => ?_) rfl)
    rw [n_I_o (c := 35) (kf := 20) (by omega), n_I_o (c := 35) (kf := 19) (by omega), n_I_o (c := 35) (kf := 17) (by omega), n_I_o (c := 35) (kf := 14) (by omega), n_I_o (c := 35) (kf := 12) (by omega), n_I_o (c := 35) (kf := 14) (by omega), n_I_o (c := 35) (kf := 12) (by omega), n_I_o (c := 35) (kf := 11) (by omega), n_I_o (c := 35) (kf := 10) (by omega)]
    rw [nI_at, nI_at, nI_at, nI_at, nI_at, nI_at, nI_at, nI_at, nI_at, nI_at, rR_I, if_neg (show ¬ k = 4 by omega), if_pos c5]
    rcases fl_cases f with rfl | rfl | rfl | rfl | rfl | rfl | rfl | rfl | rfl | rfl | hf
    · simp [c5]
    · simp [c5]
    · by_cases e1 : i = 4 * j + 1
      · have e2 : ¬ i = 4 * j := by omega
        simp [e1, c5]
      · simp [e1, c5]
    · by_cases e1 : i = j <;> simp [e1, c5]
    · simp [c5]
    · simp [c5]
    · simp [c5]
    · simp [c5]
    · simp [c5]
    · simp [c5]
    · rw [if_neg (by omega), if_neg (by omega), if_neg (by omega), if_neg (by omega), if_neg (by omega), if_neg (by omega), if_neg (by omega), if_neg (by omega), if_neg (by omega), if_neg (by omega), if_neg (by omega), if_neg (by omega), if_neg (by omega), if_neg (by omega), if_neg (by omega), if_neg (by omega), if_neg (by omega), if_neg (by omega), if_neg (by omega), if_neg (by omega)]
  · have b5 : ¬ nI k = 5 := by rw [eqlit (n := 5) rfl (by omega)]; exact c5
    rw [if_neg b5]
    by_cases c6 : k = 6
    · have b4 : ¬ nI k = 4 := by rw [c6]; decide
      rw [if_pos (by rw [c6]; rfl), if_neg b4]
      refine fin _ (rd_ext (fun f i => ?_) rfl)
      rw [n_I_o (c := 35) (kf := 20) (by omega), n_I_o (c := 35) (kf := 19) (by omega), n_I_o (c := 35) (kf := 17) (by omega), n_I_o (c := 35) (kf := 16) (by omega), n_I_o (c := 35) (kf := 15) (by omega), n_I_o (c := 35) (kf := 14) (by omega), n_I_o (c := 35) (kf := 12) (by omega), n_I_o (c := 35) (kf := 11) (by omega), n_I_o (c := 35) (kf := 10) (by omega)]
      rw [nI_at, nI_at, nI_at, nI_at, nI_at, nI_at, nI_at, nI_at, nI_at, nI_at, rR_I, if_neg (show ¬ k = 4 by omega), if_neg c5]
      rcases fl_cases f with rfl | rfl | rfl | rfl | rfl | rfl | rfl | rfl | rfl | rfl | hf
      · simp [c6]
      · simp [c6]
      · simp [c6]
      · simp [c6]
      · simp [c6]
      · simp [c6]
      · simp [c6]
      · simp [c6]
      · simp [c6]
      · simp [c6]
      · rw [if_neg (by omega), if_neg (by omega), if_neg (by omega), if_neg (by omega), if_neg (by omega), if_neg (by omega), if_neg (by omega), if_neg (by omega), if_neg (by omega), if_neg (by omega), if_neg (by omega), if_neg (by omega), if_neg (by omega), if_neg (by omega), if_neg (by omega), if_neg (by omega), if_neg (by omega), if_neg (by omega), if_neg (by omega), if_neg (by omega)]
    · have b6 : ¬ nI k = 6 := by rw [eqlit (n := 6) rfl (by omega)]; exact c6
      rw [if_neg b6]
      have e35 : m_I (n_I (n_I (n_I (n_I (n_I (n_I (n_I M 10 0 (nI (j + 1))) 11 j (nI k)) 12 (4 * j) (nI r)) 14 j 1) 17 j x) 19 j (-1)) 20 j (-1)) 35 0 = m_I M 35 0 := by
        rw [n_I_o (by omega), n_I_o (by omega), n_I_o (by omega), n_I_o (by omega), n_I_o (by omega), n_I_o (by omega), n_I_o (by omega)]
      rw [e35]
      by_cases c4 : k = 4
      · rw [if_pos (by rw [c4]; rfl)]
        refine fin _ (rd_ext (fun f i => ?_) rfl)
        rw [nI_at, nI_at, nI_at, nI_at, nI_at, nI_at, nI_at, nI_at, rR_I, if_pos c4, if_neg c5]
        rcases fl_cases f with rfl | rfl | rfl | rfl | rfl | rfl | rfl | rfl | rfl | rfl | hf
        · simp [c5, c6]
        · simp [c5, c6]
        · simp [c5, c6]
        · simp [c5, c6]
        · simp [c5, c6]
        · simp [c5, c6]
        · simp [c5, c6]
        · simp [c5, c6]
        · simp [c5, c6]
        · simp [c5, c6]
        · rw [if_neg (by omega), if_neg (by omega), if_neg (by omega), if_neg (by omega), if_neg (by omega), if_neg (by omega), if_neg (by omega), if_neg (by omega), if_neg (by omega), if_neg (by omega), if_neg (by omega), if_neg (by omega), if_neg (by omega), if_neg (by omega), if_neg (by omega), if_neg (by omega), if_neg (by omega), if_neg (by omega)]
      · rw [if_neg (by rw [eqlit (n := 4) rfl (by omega)]; exact c4)]
        refine fin _ (rd_ext (fun f i => ?_) rfl)
        rw [nI_at, nI_at, nI_at, nI_at, nI_at, nI_at, nI_at, nI_at, rR_I, if_neg c4, if_neg c5]
        rcases fl_cases f with rfl | rfl | rfl | rfl | rfl | rfl | rfl | rfl | rfl | rfl | hf
        · simp [c5, c6]
        · simp [c5, c6]
        · simp [c5, c6]
        · simp [c5, c6]
        · simp [c5, c6]
        · simp [c5, c6]
        · simp [c5, c6]
        · simp [c5, c6]
        · simp [c5, c6]
        · simp [c5, c6]
        · rw [if_neg (by omega), if_neg (by omega), if_neg (by omega), if_neg (by omega), if_neg (by omega), if_neg (by omega), if_neg (by omega), if_neg (by omega), if_neg (by omega), if_neg (by omega), if_neg (by omega), if_neg (by omega), if_neg (by omega), if_neg (by omega), if_neg (by omega), if_neg (by omega), if_neg (by omega), if_neg (by omega)]
end RM
/-- what the third number must be -/
def Ox_ (k r : Nat) (x : Int32) (M : Msx) : Prop := (k = 5 ∨ k = 7 → ∃ o, o < nR M ∧ o ≠ r ∧ x = nI o) ∧ (k = 6 → ∃ o, o < nD M ∧ x = nI o)
theorem nm_new {M M' : Msx} (hN : ∀ i, ¬ Relation.TransGen (Nm_ M) i i) (h1 : ∀ a b, Nm_ M' a b → b < nD M ∧ (a ≠ nD M → Nm_ M a b)) : ∀ i, ¬ Relation.TransGen (Nm_ M') i i := by
  have key : ∀ a b, Relation.TransGen (Nm_ M') a b → b < nD M ∧ (a ≠ nD M → Relation.TransGen (Nm_ M) a b) := by
    intro a b t
    induction t with
    | single e => exact ⟨(h1 _ _ e).1, fun z => Relation.TransGen.single ((h1 _ _ e).2 z)⟩
    | tail _ e ih => exact ⟨(h1 _ _ e).1, fun z => Relation.TransGen.tail (ih.2 z) ((h1 _ _ e).2 (by have := ih.1; omega))⟩
  intro i t
  have := key i i t
  exact hN i (this.2 (by omega))
section RV
variable {n : Nat} {A B ow : Nat → Nat} {h : Hpx} {M : Msx} {k r : Nat} {x : Int32}
theorem rd_Dn (hj : nD M < 16) : nD (rdM (nD M) k r x M) = nD M + 1 := by
  show (m_I (rdM (nD M) k r x M) 10 0).toNatClampNeg = _
  rw [rd_10, cl_nI (by omega)]
theorem rd_Rn {j : Nat} : nR (rdM j k r x M) = nR M := by unfold nR; rw [rd_o (by omega)]
theorem rd_sl {j q : Nat} : sL (rdM j k r x M) q = sL M q := by unfold sL; rw [rd_o (by omega)]
theorem rd_kj {j : Nat} (hk : k < 8) : kD (rdM j k r x M) j = k := by
  show (m_I (rdM j k r x M) 11 j).toNatClampNeg = _
  rw [rd_11, cl_nI (by omega)]
theorem rd_ki {j i : Nat} (hi : i ≠ j) : kD (rdM j k r x M) i = kD M i := by
  show (m_I (rdM j k r x M) 11 i).toNatClampNeg = _
  rw [rd_n (by omega) (by omega) (by omega) (by omega) (by omega) (by omega)]
  rfl
theorem rd_Wj (W : Wf_ n M) (Z : Zf_ M) (hj : nD M < 16) (hk1 : 1 ≤ k) (hk : k < 8) (hr : r < nR M) (X : Ox_ k r x M) : Wd_n n (rdM (nD M) k r x M) (nD M) := by
  obtain ⟨z1, z2, z3, z4⟩ := Z
  have h8 := W.1.2.1
  have eK := rd_kj (j := nD M) (r := r) (x := x) (M := M) hk
  have eR := rd_Rn (j := nD M) (k := k) (r := r) (x := x) (M := M)
  have eD := rd_Dn (k := k) (r := r) (x := x) (M := M) hj
  have eG0 : rG (rdM (nD M) k r x M) (nD M) 0 = r := by
    show (m_I (rdM (nD M) k r x M) 12 (4 * nD M + 0)).toNatClampNeg = _
    rw [Nat.add_zero, rd_12, cl_nI (by omega)]
  have eRM : rM (rdM (nD M) k r x M) (nD M) = if k = 5 then 2 else 1 := by
    show (m_I (rdM (nD M) k r x M) 14 (nD M)).toNatClampNeg = _
    rw [rd_14]
    split <;> rfl
  have eP : ∀ q, pL (rdM (nD M) k r x M) (nD M) q = 0 := fun q => by
    show (m_I (rdM (nD M) k r x M) 13 (4 * nD M + q)).toNatClampNeg = _
    rw [rd_o (by omega), z1 13 (by omega)]
    rfl
  have e16 : m_I (rdM (nD M) k r x M) 16 (nD M) = if k = 6 then 1 else 0 := by rw [rd_16, z3 _ (Nat.le_refl _)]
  have eNM : nM (rdM (nD M) k r x M) (nD M) = if k = 6 then 1 else 0 := by
    show (m_I (rdM (nD M) k r x M) 16 (nD M)).toNatClampNeg = _
    rw [e16]
    split <;> rfl
  have e28 : m_I (rdM (nD M) k r x M) 28 (nD M) = 0 := by rw [rd_o (by omega), z1 28 (by omega)]
  have eE : eM (rdM (nD M) k r x M) (nD M) = 0 := by
    show (m_I (rdM (nD M) k r x M) 28 (nD M)).toNatClampNeg = _
    rw [e28]
    rfl
  have eA : ∀ o, k = 6 → x = nI o → o < 16 → nA (rdM (nD M) k r x M) (nD M) 0 = o := fun o c6 ex ho => by
    show (m_I (rdM (nD M) k r x M) 15 (4 * nD M + 0)).toNatClampNeg = _
    rw [rd_15 (by omega), if_pos ⟨c6, rfl⟩, ex, cl_nI (by omega)]
  have eG1 : ∀ o, k = 5 → x = nI o → o < 8 → rG (rdM (nD M) k r x M) (nD M) 1 = o := fun o c5 ex ho => by
    show (m_I (rdM (nD M) k r x M) 12 (4 * nD M + 1)).toNatClampNeg = _
    rw [rd_12b c5, ex, cl_nI (by omega)]
  refine ⟨⟨by rw [eK, rd_11], by omega, by omega⟩, ⟨by rw [eRM, rd_14]; split <;> rfl, by rw [eRM]; split <;> omega, by rw [eRM]; split <;> omega, fun c => by rw [eRM, if_neg (by rw [eK] at c; exact c)]⟩, fun q hq => ?_, fun a b ha hb e => ?_, fun a1 a4 => ?_, fun c q hq => ?_, ⟨by rw [eNM, e16]; split <;> rfl, by rw [eNM]; split <;> omega, fun c6 c7 => by rw [eNM, if_neg (by rw [eK] at c6; exact c6)]⟩, fun q hq => ?_, fun i hi => ?_, fun c7 => ?_, ⟨⟨0, by omega, by rw [rd_o (by omega), z1 21 (by omega)]; rfl, fun _ => rd_58, fun z => absurd rfl z⟩, 0, by omega, by rw [rd_o (by omega), z1 25 (by omega)]; rfl⟩, ⟨by rw [eE, e28]; rfl, by omega, fun _ => eE⟩, fun c4 => ⟨fun e he => ?_, fun a b ha hb e => ?_, fun e he => absurd he (by rw [eE]; omega), fun a b ha _ _ => absurd ha (by rw [eE]; omega)⟩⟩
  · have h13 : m_I (rdM (nD M) k r x M) 13 (4 * nD M + q) = nI (pL (rdM (nD M) k r x M) (nD M) q) := by
      rw [eP, rd_o (by omega), z1 13 (by omega)]
      rfl
    rw [eRM] at hq
    refine ⟨?_, ?_, h13, by rw [eP]; omega⟩
    · by_cases q0 : q = 0
      · subst q0
        rw [eG0, Nat.add_zero, rd_12]
      · have c5 : k = 5 := by
          by_cases c : k = 5
          · exact c
          · rw [if_neg c] at hq
            omega
        rw [if_pos c5] at hq
        obtain ⟨o, ho, hor, ex⟩ := X.1 (Or.inl c5)
        have q1 : q = 1 := by omega
        subst q1
        rw [eG1 o c5 ex (by omega), rd_12b c5, ex]
    · rw [eR]
      by_cases q0 : q = 0
      · subst q0
        rw [eG0]
        exact hr
      · have c5 : k = 5 := by
          by_cases c : k = 5
          · exact c
          · rw [if_neg c] at hq
            omega
        rw [if_pos c5] at hq
        obtain ⟨o, ho, hor, ex⟩ := X.1 (Or.inl c5)
        have q1 : q = 1 := by omega
        subst q1
        rw [eG1 o c5 ex (by omega)]
        exact ho
  · rw [eRM] at ha hb
    by_cases c5 : k = 5
    · rw [if_pos c5] at ha hb
      obtain ⟨o, ho, hor, ex⟩ := X.1 (Or.inl c5)
      have g1 := eG1 o c5 ex (by omega)
      by_cases a0 : a = 0
      · by_cases b0 : b = 0
        · omega
        · have b1 : b = 1 := by omega
          rw [a0, b1, eG0, g1] at e
          exact absurd e.symm hor
      · have a1 : a = 1 := by omega
        by_cases b0 : b = 0
        · rw [a1, b0, eG0, g1] at e
          exact absurd e hor
        · omega
    · rw [if_neg c5] at ha hb
      omega
  · rw [eK] at a1 a4
    have pk0 : ∀ q, q = r → plK k r x q = 0 := fun q e => by
      unfold plK
      rw [if_neg (by omega), if_pos e]
    refine ⟨fun q hq => ?_, fun q hq hno => ?_, ?_⟩
    · rw [rd_o (f := 13) (by omega), z1 13 (by omega)]
      rw [eRM] at hq
      by_cases q0 : q = 0
      · subst q0
        rw [eG0, rd_54 (by omega), pk0 r rfl]
      · have c5 : k = 5 := by
          by_cases c : k = 5
          · exact c
          · rw [if_neg c] at hq
            omega
        rw [if_pos c5] at hq
        obtain ⟨o, ho, hor, ex⟩ := X.1 (Or.inl c5)
        have q1 : q = 1 := by omega
        subst q1
        rw [eG1 o c5 ex (by omega), rd_54 (by omega)]
        unfold plK
        rw [if_neg (by omega), if_neg hor, if_pos ⟨c5, ex.symm⟩]
    · rw [rd_54 hq]
      have n0 := hno 0 (by rw [eRM]; split <;> omega)
      rw [eG0] at n0
      unfold plK
      rw [if_neg (by omega), if_neg (fun z => n0 z.symm)]
      by_cases c5 : k = 5
      · obtain ⟨o, ho, hor, ex⟩ := X.1 (Or.inl c5)
        have n1 := hno 1 (by rw [eRM, if_pos c5]; omega)
        rw [eG1 o c5 ex (by omega)] at n1
        rw [if_neg]
        rintro ⟨-, z⟩
        rw [ex, nI_eq (by omega) (by omega)] at z
        exact n1 z.symm
      · rw [if_neg (fun z => c5 z.1)]
    · rw [rd_55, rd_14]
      unfold pcK
      rw [if_neg (by omega)]
  · rw [eK] at c
    rw [rd_54 hq]
    unfold plK
    rw [if_pos c]
  · rw [eNM] at hq
    by_cases c6 : k = 6
    · rw [if_pos c6] at hq
      obtain ⟨o, ho, ex⟩ := X.2 c6
      have q0 : q = 0 := by omega
      subst q0
      rw [eA o c6 ex (by omega), rd_15 (by omega), if_pos ⟨c6, rfl⟩, eD]
      exact ⟨ex, by omega⟩
    · rw [if_neg c6] at hq
      omega
  · rw [rd_56, bit_tb hi, eNM]
    unfold nbK
    by_cases c6 : k = 6
    · obtain ⟨o, ho, ex⟩ := X.2 c6
      have tbx : tb ((1 : Int32) <<< (x &&& 31)) i = decide (i = o) := by rw [ex]; exact tb_one o (by omega) i hi
      rw [if_pos c6, if_pos c6, tb_or, tb_0, Bool.false_or, tbx, decide_eq_false_iff_not]
      constructor
      · intro z q hq
        have q0 : q = 0 := by omega
        subst q0
        rw [eA o c6 ex (by omega)]
        exact fun y => z y.symm
      · intro z y
        have := z 0 (by omega)
        rw [eA o c6 ex (by omega)] at this
        exact this y.symm
    · rw [if_neg c6, if_neg c6, tb_0]
      exact ⟨fun _ q hq => absurd hq (by omega), fun _ => rfl⟩
  · rw [eK] at c7
    obtain ⟨o, ho, hor, ex⟩ := X.1 (Or.inr c7)
    have et : tG (rdM (nD M) k r x M) (nD M) = o := by
      show (m_I (rdM (nD M) k r x M) 17 (nD M)).toNatClampNeg = _
      rw [rd_17, ex, cl_nI (by omega)]
    rw [et, eR, eG0, rd_17]
    exact ⟨ex, ho, hor⟩
  · have es : sG (rdM (nD M) k r x M) (nD M) e = e := by
      show (m_I (rdM (nD M) k r x M) 66 (32 * nD M + e)).toNatClampNeg = _
      rw [rd_66 he, cl_nI (by omega)]
    rw [es, rd_66 he]
    exact ⟨rfl, he⟩
  · have es : ∀ e, e < 32 → sG (rdM (nD M) k r x M) (nD M) e = e := fun e he => by
      show (m_I (rdM (nD M) k r x M) 66 (32 * nD M + e)).toNatClampNeg = _
      rw [rd_66 he, cl_nI (by omega)]
    rw [es a ha, es b hb] at e
    exact e
theorem rd_W (W : Wf_ n M) (Z : Zf_ M) (hj : nD M < 16) (hk1 : 1 ≤ k) (hk : k < 8) (hr : r < nR M) (X : Ox_ k r x M) : Wf_ n (rdM (nD M) k r x M) := by
  have Wj := rd_Wj W Z hj hk1 hk hr X
  obtain ⟨z1, z2, z3, z4⟩ := Z
  have eK := rd_kj (j := nD M) (r := r) (x := x) (M := M) hk
  have eR := rd_Rn (j := nD M) (k := k) (r := r) (x := x) (M := M)
  have eD := rd_Dn (k := k) (r := r) (x := x) (M := M) hj
  obtain ⟨W0, WR, WD, WN, WH⟩ := W
  have c0' : ∀ q, cL (rdM (nD M) k r x M) q = 0 := fun q => by
    unfold cL
    rw [rd_o (by omega), z1 2 (by omega)]
    rfl
  have c0 : ∀ q, cL M q = 0 := fun q => by
    unfold cL
    rw [z1 2 (by omega)]
    rfl
  refine ⟨?_, fun q hq => ?_, fun i hi => ?_, ?_, fun _ q _ => c0' q, fun i hi a1 a3 a4 q hq => by rw [c0']; omega⟩
  · unfold W0_
    rw [eR, eD, rd_o (f := 0) (by omega), rd_10, rd_o (f := 34) (by omega), rd_o (f := 37) (by omega), rd_o (f := 40) (by omega)]
    exact ⟨W0.1, W0.2.1, rfl, by omega, W0.2.2.2.2⟩
  · rw [eR] at hq
    exact Wr_c (WR q hq) (fun g hg => by rw [rd_o (by omega)]) (fun g hg k hk => by rw [rd_o (by omega)])
  · rw [eD] at hi
    by_cases e : i = nD M
    · rw [e]
      exact Wj
    · have hi' : i < nD M := by omega
      have w := WD i hi'
      refine Wd_c w (fun g hg => rd_n (by omega) (by omega) (by omega) (by omega) (by omega) (by omega)) (fun g hg q hq => rd_n (by omega) (by omega) (by omega) (by omega) (by omega) (by omega)) (fun q hq => rd_n (by omega) (by omega) (by omega) (by omega) (by omega) (by omega)) (fun a => ?_) W0.2.1 (by omega) (by omega) (fun q hq => by rw [c0, c0']; omega)
      refine We_c (w.2.2.2.2.2.2.2.2.2.2.2.2 a) (by rw [rd_o (by omega)]) w.2.2.2.2.2.2.2.2.2.2.2.1.2.1 (rd_n (by omega) (by omega) (by omega) (by omega) (by omega) (by omega)) (fun g hg q hq => rd_n (by omega) (by omega) (by omega) (by omega) (by omega) (by omega)) (fun g hg q hq => ?_) (fun g hg q hq y hy => ?_)
      · rw [rd_J, if_neg (by omega), if_neg (by omega)]
      · rw [rd_J, if_neg (by omega), if_neg (by omega)]
  · refine nm_new WN (fun a b e => ?_)
    obtain ⟨ha, q, hq, hb⟩ := e
    rw [eD] at ha
    by_cases ea : a = nD M
    · subst ea
      obtain ⟨-, -, -, -, -, -, w7, w8, -⟩ := Wj
      have e16 : nM (rdM (nD M) k r x M) (nD M) = if k = 6 then 1 else 0 := by
        show (m_I (rdM (nD M) k r x M) 16 (nD M)).toNatClampNeg = _
        rw [rd_16, z3 _ (Nat.le_refl _)]
        split <;> rfl
      rw [e16] at hq
      by_cases c6 : k = 6
      · rw [if_pos c6] at hq
        obtain ⟨o, ho, ex⟩ := X.2 c6
        have q0 : q = 0 := by omega
        subst q0
        have : nA (rdM (nD M) k r x M) (nD M) 0 = o := by
          show (m_I (rdM (nD M) k r x M) 15 (4 * nD M + 0)).toNatClampNeg = _
          rw [rd_15 (by omega), if_pos ⟨c6, rfl⟩, ex, cl_nI (by omega)]
        rw [this] at hb
        exact ⟨by omega, fun z => absurd rfl z⟩
      · rw [if_neg c6] at hq
        omega
    · have ha' : a < nD M := by omega
      have w := WD a ha'
      have en : nM (rdM (nD M) k r x M) a = nM M a := by
        show (m_I (rdM (nD M) k r x M) 16 a).toNatClampNeg = _
        rw [rd_n (by omega) (by omega) (by omega) (by omega) (by omega) (by omega)]
        rfl
      rw [en] at hq
      have hq4 : q < 4 := by have := w.2.2.2.2.2.2.1.2.1; omega
      have eA : nA (rdM (nD M) k r x M) a q = nA M a q := by
        show (m_I (rdM (nD M) k r x M) 15 (4 * a + q)).toNatClampNeg = _
        rw [rd_n (by omega) (by omega) (by omega) (by omega) (by omega) (by omega)]
        rfl
      rw [eA] at hb
      have := (w.2.2.2.2.2.2.2.1 q hq).2
      exact ⟨by omega, fun _ => ⟨ha', q, hq, hb⟩⟩
theorem rd_Z (Z : Zf_ M) (hj : nD M < 16) : Z_ (rdM (nD M) k r x M) := fun _ => by
  obtain ⟨z1, z2, z3, z4⟩ := Z
  have eD := rd_Dn (k := k) (r := r) (x := x) (M := M) hj
  refine ⟨fun g hg i => by rw [rd_o (by omega)]; exact z1 g hg i, fun g hg i => ?_, fun i hi => ?_, fun i hi => ?_⟩
  · rw [rd_J, if_neg (by omega), if_neg (by omega)]
    exact z2 g hg i
  · rw [eD] at hi
    rw [rd_n (by omega) (by omega) (by omega) (by omega) (by omega) (by omega)]
    exact z3 i (by omega)
  · rw [eD] at hi
    rw [rd_n (by omega) (by omega) (by omega) (by omega) (by omega) (by omega)]
    exact z4 i (by omega)
end RV
