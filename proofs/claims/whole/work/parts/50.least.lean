/-! the least stamp, as the reference finds it -/
section TL
variable {n : Nat} {A B ow : Nat → Nat} {h : Hpx} {M Mm : Msx}
def lx (M : Msx) (j b q : Nat) : Prop := (sT M j b).toInt < (sT M j q).toInt ∨ ((sT M j b).toInt = (sT M j q).toInt ∧ b ≤ q)
theorem lx_rf {j b : Nat} : lx M j b b := Or.inr ⟨rfl, Nat.le_refl b⟩
theorem lx_tr {j b c d : Nat} (h1 : lx M j b c) (h2 : lx M j c d) : lx M j b d := by
  unfold lx at *
  omega
def Tb_ (M : Msx) (j k : Nat) (x : Int32) : Prop := (x = -1 ∧ ∀ k', k' < k → aw M j (rG M j k') = false) ∨ ∃ kb, kb < k ∧ x = nI kb ∧ aw M j (rG M j kb) = true ∧ ∀ k', k' < k → aw M j (rG M j k') = true → lx M j (rG M j kb) (rG M j k')
theorem tl_loop (W : Wf_ n M) (a : Ag_ Mm M) (hn : n ≤ 512) {j : Nat} (hj : j < nD M) (a1 : kD M j ≠ 1) (a4 : kD M j ≠ 4) (hs : ∃ k, k < rM M j ∧ aw M j (rG M j k) = true) : ∀ (m k fuel : Nat) (x : Int32), k + m = rM M j → m < fuel → Tb_ M j k x → ∃ kb, kb < rM M j ∧ aw M j (rG M j kb) = true ∧ (∀ k', k' < rM M j → aw M j (rG M j k') = true → lx M j (rG M j kb) (rG M j k')) ∧ l_X4_takeLeast_4 fuel Mm (nI j) x (nI k) = (f_X4_take Mm (nI j) (nI (rG M j kb)) (nI (pL M j kb))).bind fun M26 => some (n_I M26 13 (4 * j + kb) (m_I M26 13 (4 * j + kb) + 1)) := by
  have h16 : j < 16 := by have := W.1.2.2.2.1; omega
  obtain ⟨-, ⟨w2, w2a, w2b, -⟩, -⟩ := W.2.2.1 j hj
  intro m
  induction m with
  | zero =>
    intro k fuel x hk hf T
    obtain ⟨f, rfl⟩ : ∃ f, fuel = f + 1 := ⟨fuel - 1, by omega⟩
    have ek : k = rM M j := by omega
    subst ek
    rcases T with ⟨-, z⟩ | ⟨kb, b1, rfl, b2, b3⟩
    · obtain ⟨k, h1, h2⟩ := hs
      rw [z k h1] at h2
      exact absurd h2 Bool.false_ne_true
    · refine ⟨kb, b1, b2, b3, ?_⟩
      obtain ⟨k4, g1, g2, g8, g3, gp, gn, g4, g5⟩ := pk_c W hj a1 a4 b1
      rw [u_X4_takeLeast_4]
      unfold j_X4_takeLeast_4
      simp only [in_nI h16 (show 16 ≤ 65536 by omega), if_true, cl_nI (show j < 2 ^ 31 by omega), ← (a 14 (by omega)).1, ← (a 12 (by omega)).1, ← (a 13 (by omega)).1, w2, four_j, nI_add, in_nI (show 4 * j + kb < 64 by omega) (show 64 ≤ 65536 by omega), cl_nI (show 4 * j + kb < 2 ^ 31 by omega), g1, g3, b_d_eq]
      rw [if_pos (by rw [nI_leI (by omega) (by omega)]; omega)]
  | succ m ih =>
    intro k fuel x hk hf T
    obtain ⟨f, rfl⟩ : ∃ f, fuel = f + 1 := ⟨fuel - 1, by omega⟩
    have hk2 : k < rM M j := by omega
    obtain ⟨k4, g1, g2, g8, g3, gp, gn, g4, g5⟩ := pk_c W hj a1 a4 hk2
    have hm := sl_mod (q := pL M j k) (W.2.1 _ g2)
    have es : m_J M 6 (64 * rG M j k + pL M j k % sL M (rG M j k)) = sT M j (rG M j k) := by unfold sT; rw [gn]
    rw [u_X4_takeLeast_4]
    unfold j_X4_takeLeast_4 j_X4_takeLeast_76 j_X4_takeLeast_107 j_X4_takeLeast_136
    simp only [in_nI h16 (show 16 ≤ 65536 by omega), if_true, cl_nI (show j < 2 ^ 31 by omega), ← (a 14 (by omega)).1, ← (a 12 (by omega)).1, ← (a 13 (by omega)).1, ← (a 6 (by omega)).2, w2, four_j, nI_add, in_nI (show 4 * j + k < 64 by omega) (show 64 ≤ 65536 by omega), cl_nI (show 4 * j + k < 2 ^ 31 by omega), g1, g3, ← g_f_X4_isPassed a, ← g_f_X4_slot a, passed_c W (show n ≤ 513 by omega) hj a1 a4 hk2, slot_nI W g2 (show pL M j k < 2 ^ 30 by omega), Option.bind_some, in_nI (show 64 * rG M j k + pL M j k % sL M (rG M j k) < 512 by omega) (show 512 ≤ 65536 by omega), cl_nI (show 64 * rG M j k + pL M j k % sL M (rG M j k) < 2 ^ 31 by omega), nI_1, es]
    rw [if_neg (by rw [nI_leI (by omega) (by omega)]; omega)]
    by_cases c : aw M j (rG M j k) = true
    · rw [if_pos c, if_pos rfl]
      rcases T with ⟨rfl, z⟩ | ⟨kb, b1, rfl, b2, b3⟩
      · rw [if_neg (show ¬ (0 : Int32) ≤ -1 by decide), if_neg (show ¬ (0 : Int32) ≤ -1 by decide), if_pos (show (-1 : Int32) < 0 by decide)]
        refine ih (k + 1) f (nI k) (by omega) (by omega) (Or.inr ⟨k, by omega, rfl, c, fun k' h1 h2 => ?_⟩)
        by_cases e : k' = k
        · rw [e]; exact lx_rf
        · rw [z k' (by omega)] at h2
          exact absurd h2 Bool.false_ne_true
      · obtain ⟨p4, p1, p2, p8, p3, pp, pn, p5, p6⟩ := pk_c W hj a1 a4 (show kb < rM M j by omega)
        have hmb := sl_mod (q := pL M j kb) (W.2.1 _ p2)
        have esb : m_J M 6 (64 * rG M j kb + pL M j kb % sL M (rG M j kb)) = sT M j (rG M j kb) := by unfold sT; rw [pn]
        rw [if_pos (nI_pos' (show kb < 2 ^ 31 by omega))]
        simp only [nI_add, in_nI (show 4 * j + kb < 64 by omega) (show 64 ≤ 65536 by omega), if_true, cl_nI (show 4 * j + kb < 2 ^ 31 by omega), p1, p3, slot_nI W p2 (show pL M j kb < 2 ^ 30 by omega), Option.bind_some, in_nI (show 64 * rG M j kb + pL M j kb % sL M (rG M j kb) < 512 by omega) (show 512 ≤ 65536 by omega), cl_nI (show 64 * rG M j kb + pL M j kb % sL M (rG M j kb) < 2 ^ 31 by omega), esb, lg_cmp_lt, lg_cmp_eq, nI_leI (show rG M j kb < 2 ^ 31 by omega) (show rG M j k < 2 ^ 31 by omega)]
        rw [if_pos (nI_pos' (show kb < 2 ^ 31 by omega)), if_neg (nI_pos (show kb < 2 ^ 31 by omega))]
        have new : lx M j (rG M j k) (rG M j kb) → Tb_ M j (k + 1) (nI k) := fun q => Or.inr ⟨k, by omega, rfl, c, fun k' h1 h2 => by
          by_cases e : k' = k
          · rw [e]; exact lx_rf
          · exact lx_tr q (b3 k' (by omega) h2)⟩
        have old : lx M j (rG M j kb) (rG M j k) → Tb_ M j (k + 1) (nI kb) := fun q => Or.inr ⟨kb, by omega, rfl, b2, fun k' h1 h2 => by
          by_cases e : k' = k
          · rw [e]; exact q
          · exact b3 k' (by omega) h2⟩
        by_cases c1 : sT M j (rG M j k) < sT M j (rG M j kb)
        · rw [if_pos c1]
          rw [Int64.lt_iff_toInt_lt] at c1
          exact ih (k + 1) f (nI k) (by omega) (by omega) (new (Or.inl c1))
        · rw [if_neg c1]
          rw [Int64.lt_iff_toInt_lt] at c1
          by_cases c2 : sT M j (rG M j k) = sT M j (rG M j kb)
          · rw [if_pos c2]
            by_cases c3 : rG M j kb ≤ rG M j k
            · rw [if_pos c3]
              exact ih (k + 1) f (nI kb) (by omega) (by omega) (old (Or.inr ⟨by rw [c2], c3⟩))
            · rw [if_neg c3]
              exact ih (k + 1) f (nI k) (by omega) (by omega) (new (Or.inr ⟨by rw [c2], by omega⟩))
          · rw [if_neg c2]
            have : (sT M j (rG M j k)).toInt ≠ (sT M j (rG M j kb)).toInt := fun z => c2 (Int64.toInt_inj.mp z)
            exact ih (k + 1) f (nI kb) (by omega) (by omega) (old (Or.inl (by omega)))
    · rw [if_neg c, if_neg (show ¬ (1 : Int32) = 0 by decide)]
      refine ih (k + 1) f x (by omega) (by omega) ?_
      have cf : aw M j (rG M j k) = false := by simpa using c
      rcases T with ⟨e, z⟩ | ⟨kb, b1, e, b2, b3⟩
      · refine Or.inl ⟨e, fun k' h1 => ?_⟩
        by_cases e' : k' = k
        · rw [e']; exact cf
        · exact z k' (by omega)
      · refine Or.inr ⟨kb, by omega, e, b2, fun k' h1 h2 => ?_⟩
        by_cases e' : k' = k
        · rw [e'] at h2
          exact absurd h2 c
        · exact b3 k' (by omega) h2
theorem tl_c (C : Cn_ n A B ow h M) (a : Ag_ Mm M) {j : Nat} (hj : j < nD M) (hn : n ≤ 512) (k5 : kD M j = 5) (hl : lsA (lkB M j) 8 0 (-1) < 0) (hs : aK M j (rM M j) = true) (hg : gT M j < n) : ∃ h' Mm' M' rr, f_X3_ringOfLeastStamp h 0 (some (B j)) = some rr ∧ f_X3_takeAtPlace h 0 (some (B j)) rr = some (h', 1) ∧ f_X4_takeLeast Mm (nI j) = some Mm' ∧ Ag_ Mm' M' ∧ Cn_ n A B ow h' M' ∧ Lv_ j M M' := by
  have W := C.2.2.2.2
  have w2 := (W.2.2.1 j hj).2.1
  obtain ⟨kb, b1, b2, b3, b4⟩ := tl_loop W a hn hj (by omega) (by omega) ((aK_iff _).mp hs) (rM M j) 0 70 (-1) (by omega) (by omega) (Or.inl ⟨rfl, fun k' h1 => by omega⟩)
  obtain ⟨k4, g1, g2, g8, g3, gp, gn, g4, g5⟩ := pk_c W hj (by omega) (by omega) b1
  have lno := lk_no hl
  have cdb := lk_cd g2 (lno _ g8) b2
  have hkp : kp M (rG M j kb) (pL M j kb) = true := by
    have := cdb.2
    unfold pB at this
    rw [Bool.and_eq_true, gn] at this
    exact this.1
  have lc := least_c C hn hj
  rcases bq_aK W (by omega) hj (by omega) (by omega) lno with ⟨-, z⟩ | ⟨b, e1, -⟩
  · rw [hs] at z
    exact absurd z (by decide)
  have hb := bq_best (M := M) (j := j)
  rw [e1] at hb lc
  obtain ⟨v1, v2, v3⟩ := hb
  have hba : aw M j b = true := by
    unfold cd at v2
    rw [Bool.and_eq_true, Bool.and_eq_true] at v2
    exact v2.2.1
  obtain ⟨-, -, k', q1, q2, -⟩ := aw_p W (by omega) hj v1 hba
  have l1 : lx M j b (rG M j kb) := v3 _ g8 cdb.1
  have l2 : lx M j (rG M j kb) b := by
    have := b3 k' q1 (by rw [q2]; exact hba)
    rw [q2] at this
    exact this
  have eb : b = rG M j kb := by
    unfold lx at l1 l2
    omega
  subst eb
  obtain ⟨h', Mm', M', f1, f2, f3, f4, f5, f6, -⟩ := tap_c C a hj hn (by omega) (by omega) b1 hkp hg
  refine ⟨h', _, M', _, lc, f1, ?_, f4, f5, f6⟩
  have b4' : f_X4_takeLeast Mm (nI j) = _ := b4
  rw [b4', f2]
  simp only [Option.bind_some, f3, nI_1]
end TL
