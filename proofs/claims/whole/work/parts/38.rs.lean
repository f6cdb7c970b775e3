/-! answers of calls that write -/
def Rs_ (n : Nat) (X : Option (Hpx × Int32)) (Y : Option (Msx × Int32)) : Prop := ∃ (h' : Hpx) (M' : Msx) (r : Int32) (M2 : Msx), X = some (h', r) ∧ Y = some (M', r) ∧ Ag_ M' M2 ∧ Inv_ (n + 1) h' M2
theorem ag_g {M M2 : Msx} (a : Ag_ M M2) {f i : Nat} {x : Int32} (h1 : 42 ≤ f) (h2 : f ≠ 99) : Ag_ M (n_I M2 f i x) := fun g hg => ⟨by rw [n_I_o (by omega)]; exact (a g hg).1, (a g hg).2⟩
theorem ag_gJ {M M2 : Msx} (a : Ag_ M M2) {f i : Nat} {x : Int64} (h1 : 42 ≤ f) (h2 : f ≠ 99) : Ag_ M (n_J M2 f i x) := fun g hg => ⟨(a g hg).1, by rw [n_J_o (by omega)]; exact (a g hg).2⟩
theorem ag_cI {M M2 : Msx} (a : Ag_ M M2) {f i : Nat} {x : Int32} : Ag_ (n_I M f i x) (n_I M2 f i x) := fun g hg => ⟨by
    funext q
    rw [nI_at, nI_at, (a g hg).1], (a g hg).2⟩
theorem ag_cJ {M M2 : Msx} (a : Ag_ M M2) {f i : Nat} {x : Int64} : Ag_ (n_J M f i x) (n_J M2 f i x) := fun g hg => ⟨(a g hg).1, by
    funext q
    rw [nJ_at, nJ_at, (a g hg).2]⟩
theorem ag_tr {M M2 M3 : Msx} (a : Ag_ M M2) (b : Ag_ M2 M3) : Ag_ M M3 := fun g hg => ⟨(b g hg).1.trans (a g hg).1, (b g hg).2.trans (a g hg).2⟩
theorem Wr_le {n n' : Nat} {M : Msx} {r : Nat} (hn : n ≤ n') (w : Wr_ n M r) : Wr_ n' M r := ⟨w.1, w.2.1, w.2.2.1, by have := w.2.2.2.1; omega, w.2.2.2.2⟩
theorem Wd_le {n n' : Nat} {M : Msx} {j : Nat} (hn : n ≤ n') (w : Wd_n n M j) : Wd_n n' M j := by
  obtain ⟨w1, w2, w3, w4, w5, w6, w7, w8, w9, w10, ⟨⟨y, hy, q⟩, w11⟩, w12⟩ := w
  exact ⟨w1, w2, w3, w4, w5, w6, w7, w8, w9, w10, ⟨⟨y, by omega, q⟩, w11⟩, w12⟩
section RS
variable {n n' : Nat} {A B ow : Nat → Nat} {h : Hpx} {M M' : Msx}
theorem rs_v (I : Inv_ n h M) (r : Int32) : Rs_ n (some (h, r)) (some (M, r)) := ⟨h, M, r, M, rfl, rfl, ag_rf M, inv_mo _ _ _ I⟩
theorem rs_f (C : Cn_ n A B ow h M) (Z : Z_ M) {t : Nat} (h1 : 1 ≤ t) (h6 : t ≤ 6) : Rs_ n (c_l (f_X3_finding h 0 (nI t)) fun h' r => some (h', r)) (c_l (f_X4_find M (nI t)) fun M' r => some (M', r)) := by
  obtain ⟨h', M', e1, e2, C', Z'⟩ := find_c C h1 h6
  refine ⟨h', M', -12, M', ?_, ?_, ag_rf M', inv_mo _ _ _ ⟨A, B, ow, C', Z' Z⟩⟩
  · rw [e1]
    rfl
  · rw [e2]
    rfl
/-- the post's own numbers alone change -/
theorem Wf_0 (W : Wf_ n M) (hW : W0_ M') (h34 : m_I M' 34 0 = 0 → m_I M 34 0 = 0) (eI : ∀ g, g < 18 ∨ g = 21 ∨ g = 23 ∨ g = 25 ∨ (28 ≤ g ∧ g ≤ 32) ∨ (50 ≤ g ∧ g ≤ 66) → g ≠ 4 → g ≠ 6 → g ≠ 8 → g ≠ 9 → g ≠ 59 → g ≠ 64 → g ≠ 65 → m_I M' g = m_I M g) (eJ : ∀ g, g = 30 ∨ g = 33 ∨ g = 64 ∨ g = 65 → m_J M' g = m_J M g) : Wf_ n M' := by
  have f1 : nR M' = nR M := by unfold nR; rw [eI 0 (by omega) (by omega) (by omega) (by omega) (by omega) (by omega) (by omega) (by omega)]
  have f2 : nD M' = nD M := by unfold nD; rw [eI 10 (by omega) (by omega) (by omega) (by omega) (by omega) (by omega) (by omega) (by omega)]
  have f3 : ∀ q, cL M' q = cL M q := fun q => by unfold cL; rw [eI 2 (by omega) (by omega) (by omega) (by omega) (by omega) (by omega) (by omega) (by omega)]
  obtain ⟨W0, WR, WD, WN, WH⟩ := W
  refine ⟨hW, fun r hr => ?_, fun j hj => ?_, ?_, Hd_c WH h34 (fun g hg => eI g (by omega) (by omega) (by omega) (by omega) (by omega) (by omega) (by omega) (by omega))⟩
  · rw [f1] at hr
    exact Wr_c (WR r hr) (fun g hg => by rw [eI g (by omega) (by omega) (by omega) (by omega) (by omega) (by omega) (by omega) (by omega)]) (fun g hg k hk => by rw [eI g (by omega) (by omega) (by omega) (by omega) (by omega) (by omega) (by omega) (by omega)])
  · rw [f2] at hj
    have w := WD j hj
    refine Wd_c w (fun g hg => by rw [eI g (by omega) (by omega) (by omega) (by omega) (by omega) (by omega) (by omega) (by omega)]) (fun g hg k hk => by rw [eI g (by omega) (by omega) (by omega) (by omega) (by omega) (by omega) (by omega) (by omega)]) (fun q hq => by rw [eI 54 (by omega) (by omega) (by omega) (by omega) (by omega) (by omega) (by omega) (by omega)]) (fun a => ?_) W0.2.1 (by omega) (by omega) (fun q hq => by rw [f3]; exact Nat.le_refl _)
    refine We_c (w.2.2.2.2.2.2.2.2.2.2.2.2 a) (by rw [eI 28 (by omega) (by omega) (by omega) (by omega) (by omega) (by omega) (by omega) (by omega)]) w.2.2.2.2.2.2.2.2.2.2.2.1.2.1 (by rw [eI 12 (by omega) (by omega) (by omega) (by omega) (by omega) (by omega) (by omega) (by omega)]) (fun g hg k hk => by rw [eI g (by omega) (by omega) (by omega) (by omega) (by omega) (by omega) (by omega) (by omega)]) (fun g hg k hk => by rw [eJ g (by omega)]) (fun g hg k hk i hi => by rw [eJ g (by omega)])
  · rw [Nm_c f2 (fun j _ => by rw [eI 16 (by omega) (by omega) (by omega) (by omega) (by omega) (by omega) (by omega) (by omega)]) (fun j _ k _ => by rw [eI 15 (by omega) (by omega) (by omega) (by omega) (by omega) (by omega) (by omega) (by omega)])]
    exact WN
/-- fields that a ring's change leaves alone -/
def Fr_ (g : Nat) : Prop := g < 2 ∨ (10 ≤ g ∧ g ≤ 17) ∨ g = 21 ∨ g = 23 ∨ g = 25 ∨ g = 28 ∨ g = 29 ∨ g = 31 ∨ g = 32 ∨ g = 34 ∨ g = 37 ∨ g = 40 ∨ (54 ≤ g ∧ g ≤ 58) ∨ (60 ≤ g ∧ g ≤ 63) ∨ g = 66
theorem Wf_r (W : Wf_ n M) (hn : n ≤ n') {r : Nat} (eI : ∀ g, Fr_ g → m_I M' g = m_I M g) (eR : ∀ g, g = 2 ∨ g = 3 ∨ g = 50 ∨ g = 51 → ∀ q, q ≠ r → m_I M' g q = m_I M g q) (eS : ∀ g, g = 5 ∨ g = 7 ∨ g = 52 ∨ g = 53 → ∀ i, i / 64 ≠ r → m_I M' g i = m_I M g i) (eJ : ∀ g, g = 30 ∨ g = 33 ∨ g = 64 ∨ g = 65 → m_J M' g = m_J M g) (hW : Wr_ n' M' r) (hc : cL M r ≤ cL M' r) (hH : cL M' r = cL M r ∨ (m_I M 34 0 ≠ 0 ∧ ∀ j, j < nD M → kD M j ≠ 1 → kD M j ≠ 3 → kD M j ≠ 4 → ∀ k, k < rM M j → rG M j k = r → cL M' r ≤ pL M j k + sL M r)) : Wf_ n' M' := by
  have f1 : nR M' = nR M := by unfold nR; rw [eI 0 (by unfold Fr_; omega)]
  have f2 : nD M' = nD M := by unfold nD; rw [eI 10 (by unfold Fr_; omega)]
  have f3 : ∀ q, cL M q ≤ cL M' q := fun q => by
    by_cases e : q = r
    · rw [e]; exact hc
    · unfold cL
      rw [eR 2 (by omega) q e]
      exact Nat.le_refl _
  obtain ⟨W0, WR, WD, WN, WH⟩ := W
  refine ⟨?_, fun q hq => ?_, fun j hj => ?_, ?_, ?_⟩
  · unfold W0_
    rw [f1, f2, eI 0 (by unfold Fr_; omega), eI 10 (by unfold Fr_; omega), eI 34 (by unfold Fr_; omega), eI 37 (by unfold Fr_; omega), eI 40 (by unfold Fr_; omega)]
    exact W0
  · rw [f1] at hq
    by_cases e : q = r
    · rw [e]; exact hW
    · refine Wr_c (Wr_le hn (WR q hq)) (fun g hg => ?_) (fun g hg k hk => eS g hg _ (by omega))
      by_cases g1 : g = 1 ∨ g = 60
      · rw [eI g (by unfold Fr_; omega)]
      · exact eR g (by omega) q e
  · rw [f2] at hj
    have w := WD j hj
    refine Wd_c (Wd_le hn w) (fun g hg => by rw [eI g (by unfold Fr_; omega)]) (fun g hg k hk => by rw [eI g (by unfold Fr_; omega)]) (fun q hq => by rw [eI 54 (by unfold Fr_; omega)]) (fun a => ?_) W0.2.1 (by omega) (by omega) (fun q _ => f3 q)
    refine We_c (w.2.2.2.2.2.2.2.2.2.2.2.2 a) (by rw [eI 28 (by unfold Fr_; omega)]) w.2.2.2.2.2.2.2.2.2.2.2.1.2.1 (by rw [eI 12 (by unfold Fr_; omega)]) (fun g hg k hk => by rw [eI g (by unfold Fr_; omega)]) (fun g hg k hk => by rw [eJ g (by omega)]) (fun g hg k hk i hi => by rw [eJ g (by omega)])
  · rw [Nm_c f2 (fun j _ => by rw [eI 16 (by unfold Fr_; omega)]) (fun j _ k _ => by rw [eI 15 (by unfold Fr_; omega)])]
    exact WN
  · have f4 : ∀ q, q ≠ r → cL M' q = cL M q := fun q hq => by unfold cL; rw [eR 2 (by omega) q hq]
    have f5 : ∀ q, sL M' q = sL M q := fun q => by unfold sL; rw [eI 1 (by unfold Fr_; omega)]
    have f6 : ∀ j, kD M' j = kD M j := fun j => by unfold kD; rw [eI 11 (by unfold Fr_; omega)]
    have f7 : ∀ j, rM M' j = rM M j := fun j => by unfold rM; rw [eI 14 (by unfold Fr_; omega)]
    have f8 : ∀ j k, rG M' j k = rG M j k := fun j k => by unfold rG; rw [eI 12 (by unfold Fr_; omega)]
    have f9 : ∀ j k, pL M' j k = pL M j k := fun j k => by unfold pL; rw [eI 13 (by unfold Fr_; omega)]
    refine ⟨fun z q hq => ?_, fun j hj a1 a3 a4 k hk => ?_⟩
    · rw [eI 34 (by unfold Fr_; omega)] at z
      rw [f1] at hq
      by_cases e : q = r
      · rcases hH with hH | hH
        · rw [e, hH]
          exact WH.1 z r (by rw [← e]; exact hq)
        · exact absurd z hH.1
      · rw [f4 q e]
        exact WH.1 z q hq
    · rw [f2] at hj
      rw [f6] at a1 a3 a4
      rw [f7] at hk
      rw [f8, f9, f5]
      by_cases e : rG M j k = r
      · rcases hH with hH | hH
        · rw [e, hH, ← e]
          exact WH.2 j hj a1 a3 a4 k hk
        · rw [e]
          exact hH.2 j hj a1 a3 a4 k hk e
      · rw [f4 _ e]
        exact WH.2 j hj a1 a3 a4 k hk
/-- a reader's own numbers change -/
theorem Wf_d (W : Wf_ n M) (hn : n ≤ n') {j : Nat} (eI : ∀ g, g < 11 ∨ g = 34 ∨ g = 37 ∨ g = 40 ∨ (50 ≤ g ∧ g ≤ 53) ∨ g = 60 → g ≠ 4 → g ≠ 6 → g ≠ 8 → g ≠ 9 → m_I M' g = m_I M g) (eD : ∀ g, g = 11 ∨ g = 14 ∨ g = 16 ∨ g = 17 ∨ g = 21 ∨ g = 23 ∨ g = 25 ∨ g = 28 ∨ g = 55 ∨ g = 56 ∨ g = 58 → ∀ q, q ≠ j → m_I M' g q = m_I M g q) (e4 : ∀ g, g = 12 ∨ g = 13 ∨ g = 15 → ∀ i, i / 4 ≠ j → m_I M' g i = m_I M g i) (e8 : ∀ i, i / 8 ≠ j → m_I M' 54 i = m_I M 54 i) (e32 : ∀ g, g = 66 ∨ g = 29 ∨ g = 31 ∨ g = 32 ∨ g = 57 ∨ g = 61 ∨ g = 62 ∨ g = 63 → ∀ i, i / 32 ≠ j → m_I M' g i = m_I M g i) (eJ : ∀ g, g = 30 ∨ g = 64 → ∀ i, i / 32 ≠ j → m_J M' g i = m_J M g i) (eW : ∀ g, g = 33 ∨ g = 65 → ∀ i, i / 256 ≠ j → m_J M' g i = m_J M g i) (hW : Wd_n n' M' j) (hN : ∀ i, ¬ Relation.TransGen (Nm_ M') i i) (hH : kD M' j ≠ 1 → kD M' j ≠ 3 → kD M' j ≠ 4 → ∀ k, k < rM M' j → cL M (rG M' j k) ≤ pL M' j k + sL M (rG M' j k)) : Wf_ n' M' := by
  have f1 : nR M' = nR M := by unfold nR; rw [eI 0 (by omega) (by omega) (by omega) (by omega) (by omega)]
  have f2 : nD M' = nD M := by unfold nD; rw [eI 10 (by omega) (by omega) (by omega) (by omega) (by omega)]
  have f3 : ∀ q, cL M' q = cL M q := fun q => by unfold cL; rw [eI 2 (by omega) (by omega) (by omega) (by omega) (by omega)]
  obtain ⟨W0, WR, WD, WN, WH⟩ := W
  refine ⟨?_, fun q hq => ?_, fun i hi => ?_, hN, ?_⟩
  · unfold W0_
    rw [f1, f2, eI 0 (by omega) (by omega) (by omega) (by omega) (by omega), eI 10 (by omega) (by omega) (by omega) (by omega) (by omega), eI 34 (by omega) (by omega) (by omega) (by omega) (by omega), eI 37 (by omega) (by omega) (by omega) (by omega) (by omega), eI 40 (by omega) (by omega) (by omega) (by omega) (by omega)]
    exact W0
  · rw [f1] at hq
    exact Wr_c (Wr_le hn (WR q hq)) (fun g hg => by rw [eI g (by omega) (by omega) (by omega) (by omega) (by omega)]) (fun g hg k hk => by rw [eI g (by omega) (by omega) (by omega) (by omega) (by omega)])
  · rw [f2] at hi
    by_cases e : i = j
    · rw [e]; exact hW
    · have w := WD i hi
      refine Wd_c (Wd_le hn w) (fun g hg => eD g hg i e) (fun g hg k hk => e4 g hg _ (by omega)) (fun q hq => e8 _ (by omega)) (fun a => ?_) W0.2.1 (by omega) (by omega) (fun q _ => by rw [f3]; exact Nat.le_refl _)
      exact We_c (w.2.2.2.2.2.2.2.2.2.2.2.2 a) (eD 28 (by omega) i e) w.2.2.2.2.2.2.2.2.2.2.2.1.2.1 (e4 12 (by omega) _ (by omega)) (fun g hg k hk => e32 g hg _ (by omega)) (fun g hg k hk => eJ g hg _ (by omega)) (fun g hg k hk i' hi' => eW g hg _ (by omega))
  · have f5 : ∀ q, sL M' q = sL M q := fun q => by unfold sL; rw [eI 1 (by omega) (by omega) (by omega) (by omega) (by omega)]
    refine ⟨fun z q hq => ?_, fun i hi a1 a3 a4 k hk => ?_⟩
    · rw [eI 34 (by omega) (by omega) (by omega) (by omega) (by omega)] at z
      rw [f1] at hq
      rw [f3]
      exact WH.1 z q hq
    · rw [f2] at hi
      rw [f3, f5]
      by_cases e : i = j
      · subst e
        exact hH a1 a3 a4 k hk
      · have w := WD i hi
        have f6 : kD M' i = kD M i := by unfold kD; rw [eD 11 (by omega) i e]
        have f7 : rM M' i = rM M i := by unfold rM; rw [eD 14 (by omega) i e]
        rw [f6] at a1 a3 a4
        rw [f7] at hk
        have hk4 : k < 4 := by have := w.2.1.2.2.1; omega
        have f8 : rG M' i k = rG M i k := by unfold rG; rw [e4 12 (by omega) _ (by omega)]
        have f9 : pL M' i k = pL M i k := by unfold pL; rw [e4 13 (by omega) _ (by omega)]
        rw [f8, f9]
        exact WH.2 i hi a1 a3 a4 k hk
theorem Nm_d (e10 : m_I M' 10 = m_I M 10) (e16 : m_I M' 16 = m_I M 16) (e15 : m_I M' 15 = m_I M 15) (W : Wf_ n M) : ∀ i, ¬ Relation.TransGen (Nm_ M') i i := by
  rw [Nm_c (M := M) (M' := M') (by unfold nD; rw [e10]) (fun j _ => by rw [e16]) (fun j _ k _ => by rw [e15])]
  exact W.2.2.2.1
theorem ok_begin : Ok_begin Inv_ := by
  intro n h M hn I
  obtain ⟨A, B, ow, C, Z⟩ := id I
  have W := C.2.2.2.2
  show Rs_ n _ _
  unfold f_X3_begin f_X4_begin
  rw [if_pos C.2.1.1.1, rI_34 C]
  by_cases e : m_I M 34 0 = 0
  · rw [if_pos e, if_pos e]
    refine ⟨_, _, 1, _, rfl, rfl, ag_rf _, inv_mo _ _ _ ⟨A, B, ow, Cn_of (Pn_wI (Pn_of C) (f := 34) (i := 0) rfl 1 (by omega) (by omega) (by omega) (by omega) (by omega) (by omega) (by omega)) ?_, Z_b (by rw [nI_s]; decide)⟩⟩
    refine Wf_0 W ?_ (fun z => by rw [nI_s] at z; exact absurd z (by decide)) (fun g hg _ _ _ _ _ _ _ => n_I_o (by omega)) (fun g hg => rfl)
    obtain ⟨a1, a2, a3, a4, a5, a6, a7⟩ := W.1
    exact ⟨a1, a2, a3, a4, Or.inr rfl, a6, a7⟩
  · rw [if_neg e, if_neg e]
    exact rs_v I _
theorem ok_again : Ok_again Inv_ := by
  intro n h M hn I
  obtain ⟨A, B, ow, C, Z⟩ := id I
  have W := C.2.2.2.2
  show Rs_ n _ _
  unfold f_X3_again f_X4_again
  rw [if_pos C.2.1.1.1, rI_37 C]
  rcases W.1.2.2.2.2.2.1 with e | e
  · rw [if_pos e, if_pos (by rw [e]; decide)]
    exact rs_f C Z (t := 6) (by omega) (by omega)
  · rw [if_neg (fun z => by rw [z] at e; exact absurd e (by decide)), if_neg (by rw [Int32.not_le]; exact e)]
    exact rs_v I _
theorem how_3 {r : Nat} (w : Wr_ n M r) : (m_I M 3 r = 0 ∧ m_I M 50 r = 0 ∧ m_I M 51 r = 0) ∨ (m_I M 3 r = 1 ∧ m_I M 50 r = 0 ∧ m_I M 51 r = 1) ∨ (m_I M 3 r = 2 ∧ m_I M 50 r = 1) := w.2.2.2.2.1
theorem ok_told : Ok_told Inv_ := by
  intro n h M x y hn I
  obtain ⟨A, B, ow, C, Z⟩ := id I
  have W := C.2.2.2.2
  show Rs_ n _ _
  unfold f_X3_told f_X4_told
  simp only [if_pos C.2.1.1.1]
  by_cases y0 : y < 0
  · rw [if_pos y0, if_pos y0]
    exact rs_v I _
  rw [if_neg y0, if_neg y0]
  by_cases y6' : ¬ y ≤ 6
  · rw [if_neg y6', if_neg y6']
    exact rs_v I _
  have y6 : y ≤ 6 := Classical.not_not.mp y6'
  rw [if_pos y6, if_pos y6]
  rcases ring_c C x with ⟨a, b⟩ | ⟨r, hr, h8, rfl, a, b⟩
  · rw [a, b]
    simp only [Option.bind_some, if_true]
    exact rs_f C Z (t := 2) (by omega) (by omega)
  obtain ⟨v, v1, v2⟩ := holders_c C hr h8
  have w := W.2.1 r hr
  rw [a, b]
  simp only [Option.bind_some, reduceCtorEq, if_false, (C.2.1.2.2.2.1 r hr).1, if_true, in_nI h8 (show 8 ≤ 65536 by omega), cl_nI (show r < 2 ^ 31 by omega), rI_1 C hr, rI_2 C hr, rI_50 C hr, rI_51 C hr, countOpen3 C hr, openMany4 W (show n ≤ 512 by omega) hr, least3 C hr h8, least4 W hr, v1, v2, w.2.2.1, isHeldUp3 C (show n ≤ 512 by omega) hr (show cL M r < 2 ^ 29 by have := w.2.2.2.1; omega), isHeldUp4 W (show n ≤ 512 by omega) hr]
  rw [if_neg (show ¬ (1 : Int32) = 0 by decide)]
  by_cases c0 : y = 0
  · rw [if_pos c0, if_pos c0]; exact rs_v I _
  rw [if_neg c0, if_neg c0]
  by_cases c1 : y = 1
  · rw [if_pos c1, if_pos c1]; exact rs_v I _
  rw [if_neg c1, if_neg c1]
  by_cases c2 : y = 2
  · rw [if_pos c2, if_pos c2]; exact rs_v I _
  rw [if_neg c2, if_neg c2]
  by_cases c3 : y = 3
  · rw [if_pos c3, if_pos c3]; exact rs_v I _
  rw [if_neg c3, if_neg c3]
  by_cases c4 : y = 4
  · rw [if_pos c4, if_pos c4]; exact rs_v I _
  rw [if_neg c4, if_neg c4]
  by_cases c5 : y = 5
  · rw [if_pos c5, if_pos c5]
    split
    · exact rs_v I _
    · exact rs_v I _
  rw [if_neg c5, if_neg c5]
  rcases how_3 w with ⟨q1, q2, q3⟩ | ⟨q1, q2, q3⟩ | ⟨q1, q2⟩
  · rw [q1, q2, q3]; exact rs_v I _
  · rw [q1, q2, q3]; exact rs_v I _
  · rw [q1, q2]; exact rs_v I _
theorem ok_close : Ok_close Inv_ := by
  intro n h M x hn I
  obtain ⟨A, B, ow, C, Z⟩ := id I
  have W := C.2.2.2.2
  show Rs_ n _ _
  unfold f_X3_close f_X4_close
  simp only [if_pos C.2.1.1.1, rI_34 C]
  rcases ring_c C x with ⟨a, b⟩ | ⟨r, hr, h8, rfl, a, b⟩
  · rw [a, b]
    exact rs_v I _
  have w := W.2.1 r hr
  rw [a, b]
  simp only [Option.bind_some, reduceCtorEq, if_false, (C.2.1.2.2.2.1 r hr).1, if_true, in_nI h8 (show 8 ≤ 65536 by omega), cl_nI (show r < 2 ^ 31 by omega), rI_50 C hr, rI_51 C hr]
  rw [if_neg (show ¬ (1 : Int32) = 0 by decide)]
  by_cases e : m_I M 34 0 = 0
  · rw [if_pos e, if_pos e]; exact rs_v I _
  rw [if_neg e, if_neg e]
  rcases how_3 w with ⟨q1, q2, q3⟩ | ⟨q1, q2, q3⟩ | ⟨q1, q2⟩
  · rw [q1, q2, q3]
    refine ⟨_, _, 1, _, rfl, rfl, ag_g (ag_rf _) (f := 51) (i := r) (x := 1) (by omega) (by omega), inv_mo _ _ _ ⟨A, B, ow, Cn_of (Pn_wI (Pn_mI (Pn_of C) (f := 3) (i := r) (x := 1) (fun z => z) (by omega) (by omega) (by omega) (by omega) (by omega) (by omega) (by omega)) (f := 51) (i := r) hr 1 (by omega) (by omega) (by omega) (by omega) (by omega) (by omega) (by omega)) ?_, Z_b (by rw [n_I_o (by omega), n_I_o (by omega)]; exact e)⟩⟩
    refine Wf_r W (Nat.le_refl n) (r := r) (fun g hg => by unfold Fr_ at hg; rw [n_I_o (by omega), n_I_o (by omega)]) (fun g hg q hq => by rw [nI_n (by omega), nI_n (by omega)]) (fun g hg i hi => by rw [n_I_o (by omega), n_I_o (by omega)]) (fun g hg => rfl) ?_ (Nat.le_refl _) (Or.inl rfl)
    obtain ⟨w1, w2, w3, w4, w5, w6, w7, w8⟩ := w
    refine ⟨w1, w2, w3, w4, Or.inr (Or.inl ⟨by rw [nI_n (by omega)]; exact nI_s, by rw [nI_n (by omega), nI_n (by omega)]; exact q2, nI_s⟩), w6, fun k hk => ?_, w8⟩
    obtain ⟨u1, u2, u3, u4⟩ := w7 k hk
    exact ⟨u1, u2, fun z => by rw [nI_n (by omega), nI_s] at z; exact absurd z (by decide), u4⟩
  · rw [q1, q2, q3]
    exact rs_v I _
  · rw [q1, q2]
    exact rs_v I _
/-- the least place against a bound -/
def Qk (K x : Int32) : Prop := x < 0 ∨ K ≤ x
theorem Qk_gL {K acc : Int32} {q j : Nat} : Qk K (gL M q j acc) ↔ Qk K acc ∧ Qk K (hP M j q) := by
  unfold gL Qk
  by_cases e1 : hP M j q < 0
  · rw [if_pos e1]
    exact ⟨fun z => ⟨z, Or.inl e1⟩, fun z => z.1⟩
  · rw [if_neg e1]
    by_cases e2 : acc < 0
    · rw [if_pos e2]
      exact ⟨fun z => ⟨Or.inl e2, z⟩, fun z => z.2⟩
    · rw [if_neg e2]
      simp only [Int32.lt_iff_toInt_lt, Int32.le_iff_toInt_le] at *
      have : (0 : Int32).toInt = 0 := rfl
      by_cases e3 : acc.toInt ≤ (hP M j q).toInt
      · rw [if_pos e3]
        omega
      · rw [if_neg e3]
        omega
theorem Qk_fd {K : Int32} {q : Nat} : ∀ (m i : Nat) (acc : Int32), Qk K (fdA (gL M q) m i acc) ↔ Qk K acc ∧ ∀ j, i ≤ j → j < i + m → Qk K (hP M j q)
  | 0, i, acc => by
    unfold fdA
    exact ⟨fun z => ⟨z, fun j a b => by omega⟩, fun z => z.1⟩
  | m + 1, i, acc => by
    rw [fdA, Qk_fd m (i + 1) _, Qk_gL]
    constructor
    · rintro ⟨⟨a, b⟩, c⟩
      refine ⟨a, fun j h1 h2 => ?_⟩
      by_cases e : j = i
      · rw [e]; exact b
      · exact c j (by omega) (by omega)
    · rintro ⟨a, c⟩
      exact ⟨⟨a, c i (Nat.le_refl i) (by omega)⟩, fun j h1 h2 => c j (by omega) (by omega)⟩
theorem lP_hL {r : Nat} (h16 : nD M ≤ 16) {K X : Int32} (hK : ∀ y : Int32, X < y ↔ K ≤ y) : hL M r X < 0 ↔ (lP M r < 0 ∨ K ≤ lP M r) := by
  show _ ↔ Qk K (lP M r)
  unfold lP
  rw [Qk_fd]
  unfold hL
  constructor
  · intro z
    rcases lsA_or (hB M r X) 16 0 (-1) with ⟨-, h1⟩ | ⟨t, -, h2, -, h4, -⟩
    · refine ⟨Or.inl (by decide), fun j _ hj => ?_⟩
      have := h1 j (by omega) (by omega)
      simp only [hB, decide_eq_false_iff_not] at this
      unfold Qk
      rw [← hK]
      by_cases e : hP M j r < 0
      · exact Or.inl e
      · right
        by_cases e2 : X < hP M j r
        · exact e2
        · exact absurd ⟨by omega, e, e2⟩ this
    · rw [h4] at z
      exact absurd z (nI_pos (by omega))
  · rintro ⟨-, z⟩
    rcases lsA_or (hB M r X) 16 0 (-1) with ⟨h1, -⟩ | ⟨t, -, h2, h3, h4, -⟩
    · rw [h1]; decide
    · simp only [hB, decide_eq_true_eq] at h3
      rcases z t (by omega) (by omega) with y | y
      · exact absurd y h3.2.1
      · exact absurd ((hK _).mpr y) h3.2.2
theorem give_w {r : Nat} (C : Cn_ n A B ow h M) (hb : m_I M 34 0 ≠ 0) (hr : r < nR M) (h0 : smA (oF M r) (sL M r) = 0) : Rs_ n (some (s_I h (A r) 6 1, 1)) (some (n_I M 3 r 2, 1)) := by
  have W := C.2.2.2.2
  have w := W.2.1 r hr
  refine ⟨_, _, 1, _, rfl, rfl, ag_g (ag_rf _) (f := 50) (i := r) (x := 1) (by omega) (by omega), inv_mo _ _ _ ⟨A, B, ow, Cn_of (Pn_wI (Pn_mI (Pn_of C) (f := 3) (i := r) (x := 2) (fun z => z) (by omega) (by omega) (by omega) (by omega) (by omega) (by omega) (by omega)) (f := 50) (i := r) hr 1 (by omega) (by omega) (by omega) (by omega) (by omega) (by omega) (by omega)) ?_, Z_b (by rw [n_I_o (by omega), n_I_o (by omega)]; exact hb)⟩⟩
  refine Wf_r W (Nat.le_refl n) (r := r) (fun g hg => by unfold Fr_ at hg; rw [n_I_o (by omega), n_I_o (by omega)]) (fun g hg q hq => by rw [nI_n (by omega), nI_n (by omega)]) (fun g hg i hi => by rw [n_I_o (by omega), n_I_o (by omega)]) (fun g hg => rfl) ?_ (Nat.le_refl _) (Or.inl rfl)
  obtain ⟨w1, w2, w3, w4, w5, w6, w7, w8⟩ := w
  have hz : ∀ m, smA (oF M r) m = 0 → ∀ k, k < m → oF M r k = 0 := by
    intro m
    induction m with
    | zero => intro _ k hk; omega
    | succ m ih =>
      intro z k hk
      rw [smA] at z
      by_cases e : k = m
      · rw [e]; omega
      · exact ih (by omega) k (by omega)
  refine ⟨w1, w2, w3, w4, Or.inr (Or.inr ⟨by rw [nI_n (by omega)]; exact nI_s, nI_s⟩), w6, fun k hk => ?_, w8⟩
  obtain ⟨u1, u2, u3, u4⟩ := w7 k hk
  refine ⟨u1, u2, fun _ => ?_, u4⟩
  have := hz _ h0 k hk
  show m_I M 5 (64 * r + k) = 0
  unfold oF at this
  by_cases e : m_I M 5 (64 * r + k) = 0
  · exact e
  · rw [if_neg e] at this
    omega
theorem ok_give : Ok_give Inv_ := by
  intro n h M x hn I
  obtain ⟨A, B, ow, C, Z⟩ := id I
  have W := C.2.2.2.2
  show Rs_ n _ _
  unfold f_X3_give f_X4_give
  simp only [if_pos C.2.1.1.1, rI_34 C]
  rcases ring_c C x with ⟨a, b⟩ | ⟨r, hr, h8, rfl, a, b⟩
  · rw [a, b]
    exact rs_v I _
  have w := W.2.1 r hr
  have hs := sl_b w
  have hc := w.2.2.2.1
  have hsm := smA_le (oF M r) (fun k => by unfold oF; split <;> omega) (sL M r)
  have hK : ∀ y : Int32, nI (cL M r) - 1 < y ↔ nI (cL M r) ≤ y := fun y => by
    have := pk_sub_toInt (a := cL M r) (b := 1) (by omega) (by omega)
    rw [Int32.lt_iff_toInt_lt, Int32.le_iff_toInt_le, nI_toInt (by omega), show (1 : Int32) = nI 1 from rfl, this]
    omega
  have hq := lP_hL (r := r) W.1.2.2.2.1 hK
  rw [a, b]
  simp only [Option.bind_some, reduceCtorEq, if_false, (C.2.1.2.2.2.1 r hr).1, if_true, in_nI h8 (show 8 ≤ 65536 by omega), cl_nI (show r < 2 ^ 31 by omega), rI_50 C hr, rI_2 C hr, w.2.2.1, countOpen3 C hr, openMany4 W (show n ≤ 512 by omega) hr, holderUpTo_c C hr h8, least4 W hr, b_d_eq]
  rw [if_neg (show ¬ (1 : Int32) = 0 by decide)]
  by_cases e : m_I M 34 0 = 0
  · rw [if_pos e, if_pos e]; exact rs_v I _
  rw [if_neg e, if_neg e]
  have key : Rs_ n (if 0 < nI (smA (oF M r) (sL M r)) then some (h, -10) else if hL M r (nI (cL M r) - 1) < 0 then some (s_I h (A r) 6 1, 1) else some (h, -10)) (if 0 < nI (smA (oF M r) (sL M r)) then some (M, -10) else if lP M r < 0 then some (n_I M 3 r 2, 1) else if nI (cL M r) ≤ lP M r then some (n_I M 3 r 2, 1) else some (M, -10)) := by
    by_cases c1 : 0 < nI (smA (oF M r) (sL M r))
    · rw [if_pos c1, if_pos c1]; exact rs_v I _
    rw [if_neg c1, if_neg c1]
    have h0 : smA (oF M r) (sL M r) = 0 := by
      rw [litlt (n := 0) rfl (by omega)] at c1
      omega
    by_cases c2 : lP M r < 0
    · rw [if_pos (hq.mpr (Or.inl c2)), if_pos c2]
      exact give_w C e hr h0
    · rw [if_neg c2]
      by_cases c3 : nI (cL M r) ≤ lP M r
      · rw [if_pos (hq.mpr (Or.inr c3)), if_pos c3]
        exact give_w C e hr h0
      · rw [if_neg (fun z => (hq.mp z).elim c2 c3), if_neg c3]
        exact rs_v I _
  rcases how_3 w with ⟨q1, q2, q3⟩ | ⟨q1, q2, q3⟩ | ⟨q1, q2⟩
  · rw [q1, q2, if_pos rfl, if_neg (show ¬ (0 : Int32) = 2 by decide)]; exact key
  · rw [q1, q2, if_pos rfl, if_neg (show ¬ (1 : Int32) = 2 by decide)]; exact key
  · rw [q1, q2, if_neg (show ¬ (1 : Int32) = 0 by decide), if_pos rfl]; exact rs_v I _
end RS
