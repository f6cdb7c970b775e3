/-! what a write leaves of the invariant -/
theorem Ms_ext {M M' : Msx} (hI : ∀ a b, m_I M a b = m_I M' a b) (hJ : ∀ a b, m_J M a b = m_J M' a b) : M = M' := Prod.ext (funext fun a => funext fun b => hI a b) (funext fun a => funext fun b => hJ a b)
theorem nI_comm {M : Msx} {f i g j : Nat} {x y : Int32} (e : ¬ (f = g ∧ i = j)) : n_I (n_I M f i x) g j y = n_I (n_I M g j y) f i x := by
  refine Ms_ext (fun a b => ?_) (fun a b => rfl)
  simp only [nI_at]
  by_cases e1 : a = g ∧ b = j
  · have e2 : ¬ (a = f ∧ b = i) := by omega
    rw [if_pos e1, if_neg e2, if_pos e1]
  · rw [if_neg e1, if_neg e1]
section KP
variable {n : Nat} {A B ow : Nat → Nat} {h : Hpx} {M M' : Msx}
theorem Wr_c {r : Nat} (w : Wr_ n M r) (e : ∀ g, g = 1 ∨ g = 2 ∨ g = 3 ∨ g = 50 ∨ g = 51 ∨ g = 60 → m_I M' g r = m_I M g r) (e' : ∀ g, g = 5 ∨ g = 7 ∨ g = 52 ∨ g = 53 → ∀ k, k < 64 → m_I M' g (64 * r + k) = m_I M g (64 * r + k)) : Wr_ n M' r := by
  have hs := sl_b w
  have es : sL M' r = sL M r := by unfold sL; rw [e 1 (by omega)]
  have ec : cL M' r = cL M r := by unfold cL; rw [e 2 (by omega)]
  obtain ⟨w1, w2, w3, w4, w5, w6, w7, w8⟩ := w
  unfold Wr_
  rw [es, ec, e 1 (by omega), e 2 (by omega), e 3 (by omega), e 50 (by omega), e 51 (by omega), e 60 (by omega)]
  refine ⟨w1, w2, w3, w4, w5, w6, fun k hk => ?_, fun q h1 h2 => ?_⟩
  · rw [e' 5 (by omega) k (by omega), e' 52 (by omega) k (by omega), e' 7 (by omega) k (by omega)]
    exact w7 k hk
  · have := Nat.mod_lt q (show sL M r > 0 by omega)
    rw [e' 53 (by omega) _ (by omega)]
    exact w8 q h1 h2
theorem We_c {j : Nat} (w : We_ M j) (h28 : m_I M' 28 j = m_I M 28 j) (h32 : eM M j ≤ 32) (h12 : m_I M' 12 (4 * j) = m_I M 12 (4 * j)) (e : ∀ g, g = 66 ∨ g = 29 ∨ g = 31 ∨ g = 32 ∨ g = 57 ∨ g = 61 ∨ g = 62 ∨ g = 63 → ∀ k, k < 32 → m_I M' g (32 * j + k) = m_I M g (32 * j + k)) (eJ : ∀ g, g = 30 ∨ g = 64 → ∀ k, k < 32 → m_J M' g (32 * j + k) = m_J M g (32 * j + k)) (eW : ∀ g, g = 33 ∨ g = 65 → ∀ k, k < 32 → ∀ i, i < 8 → m_J M' g (8 * (32 * j + k) + i) = m_J M g (8 * (32 * j + k) + i)) : We_ M' j := by
  have es : ∀ k, k < 32 → sG M' j k = sG M j k := fun k hk => by unfold sG; rw [e 66 (by omega) k hk]
  have ee : eM M' j = eM M j := by unfold eM; rw [h28]
  obtain ⟨w1, w2, w3, w4⟩ := w
  refine ⟨fun k hk => ?_, fun a b ha hb q => ?_, fun k hk => ?_, fun a b ha hb q => ?_⟩
  · rw [es k hk, e 66 (by omega) k hk]
    exact w1 k hk
  · rw [es a ha, es b hb] at q
    exact w2 a b ha hb q
  · rw [ee] at hk
    have hk2 : k < 32 := by omega
    have hs := (w1 k hk2).2
    rw [es k hk2, e 29 (by omega) k hk2, e 61 (by omega) _ hs, e 31 (by omega) k hk2, e 62 (by omega) _ hs, e 32 (by omega) k hk2, e 63 (by omega) _ hs, eJ 30 (by omega) k hk2, eJ 64 (by omega) _ hs, e 57 (by omega) _ hs, h12]
    obtain ⟨a1, a2, a3, a4, a5, a6⟩ := w3 k hk
    refine ⟨a1, a2, a3, a4, fun i hi => ?_, a6⟩
    rw [eW 33 (by omega) k hk2 i hi, eW 65 (by omega) _ hs i hi]
    exact a5 i hi
  · rw [ee] at ha hb
    rw [e 31 (by omega) a (by omega), e 31 (by omega) b (by omega)] at q
    exact w4 a b ha hb q
/-- a reader's numbers rest on its own fields, on how many rings and readers there are, and on the claims made -/
theorem Wd_c {j : Nat} (w : Wd_n n M j) (e : ∀ g, g = 11 ∨ g = 14 ∨ g = 16 ∨ g = 17 ∨ g = 21 ∨ g = 23 ∨ g = 25 ∨ g = 28 ∨ g = 55 ∨ g = 56 ∨ g = 58 → m_I M' g j = m_I M g j) (e4 : ∀ g, g = 12 ∨ g = 13 ∨ g = 15 → ∀ k, k < 4 → m_I M' g (4 * j + k) = m_I M g (4 * j + k)) (e8 : ∀ q, q < 8 → m_I M' 54 (8 * j + q) = m_I M 54 (8 * j + q)) (eE : kD M j = 4 → We_ M' j) (h8 : nR M ≤ 8) (hR : nR M ≤ nR M') (hD : nD M ≤ nD M') (hc : ∀ q, q < nR M → cL M q ≤ cL M' q) : Wd_n n M' j := by
  have k1 : kD M' j = kD M j := by unfold kD; rw [e 11 (by omega)]
  have k2 : rM M' j = rM M j := by unfold rM; rw [e 14 (by omega)]
  have k3 : nM M' j = nM M j := by unfold nM; rw [e 16 (by omega)]
  have k4 : tG M' j = tG M j := by unfold tG; rw [e 17 (by omega)]
  have k5 : eM M' j = eM M j := by unfold eM; rw [e 28 (by omega)]
  have k6 : ∀ k, k < 4 → rG M' j k = rG M j k := fun k hk => by unfold rG; rw [e4 12 (by omega) k hk]
  have k7 : ∀ k, k < 4 → pL M' j k = pL M j k := fun k hk => by unfold pL; rw [e4 13 (by omega) k hk]
  have k8 : ∀ k, k < 4 → nA M' j k = nA M j k := fun k hk => by unfold nA; rw [e4 15 (by omega) k hk]
  obtain ⟨w1, w2, w3, w4, w5, w6, w7, w8, w9, w10, w11, w12, w13⟩ := w
  unfold Wd_n
  rw [k1, k2, k3, k4, k5, k6 0 (by omega), e 11 (by omega), e 14 (by omega), e 16 (by omega), e 17 (by omega), e 21 (by omega), e 23 (by omega), e 25 (by omega), e 28 (by omega), e 55 (by omega), e 56 (by omega), e 58 (by omega)]
  refine ⟨w1, w2, fun k hk => ?_, fun a b ha hb q => ?_, fun a1 a4 => ?_, fun a q hq => ?_, w7, fun k hk => ?_, fun i hi => ?_, fun a => ?_, w11, w12, eE⟩
  · have hk4 : k < 4 := by omega
    rw [k6 k hk4, k7 k hk4, e4 12 (by omega) k hk4, e4 13 (by omega) k hk4]
    obtain ⟨b1, b2, b3, b4⟩ := w3 k hk
    exact ⟨b1, by omega, b3, Nat.le_trans b4 (hc _ b2)⟩
  · rw [k6 a (by omega), k6 b (by omega)] at q
    exact w4 a b ha hb q
  · obtain ⟨b1, b2, b3⟩ := w5 a1 a4
    refine ⟨fun k hk => ?_, fun q hq hno => ?_, b3⟩
    · have hk4 : k < 4 := by omega
      have hr := (w3 k hk).2.1
      rw [k6 k hk4, e8 _ (by omega), e4 13 (by omega) k hk4]
      exact b1 k hk
    · rw [e8 q hq]
      exact b2 q hq fun k hk z => hno k hk (by rw [k6 k (by omega)]; exact z)
  · rw [e8 q hq]
    exact w6 a q hq
  · have hk4 : k < 4 := by omega
    rw [k8 k hk4, e4 15 (by omega) k hk4]
    obtain ⟨b1, b2⟩ := w8 k hk
    exact ⟨b1, by omega⟩
  · rw [w9 i hi]
    constructor
    · intro z k hk
      rw [k8 k (by omega)]
      exact z k hk
    · intro z k hk
      have := z k hk
      rw [k8 k (by omega)] at this
      exact this
  · obtain ⟨b1, b2, b3⟩ := w10 a
    exact ⟨b1, by omega, b3⟩
theorem Nm_c (e10 : nD M' = nD M) (e16 : ∀ j, j < nD M → m_I M' 16 j = m_I M 16 j) (e15 : ∀ j, j < nD M → ∀ k, k < nM M j → m_I M' 15 (4 * j + k) = m_I M 15 (4 * j + k)) : Nm_ M' = Nm_ M := by
  funext j i
  apply propext
  have key : j < nD M → (nM M' j = nM M j) := fun hj => by unfold nM; rw [e16 j hj]
  constructor
  · rintro ⟨hj, k, hk, hki⟩
    rw [e10] at hj
    rw [key hj] at hk
    exact ⟨hj, k, hk, by unfold nA at hki ⊢; rw [e15 j hj k hk] at hki; exact hki⟩
  · rintro ⟨hj, k, hk, hki⟩
    exact ⟨by rw [e10]; exact hj, k, by rw [key hj]; exact hk, by unfold nA at hki ⊢; rw [e15 j hj k hk]; exact hki⟩
theorem Hd_c (H : Hd_ M) (h34 : m_I M' 34 0 = 0 → m_I M 34 0 = 0) (e : ∀ g, g = 0 ∨ g = 1 ∨ g = 2 ∨ g = 10 ∨ g = 11 ∨ g = 12 ∨ g = 13 ∨ g = 14 → m_I M' g = m_I M g) : Hd_ M' := by
  unfold Hd_ nR nD kD rM rG pL cL sL at *
  rw [e 0 (by omega), e 1 (by omega), e 2 (by omega), e 10 (by omega), e 11 (by omega), e 12 (by omega), e 13 (by omega), e 14 (by omega)]
  exact ⟨fun z => H.1 (h34 z), H.2⟩
/-- everything that the numbers speak of stands as it was -/
theorem Wf_c (W : Wf_ n M) (eI : ∀ g, g < 18 ∨ g = 21 ∨ g = 23 ∨ g = 25 ∨ (28 ≤ g ∧ g ≤ 32) ∨ g = 34 ∨ g = 37 ∨ g = 40 ∨ (50 ≤ g ∧ g ≤ 66) → g ≠ 4 → g ≠ 6 → g ≠ 8 → g ≠ 9 → g ≠ 59 → g ≠ 64 → g ≠ 65 → m_I M' g = m_I M g) (eJ : ∀ g, g = 30 ∨ g = 33 ∨ g = 64 ∨ g = 65 → m_J M' g = m_J M g) : Wf_ n M' := by
  have f1 : nR M' = nR M := by unfold nR; rw [eI 0 (by omega) (by omega) (by omega) (by omega) (by omega) (by omega) (by omega) (by omega)]
  have f2 : nD M' = nD M := by unfold nD; rw [eI 10 (by omega) (by omega) (by omega) (by omega) (by omega) (by omega) (by omega) (by omega)]
  have f3 : ∀ q, cL M' q = cL M q := fun q => by unfold cL; rw [eI 2 (by omega) (by omega) (by omega) (by omega) (by omega) (by omega) (by omega) (by omega)]
  obtain ⟨W0, WR, WD, WN, WH⟩ := W
  refine ⟨?_, fun r hr => ?_, fun j hj => ?_, ?_, Hd_c WH (fun z => by rw [eI 34 (by omega) (by omega) (by omega) (by omega) (by omega) (by omega) (by omega) (by omega)] at z; exact z) (fun g hg => eI g (by omega) (by omega) (by omega) (by omega) (by omega) (by omega) (by omega) (by omega))⟩
  · unfold W0_
    rw [f1, f2, eI 0 (by omega) (by omega) (by omega) (by omega) (by omega) (by omega) (by omega) (by omega), eI 10 (by omega) (by omega) (by omega) (by omega) (by omega) (by omega) (by omega) (by omega), eI 34 (by omega) (by omega) (by omega) (by omega) (by omega) (by omega) (by omega) (by omega), eI 37 (by omega) (by omega) (by omega) (by omega) (by omega) (by omega) (by omega) (by omega), eI 40 (by omega) (by omega) (by omega) (by omega) (by omega) (by omega) (by omega) (by omega)]
    exact W0
  · rw [f1] at hr
    exact Wr_c (WR r hr) (fun g hg => by rw [eI g (by omega) (by omega) (by omega) (by omega) (by omega) (by omega) (by omega) (by omega)]) (fun g hg k hk => by rw [eI g (by omega) (by omega) (by omega) (by omega) (by omega) (by omega) (by omega) (by omega)])
  · rw [f2] at hj
    have w := WD j hj
    refine Wd_c w (fun g hg => by rw [eI g (by omega) (by omega) (by omega) (by omega) (by omega) (by omega) (by omega) (by omega)]) (fun g hg k hk => by rw [eI g (by omega) (by omega) (by omega) (by omega) (by omega) (by omega) (by omega) (by omega)]) (fun q hq => by rw [eI 54 (by omega) (by omega) (by omega) (by omega) (by omega) (by omega) (by omega) (by omega)]) (fun a => ?_) W0.2.1 (by omega) (by omega) (fun q hq => by rw [f3]; exact Nat.le_refl _)
    refine We_c (w.2.2.2.2.2.2.2.2.2.2.2.2 a) (by rw [eI 28 (by omega) (by omega) (by omega) (by omega) (by omega) (by omega) (by omega) (by omega)]) w.2.2.2.2.2.2.2.2.2.2.2.1.2.1 (by rw [eI 12 (by omega) (by omega) (by omega) (by omega) (by omega) (by omega) (by omega) (by omega)]) (fun g hg k hk => by rw [eI g (by omega) (by omega) (by omega) (by omega) (by omega) (by omega) (by omega) (by omega)]) (fun g hg k hk => by rw [eJ g (by omega)]) (fun g hg k hk i hi => by rw [eJ g (by omega)])
  · rw [Nm_c f2 (fun j _ => by rw [eI 16 (by omega) (by omega) (by omega) (by omega) (by omega) (by omega) (by omega) (by omega)]) (fun j _ k _ => by rw [eI 15 (by omega) (by omega) (by omega) (by omega) (by omega) (by omega) (by omega) (by omega)])]
    exact WN
/-- the cells stand, as long as numbers of rings and readers, slots, kinds, rings, targets and entries' places stand -/
def Dn_ (M M' : Msx) : Prop := Dm_ M M' ∧ (∀ j, rG M' j 0 = rG M j 0) ∧ (∀ j, tG M' j = tG M j) ∧ ∀ j e, sG M' j e = sG M j e
theorem Dn_lB (d : Dn_ M M') (j : Nat) : lB M' j = lB M j := by unfold lB; rw [d.1.2.2.2 j]
theorem Ow_c (O : Ow_ A B ow M) (d : Dn_ M M') : Ow_ A B ow M' := by
  obtain ⟨w0, wA, wB, w8⟩ := O
  refine ⟨w0, fun r hr => ?_, fun j hj => ?_, by rw [d.1.1]; exact w8⟩
  · rw [d.1.1] at hr
    rw [d.1.2.2.1 r]
    exact wA r hr
  · rw [d.1.2.1] at hj
    rw [Dn_lB d j]
    exact wB j hj
theorem Sh_c {h' : Hpx} (S : Sh_ A B h M) (d : Dn_ M M') (ek : h_k h' = h_k h) (en : h_n h' = h_n h) (ez : h_z h' = h_z h) (eR : h_R h' = h_R h) : Sh_ A B h' M' := by
  obtain ⟨s0, sR, sD, sr, sd, sm, z1, z2⟩ := S
  refine ⟨?_, fun r hr => ?_, fun j hj => ?_, fun r hr => ?_, fun j hj => ?_, ?_, fun r hr => ?_, fun j hj => ?_⟩
  · unfold S0_
    rw [ek, en, eR]
    exact s0
  · rw [eR, d.1.1]
    exact sR r hr
  · rw [eR, d.1.2.1]
    exact sD j hj
  · rw [d.1.1] at hr
    unfold Sr_
    rw [ek, en, eR, d.1.2.2.1 r]
    exact sr r hr
  · rw [d.1.2.1] at hj
    unfold Sd_
    rw [ek, en, eR, d.1.2.2.2 j, d.2.1 j, d.2.2.1 j]
    have := sd j hj
    unfold Sd_ at this
    simp only [d.2.2.2 j]
    exact this
  · unfold MR_
    rw [ek, ez]
    exact sm
  · rw [d.1.1] at hr
    rw [ez, d.1.2.2.1 r]
    exact z1 r hr
  · rw [d.1.2.1] at hj
    rw [ez, Dn_lB d j]
    exact z2 j hj
theorem Dn_I {f i : Nat} {x : Int32} (h0 : f ≠ 0) (h10 : f ≠ 10) (h1 : f ≠ 1) (h11 : f ≠ 11) (h12 : f ≠ 12) (h17 : f ≠ 17) (h66 : f ≠ 66) : Dn_ M (n_I M f i x) := by
  refine ⟨nI_ne_dm h0 h10 h1 h11, fun j => ?_, fun j => ?_, fun j e => ?_⟩
  · unfold rG; rw [n_I_o (Ne.symm h12)]
  · unfold tG; rw [n_I_o (Ne.symm h17)]
  · unfold sG; rw [n_I_o (Ne.symm h66)]
theorem Dn_J {f i : Nat} {x : Int64} : Dn_ M (n_J M f i x) := ⟨⟨rfl, rfl, fun _ => rfl, fun _ => rfl⟩, fun _ => rfl, fun _ => rfl, fun _ _ => rfl⟩
/-- the class's cells and the reference's, without the numbers: for walks in which the numbers are put right at the end -/
def Pn_ (A B ow : Nat → Nat) (h : Hpx) (M : Msx) : Prop := Ow_ A B ow M ∧ Sh_ A B h M ∧ RI_ A B h M ∧ RJ_ A B h M
theorem Pn_wI (P : Pn_ A B ow h M) {f i : Nat} (hok : okI M f i) (x : Int32) (h0 : f ≠ 0) (h10 : f ≠ 10) (h1 : f ≠ 1) (h11 : f ≠ 11) (h12 : f ≠ 12) (h17 : f ≠ 17) (h66 : f ≠ 66) : Pn_ A B ow (s_I h (adI A B f i) (plI f i) x) (n_I M f i x) := by
  have d := Dn_I (M := M) (i := i) (x := x) h0 h10 h1 h11 h12 h17 h66
  exact ⟨Ow_c P.1 d, Sh_c P.2.1 d rfl rfl rfl rfl, RI_w P.1 P.2.2.1 hok x d.1, RJ_wI P.2.2.2 d.1⟩
theorem Pn_wJ (P : Pn_ A B ow h M) {f i : Nat} (hok : okJ M f i) (x : Int64) : Pn_ A B ow (s_J h (adJ A B f i) (plJ f i) x) (n_J M f i x) :=
  ⟨Ow_c P.1 Dn_J, Sh_c P.2.1 Dn_J rfl rfl rfl rfl, RI_wJ P.2.2.1, RJ_w P.1 P.2.2.2 hok x⟩
theorem Pn_mI (P : Pn_ A B ow h M) {f i : Nat} {x : Int32} (hno : ¬ okI M f i) (h0 : f ≠ 0) (h10 : f ≠ 10) (h1 : f ≠ 1) (h11 : f ≠ 11) (h12 : f ≠ 12) (h17 : f ≠ 17) (h66 : f ≠ 66) : Pn_ A B ow h (n_I M f i x) := by
  have d := Dn_I (M := M) (i := i) (x := x) h0 h10 h1 h11 h12 h17 h66
  exact ⟨Ow_c P.1 d, Sh_c P.2.1 d rfl rfl rfl rfl, RI_m P.2.2.1 d.1 hno, RJ_mI P.2.2.2 d.1⟩
theorem Pn_mJ (P : Pn_ A B ow h M) {f i : Nat} {x : Int64} (hno : ¬ okJ M f i) : Pn_ A B ow h (n_J M f i x) :=
  ⟨Ow_c P.1 Dn_J, Sh_c P.2.1 Dn_J rfl rfl rfl rfl, RI_mJ P.2.2.1, RJ_m P.2.2.2 hno⟩
theorem Pn_of (C : Cn_ n A B ow h M) : Pn_ A B ow h M := ⟨C.1, C.2.1, C.2.2.1, C.2.2.2.1⟩
theorem Cn_of (P : Pn_ A B ow h M) (W : Wf_ n M) : Cn_ n A B ow h M := ⟨P.1, P.2.1, P.2.2.1, P.2.2.2, W⟩
theorem wf_free {f i : Nat} {x : Int32} (W : Wf_ n M) (hf : (18 ≤ f ∧ f ≤ 20) ∨ f = 22 ∨ f = 24 ∨ f = 26 ∨ f = 27 ∨ f = 33 ∨ f = 35 ∨ f = 36 ∨ f = 38 ∨ f = 39 ∨ f = 41) : Wf_ n (n_I M f i x) :=
  Wf_c W (fun g hg _ _ _ _ _ _ _ => n_I_o (by omega)) (fun g hg => rfl)
theorem wf_freeJ {f i : Nat} {x : Int64} (W : Wf_ n M) (hf : f ≠ 30 ∧ f ≠ 33 ∧ f ≠ 64 ∧ f ≠ 65) : Wf_ n (n_J M f i x) :=
  Wf_c W (fun g hg _ _ _ _ _ _ _ => rfl) (fun g hg => n_J_o (by omega))
/-- a finding -/
theorem find_c (C : Cn_ n A B ow h M) {t : Nat} (h1 : 1 ≤ t) (h6 : t ≤ 6) : ∃ h' M', f_X3_finding h 0 (nI t) = some (h', -12) ∧ f_X4_find M (nI t) = some (M', -12) ∧ Cn_ n A B ow h' M' ∧ (Z_ M → Z_ M') := by
  obtain ⟨k0, r0, r1, r2, r3, k1, n1, k2, n2, k3, n3, -⟩ := C.2.1.1
  have P := Pn_of C
  have W := C.2.2.2.2
  have e0 : m_I M 38 t = h_I h 3 t := (rI_38 C (by omega) (by omega)).symm
  refine ⟨s_I (s_I h 3 t (h_I h 3 t + 1)) 0 7 (nI t), n_I (n_I M 38 0 (nI t)) 38 t (m_I M 38 t + 1), ?_, ?_, ?_, fun Z => Z_I (Z_I Z (by omega)) (by omega)⟩
  · unfold f_X3_finding
    rw [if_neg (by rw [ltlit (n := 1) rfl (by omega)]; omega), if_neg (by rw [litlt (n := 6) rfl (by omega)]; omega), if_pos k0, r2]
    simp only [Option.bind_some, k3, if_true, n3, in_nI (show t < 7 by omega) (show 7 ≤ 65536 by omega), b_d_eq, cl_nI (show t < 2 ^ 31 by omega)]
  · unfold f_X4_find
    rw [if_pos (by decide)]
    simp only [b_d_eq, in_nI (show t < 7 by omega) (show 7 ≤ 65536 by omega), if_true, cl_nI (show t < 2 ^ 31 by omega), sb_cl0]
    rw [nI_n (by omega)]
  · have P1 := Pn_wI P (f := 38) (i := t) (show t < 7 by omega) (m_I M 38 t + 1) (by omega) (by omega) (by omega) (by omega) (by omega) (by omega) (by omega)
    have P2 := Pn_wI P1 (f := 38) (i := 0) (show 0 < 7 by omega) (nI t) (by omega) (by omega) (by omega) (by omega) (by omega) (by omega) (by omega)
    have ea : adI A B 38 t = 3 := by show (if t = 0 then 0 else 3) = 3; rw [if_neg (by omega)]
    have ep : plI 38 t = t := by show (if t = 0 then 7 else t) = t; rw [if_neg (by omega)]
    rw [ea, ep, e0] at P2
    have em : n_I (n_I M 38 t (h_I h 3 t + 1)) 38 0 (nI t) = n_I (n_I M 38 0 (nI t)) 38 t (m_I M 38 t + 1) := by
      rw [e0]
      exact nI_comm (by omega)
    rw [← em]
    exact Cn_of P2 (wf_free (wf_free W (by omega)) (by omega))
end KP
