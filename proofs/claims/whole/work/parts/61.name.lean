/-! name -/
def nmM (j m o : Nat) (b : Int32) (M : Msx) : Msx := n_I (n_I (n_I M 15 (4 * j + m) (nI o)) 16 j (nI (m + 1))) 56 j b
def goK (M : Msx) (b : Nat) : Nat → Nat → Bool
  | 0, _ => false
  | k + 1, q => goK M b k q || (decide (nA M b k = q) && decide (m_I M 41 q ≠ 0))
section NA
variable {n : Nat} {A B ow : Nat → Nat} {h : Hpx} {M Mm : Msx}
theorem nmM_o {j m o g : Nat} {b : Int32} (h1 : g ≠ 15) (h2 : g ≠ 16) (h3 : g ≠ 56) : m_I (nmM j m o b M) g = m_I M g := by
  unfold nmM
  rw [n_I_o h3, n_I_o h2, n_I_o h1]
theorem nmM_15 {j m o i : Nat} {b : Int32} : m_I (nmM j m o b M) 15 i = if i = 4 * j + m then nI o else m_I M 15 i := by
  unfold nmM
  rw [n_I_o (by omega), n_I_o (by omega), nI_at]
  by_cases c : i = 4 * j + m
  · rw [if_pos ⟨rfl, c⟩, if_pos c]
  · rw [if_neg (fun z => c z.2), if_neg c]
theorem nmM_16 {j m o i : Nat} {b : Int32} : m_I (nmM j m o b M) 16 i = if i = j then nI (m + 1) else m_I M 16 i := by
  unfold nmM
  rw [n_I_o (by omega), nI_at, n_I_o (by omega)]
  by_cases c : i = j
  · rw [if_pos ⟨rfl, c⟩, if_pos c]
  · rw [if_neg (fun z => c z.2), if_neg c]
theorem nmM_56 {j m o i : Nat} {b : Int32} : m_I (nmM j m o b M) 56 i = if i = j then b else m_I M 56 i := by
  unfold nmM
  rw [nI_at, n_I_o (by omega), n_I_o (by omega)]
  by_cases c : i = j
  · rw [if_pos ⟨rfl, c⟩, if_pos c]
  · rw [if_neg (fun z => c z.2), if_neg c]
theorem tg_add {R R' : Nat → Nat → Prop} {j o : Nat} (H : ∀ a b, R' a b → R a b ∨ (a = j ∧ b = o)) {x y : Nat} (t : Relation.TransGen R' x y) : Relation.TransGen R x y ∨ ((x = j ∨ Relation.TransGen R x j) ∧ (y = o ∨ Relation.TransGen R o y)) := by
  induction t with
  | single e =>
    rcases H _ _ e with e | ⟨rfl, rfl⟩
    · exact Or.inl (Relation.TransGen.single e)
    · exact Or.inr ⟨Or.inl rfl, Or.inl rfl⟩
  | tail _ e ih =>
    rcases H _ _ e with e | ⟨rfl, rfl⟩
    · rcases ih with ih | ⟨i1, i2⟩
      · exact Or.inl (Relation.TransGen.tail ih e)
      · refine Or.inr ⟨i1, Or.inr ?_⟩
        rcases i2 with rfl | i2
        · exact Relation.TransGen.single e
        · exact Relation.TransGen.tail i2 e
    · rcases ih with ih | ⟨i1, i2⟩
      · exact Or.inr ⟨Or.inr ih, Or.inl rfl⟩
      · exact Or.inr ⟨i1, Or.inl rfl⟩
theorem nm_W (W : Wf_ n M) {j o : Nat} (hj : j < nD M) (ho : o < nD M) (k67 : kD M j = 6 ∨ kD M j = 7) (hm : nM M j < 4) (hno : ¬ Relation.TransGen (Nm_ M) o j) (hne : o ≠ j) : Wf_ n (nmM j (nM M j) o (m_I M 56 j ||| ((1 : Int32) <<< (nI o &&& 31))) M) := by
  have h16 := W.1.2.2.2.1
  obtain ⟨w1, w2, w3, w4, w5, w6, w7, w8, w9, w10, w11, w12, w13⟩ := W.2.2.1 j hj
  generalize hb : (m_I M 56 j ||| ((1 : Int32) <<< (nI o &&& 31))) = b
  have o' : ∀ g, g ≠ 15 → g ≠ 16 → g ≠ 56 → m_I (nmM j (nM M j) o b M) g = m_I M g := fun g a b c => nmM_o a b c
  have eN : nM (nmM j (nM M j) o b M) j = nM M j + 1 := by
    show (m_I (nmM j (nM M j) o b M) 16 j).toNatClampNeg = _
    rw [nmM_16, if_pos rfl, cl_nI (by omega)]
  have eNi : ∀ i, i ≠ j → nM (nmM j (nM M j) o b M) i = nM M i := fun i hi => by
    show (m_I (nmM j (nM M j) o b M) 16 i).toNatClampNeg = _
    rw [nmM_16, if_neg hi]
    rfl
  have eA : ∀ k, k < 4 → nA (nmM j (nM M j) o b M) j k = if k = nM M j then o else nA M j k := fun k hk => by
    show (m_I (nmM j (nM M j) o b M) 15 (4 * j + k)).toNatClampNeg = _
    rw [nmM_15]
    by_cases c : k = nM M j
    · rw [if_pos (by omega), if_pos c, cl_nI (by omega)]
    · rw [if_neg (by omega), if_neg c]
      rfl
  have eAi : ∀ i k, k < 4 → i ≠ j → nA (nmM j (nM M j) o b M) i k = nA M i k := fun i k hk hi => by
    show (m_I (nmM j (nM M j) o b M) 15 (4 * i + k)).toNatClampNeg = _
    rw [nmM_15, if_neg (by omega)]
    rfl
  have eD : nD (nmM j (nM M j) o b M) = nD M := by
    show (m_I (nmM j (nM M j) o b M) 10 0).toNatClampNeg = _
    rw [o' 10 (by omega) (by omega) (by omega)]
    rfl
  refine Wf_d W (Nat.le_refl n) (j := j) (fun g hg _ _ _ _ => o' g (by omega) (by omega) (by omega)) (fun g hg q hq => ?_) (fun g hg i hi => ?_) (fun i hi => by rw [o' 54 (by omega) (by omega) (by omega)]) (fun g hg i hi => by rw [o' g (by omega) (by omega) (by omega)]) (fun g hg i hi => rfl) (fun g hg i hi => rfl) ?_ ?_ (fun a1 a3 a4 k hk => ?_)
  · by_cases c16 : g = 16
    · rw [c16, nmM_16, if_neg hq]
    · by_cases c56 : g = 56
      · rw [c56, nmM_56, if_neg hq]
      · rw [o' g (by omega) c16 c56]
  · by_cases c15 : g = 15
    · rw [c15, nmM_15, if_neg (by omega)]
    · rw [o' g c15 (by omega) (by omega)]
  · have eK : kD (nmM j (nM M j) o b M) j = kD M j := by
      show (m_I (nmM j (nM M j) o b M) 11 j).toNatClampNeg = _
      rw [o' 11 (by omega) (by omega) (by omega)]
      rfl
    have eR : nR (nmM j (nM M j) o b M) = nR M := by
      show (m_I (nmM j (nM M j) o b M) 0 0).toNatClampNeg = _
      rw [o' 0 (by omega) (by omega) (by omega)]
      rfl
    have eM' : rM (nmM j (nM M j) o b M) j = rM M j := by
      show (m_I (nmM j (nM M j) o b M) 14 j).toNatClampNeg = _
      rw [o' 14 (by omega) (by omega) (by omega)]
      rfl
    have eT : tG (nmM j (nM M j) o b M) j = tG M j := by
      show (m_I (nmM j (nM M j) o b M) 17 j).toNatClampNeg = _
      rw [o' 17 (by omega) (by omega) (by omega)]
      rfl
    have eE : eM (nmM j (nM M j) o b M) j = eM M j := by
      show (m_I (nmM j (nM M j) o b M) 28 j).toNatClampNeg = _
      rw [o' 28 (by omega) (by omega) (by omega)]
      rfl
    have eG : ∀ k, rG (nmM j (nM M j) o b M) j k = rG M j k := fun k => by
      show (m_I (nmM j (nM M j) o b M) 12 (4 * j + k)).toNatClampNeg = _
      rw [o' 12 (by omega) (by omega) (by omega)]
      rfl
    have eP : ∀ k, pL (nmM j (nM M j) o b M) j k = pL M j k := fun k => by
      show (m_I (nmM j (nM M j) o b M) 13 (4 * j + k)).toNatClampNeg = _
      rw [o' 13 (by omega) (by omega) (by omega)]
      rfl
    have eC : ∀ q, cL (nmM j (nM M j) o b M) q = cL M q := fun q => by
      show (m_I (nmM j (nM M j) o b M) 2 q).toNatClampNeg = _
      rw [o' 2 (by omega) (by omega) (by omega)]
      rfl
    unfold Wd_n
    rw [eK, eM', eN, eT, eE, eR, eD, o' 11 (by omega) (by omega) (by omega), o' 14 (by omega) (by omega) (by omega), o' 17 (by omega) (by omega) (by omega), o' 21 (by omega) (by omega) (by omega), o' 23 (by omega) (by omega) (by omega), o' 25 (by omega) (by omega) (by omega), o' 28 (by omega) (by omega) (by omega), o' 55 (by omega) (by omega) (by omega), o' 58 (by omega) (by omega) (by omega), o' 12 (by omega) (by omega) (by omega), o' 13 (by omega) (by omega) (by omega), o' 54 (by omega) (by omega) (by omega), nmM_16, if_pos rfl, nmM_56, if_pos rfl]
    simp only [eG, eP, eC]
    refine ⟨w1, w2, w3, w4, w5, w6, ⟨trivial, by omega, fun c6 c7 => absurd k67 (fun z => z.elim c6 c7)⟩, fun k hk => ?_, fun i hi => ?_, w10, w11, w12, fun z => absurd z (by omega)⟩
    · rw [eA k (by omega), nmM_15]
      by_cases c : k = nM M j
      · rw [if_pos c, if_pos (by omega)]
        exact ⟨rfl, ho⟩
      · rw [if_neg c, if_neg (by omega)]
        exact w8 k (by omega)
    · have hbt : tb b i = (tb (m_I M 56 j) i || decide (i = o)) := by rw [← hb, tb_or, tb_one o (by omega) i hi]
      rw [bit_tb hi, hbt, Bool.or_eq_false_iff, decide_eq_false_iff_not, ← bit_tb hi, w9 i hi]
      constructor
      · rintro ⟨z1, z2⟩ k hk
        rw [eA k (by omega)]
        by_cases c : k = nM M j
        · rw [if_pos c]
          exact fun y => z2 y.symm
        · rw [if_neg c]
          exact z1 k (by omega)
      · intro z
        refine ⟨fun k hk => ?_, fun y => ?_⟩
        · have := z k (by omega)
          rw [eA k (by omega), if_neg (by omega)] at this
          exact this
        · have := z (nM M j) (by omega)
          rw [eA _ hm, if_pos rfl] at this
          exact this y.symm
  · intro i t
    have H : ∀ a b', Nm_ (nmM j (nM M j) o b M) a b' → Nm_ M a b' ∨ (a = j ∧ b' = o) := by
      rintro a b' ⟨ha, k, hk, e⟩
      rw [eD] at ha
      by_cases c : a = j
      · subst c
        rw [eN] at hk
        rw [eA k (by omega)] at e
        by_cases d : k = nM M a
        · rw [if_pos d] at e
          exact Or.inr ⟨rfl, e.symm⟩
        · rw [if_neg d] at e
          exact Or.inl ⟨ha, k, by omega, e⟩
      · rw [eNi a c] at hk
        have := (W.2.2.1 a ha).2.2.2.2.2.2.1.2.1
        rw [eAi a k (by omega) c] at e
        exact Or.inl ⟨ha, k, hk, e⟩
    rcases tg_add H t with q | ⟨q1, q2⟩
    · exact W.2.2.2.1 i q
    · rcases q1 with rfl | q1
      · rcases q2 with q2 | q2
        · exact hne q2.symm
        · exact hno q2
      · rcases q2 with rfl | q2
        · exact hno q1
        · apply hno
          obtain ⟨u, p⟩ := pt_tg.mp q1
          clear hb
          have : ∀ (m : Nat) (c : Nat), Pt M (m + 1) i c → Relation.TransGen (Nm_ M) o c := by
            intro m
            induction m with
            | zero =>
              rintro c ⟨d, e1, e2⟩
              have e2' : d = c := e2
              subst e2'
              exact Relation.TransGen.tail q2 e1
            | succ m ih =>
              intro c p
              obtain ⟨d, p1, p2⟩ := pt_un (m + 1) p
              exact Relation.TransGen.tail (ih d p1) p2
          exact this u j p
  · unfold kD at a1 a3 a4
    unfold rM at hk
    rw [o' 11 (by omega) (by omega) (by omega)] at a1 a3 a4
    rw [o' 14 (by omega) (by omega) (by omega)] at hk
    have eG : rG (nmM j (nM M j) o b M) j k = rG M j k := by
      show (m_I (nmM j (nM M j) o b M) 12 (4 * j + k)).toNatClampNeg = _
      rw [o' 12 (by omega) (by omega) (by omega)]
      rfl
    have eP : pL (nmM j (nM M j) o b M) j k = pL M j k := by
      show (m_I (nmM j (nM M j) o b M) 13 (4 * j + k)).toNatClampNeg = _
      rw [o' 13 (by omega) (by omega) (by omega)]
      rfl
    rw [eG, eP]
    exact W.2.2.2.2.2 j hj a1 a3 a4 k hk
theorem nm_P {j m o : Nat} {b : Int32} (P : Pn_ A B ow h M) (hj : j < nD M) (hm : m < 4) : Pn_ A B ow (s_I (s_I (s_I h (B j + 4) m (nI o)) (B j) 8 (nI (m + 1))) (B j) 9 b) (nmM j m o b M) := by
  have e1 : (4 * j + m) / 4 = j := by omega
  have e2 : (4 * j + m) % 4 = m := by omega
  have P1 := Pn_wI P (f := 15) (i := 4 * j + m) (show (4 * j + m) / 4 < nD M by rw [e1]; exact hj) (nI o) (by omega) (by omega) (by omega) (by omega) (by omega) (by omega) (by omega)
  simp only [adI, plI, e1, e2] at P1
  have d1 : Dm_ M (n_I M 15 (4 * j + m) (nI o)) := Dm_I (by omega) (by omega) (by omega) (by omega)
  have P2 := Pn_wI P1 (f := 16) (i := j) (show j < nD _ by rw [d1.2.1]; exact hj) (nI (m + 1)) (by omega) (by omega) (by omega) (by omega) (by omega) (by omega) (by omega)
  have d2 := Dm_tr d1 (Dm_I (f := 16) (i := j) (x := nI (m + 1)) (by omega) (by omega) (by omega) (by omega))
  exact Pn_wI P2 (f := 56) (i := j) (show j < nD _ by rw [d2.2.1]; exact hj) b (by omega) (by omega) (by omega) (by omega) (by omega) (by omega) (by omega)
theorem nm_Z (Z : Zf_ M) {j m o : Nat} {b : Int32} (hj : j < nD M) (hm : m < 4) : Z_ (nmM j m o b M) := fun _ => by
  obtain ⟨z1, z2, z3, z4⟩ := Z
  have e : nD (nmM j m o b M) = nD M := by unfold nD; rw [nmM_o (by omega) (by omega) (by omega)]
  refine ⟨fun g hg i => by rw [nmM_o (by omega) (by omega) (by omega)]; exact z1 g hg i, fun g hg i => z2 g hg i, fun i hi => ?_, fun i hi => ?_⟩
  · rw [e] at hi
    rw [nmM_16, if_neg (by omega)]
    exact z3 i hi
  · rw [e] at hi
    rw [nmM_15, if_neg (by omega)]
    exact z4 i hi
/-- the reference's marks are seen by nobody -/
theorem w_C {g : Nat → Int32} (C : Cn_ n A B ow h M) : Cn_ n A B ow h (wM g M) := by
  have eI : ∀ f, f ≠ 41 → m_I (wM g M) f = m_I M f := fun f hf => w_o hf
  have dm : Dm_ M (wM g M) := ⟨by unfold nR; rw [eI 0 (by omega)], by unfold nD; rw [eI 10 (by omega)], fun r => by unfold sL; rw [eI 1 (by omega)], fun j => by unfold kD; rw [eI 11 (by omega)]⟩
  have d : Dn_ M (wM g M) := ⟨dm, fun j => by unfold rG; rw [eI 12 (by omega)], fun j => by unfold tG; rw [eI 17 (by omega)], fun j e => by unfold sG; rw [eI 66 (by omega)]⟩
  refine ⟨Ow_c C.1 d, Sh_c C.2.1 d rfl rfl rfl rfl, fun f i hok => ?_, fun f i hok => ?_, Wf_c C.2.2.2.2 (fun f hf _ _ _ _ _ _ _ => eI f (by omega)) (fun f hf => rfl)⟩
  · have h2 := ok_dmI dm hok
    rw [eI f (fun z => by subst z; exact hok)]
    exact C.2.2.1 f i h2
  · exact C.2.2.2.1 f i (ok_dmJ dm hok)
theorem w_Z {g : Nat → Int32} (Z : Zf_ M) : Zf_ (wM g M) := by
  obtain ⟨z1, z2, z3, z4⟩ := Z
  have e : nD (wM g M) = nD M := by unfold nD; rw [w_o (by omega)]
  refine ⟨fun f hf i => by rw [w_o (by omega)]; exact z1 f hf i, fun f hf i => z2 f hf i, fun i hi => ?_, fun i hi => ?_⟩
  · rw [w_o (by omega)]
    exact z3 i (by rw [← e]; exact hi)
  · rw [w_o (by omega)]
    exact z4 i (by rw [← e]; exact hi)
theorem w_ag {g : Nat → Int32} (a : Ag_ Mm M) : Ag_ (wM g Mm) (wM g M) := fun f hf => ⟨by
    funext i
    rw [w_I, w_I, (a f hf).1], (a f hf).2⟩
/-- the circle -/
theorem c39 (C : Cn_ n A B ow h M) {i : Nat} (hi : i < 16) (x : Int32) : Cn_ n A B ow (s_I h 4 i x) (n_I M 39 i x) := Cn_of (Pn_wI (Pn_of C) (f := 39) (i := i) hi x (by omega) (by omega) (by omega) (by omega) (by omega) (by omega) (by omega)) (wf_free C.2.2.2.2 (by omega))
theorem c40 (C : Cn_ n A B ow h M) {w : Nat} (hw : w ≤ 16) : Cn_ n A B ow (s_I h 0 8 (nI w)) (n_I M 40 0 (nI w)) := by
  refine Cn_of (Pn_wI (Pn_of C) (f := 40) (i := 0) rfl (nI w) (by omega) (by omega) (by omega) (by omega) (by omega) (by omega) (by omega)) ?_
  have W := C.2.2.2.2
  refine Wf_0 W ?_ (fun z => by rw [n_I_o (by omega)] at z; exact z) (fun g hg _ _ _ _ _ _ _ => n_I_o (by omega)) (fun g hg => rfl)
  obtain ⟨a1, a2, a3, a4, a5, a6, -⟩ := W.1
  exact ⟨a1, a2, a3, a4, a5, a6, w, hw, nI_s⟩
theorem goK_iff {b q : Nat} : ∀ k, goK M b k q = true ↔ (∃ k', k' < k ∧ nA M b k' = q) ∧ m_I M 41 q ≠ 0
  | 0 => ⟨fun z => absurd z Bool.false_ne_true, fun ⟨⟨k', h, _⟩, _⟩ => absurd h (by omega)⟩
  | k + 1 => by
    unfold goK
    rw [Bool.or_eq_true, goK_iff k, Bool.and_eq_true, decide_eq_true_eq, decide_eq_true_eq]
    constructor
    · rintro (⟨⟨k', h1, h2⟩, h3⟩ | ⟨h1, h2⟩)
      · exact ⟨⟨k', by omega, h2⟩, h3⟩
      · exact ⟨⟨k, by omega, h1⟩, h2⟩
    · rintro ⟨⟨k', h1, h2⟩, h3⟩
      by_cases c : k' = k
      · subst c
        exact Or.inr ⟨h2, h3⟩
      · exact Or.inl ⟨⟨k', by omega, h2⟩, h3⟩
theorem g44 (W : Wf_ n M) (a : Ag_ Mm M) {i b : Nat} {x1 : Int32} (hi : 2 ≤ i) (hi2 : i < 20) (h40 : m_I M 40 0 = nI i) (h39 : m_I M 39 (i - 1) = nI b) (hb : b < nD M) {r19 : Msx → Int32 → Option Msx} : ∀ (m k fuel : Nat), k + m = nM M b → m < fuel → l_X4_go_44 r19 fuel Mm x1 (lsA (goK M b k) 16 0 (nI 16)) (nI k) = r19 (n_I (n_I Mm 39 i (lsA (goK M b (nM M b)) 16 0 (nI 16))) 40 0 (nI (i + 1))) x1 := by
  have h16 := W.1.2.2.2.1
  obtain ⟨-, -, -, -, -, -, ⟨w7, w7a, -⟩, w8, -⟩ := W.2.2.1 b hb
  have e40 : m_I Mm 40 0 = nI i := by rw [← (a 40 (by omega)).1, h40]
  have e39 : m_I Mm 39 (i - 1) = nI b := by rw [← (a 39 (by omega)).1, h39]
  have es : nI i - 1 = nI (i - 1) := by rw [show (1 : Int32) = nI 1 from rfl, pk_sub (by omega)]
  intro m
  induction m with
  | zero =>
    intro k fuel hk hf
    obtain ⟨f, rfl⟩ : ∃ f, fuel = f + 1 := ⟨fuel - 1, by omega⟩
    rw [u_X4_go_44]
    unfold j_X4_go_44
    simp only [e40, es, in_nI (show i - 1 < 20 by omega) (show 20 ≤ 65536 by omega), in_nI hi2 (show 20 ≤ 65536 by omega), if_true, cl_nI (show i - 1 < 2 ^ 31 by omega), cl_nI (show i < 2 ^ 31 by omega), e39, in_nI (show b < 16 by omega) (show 16 ≤ 65536 by omega), cl_nI (show b < 2 ^ 31 by omega), ← (a 16 (by omega)).1, w7, b_d_eq]
    rw [if_pos (by rw [nI_leI (by omega) (by omega)]; omega), n_I_o (by omega), e40, nI_1, show k = nM M b by omega]
  | succ m ih =>
    intro k fuel hk hf
    obtain ⟨f, rfl⟩ : ∃ f, fuel = f + 1 := ⟨fuel - 1, by omega⟩
    obtain ⟨v1, v2⟩ := w8 k (by omega)
    have := ih (k + 1) f (by omega) (by omega)
    rw [u_X4_go_44]
    unfold j_X4_go_44
    simp only [e40, es, in_nI (show i - 1 < 20 by omega) (show 20 ≤ 65536 by omega), if_true, cl_nI (show i - 1 < 2 ^ 31 by omega), e39, in_nI (show b < 16 by omega) (show 16 ≤ 65536 by omega), cl_nI (show b < 2 ^ 31 by omega), ← (a 16 (by omega)).1, ← (a 15 (by omega)).1, ← (a 41 (by omega)).1, w7, four_j, nI_add, in_nI (show 4 * b + k < 64 by omega) (show 64 ≤ 65536 by omega), cl_nI (show 4 * b + k < 2 ^ 31 by omega), v1, in_nI (show nA M b k < 16 by omega) (show 16 ≤ 65536 by omega), cl_nI (show nA M b k < 2 ^ 31 by omega), nI_1]
    rw [if_neg (by rw [nI_leI (by omega) (by omega)]; omega)]
    by_cases c : m_I M 41 (nA M b k) = 0
    · rw [if_pos c, ← this]
      congr 1
      refine lsA_cong 16 0 _ fun t _ _ => ?_
      show goK M b k t = (goK M b k t || (decide (nA M b k = t) && decide (m_I M 41 t ≠ 0)))
      by_cases e : nA M b k = t
      · rw [← e, decide_eq_false (p := m_I M 41 (nA M b k) ≠ 0) (fun z => z c), Bool.and_false, Bool.or_false]
      · rw [decide_eq_false e, Bool.false_and, Bool.or_false]
    · rw [if_neg c]
      have ad := lsA_addN (P := goK M b k) (Q := goK M b (k + 1)) (m := 16) (x := nA M b k) (by omega) (by omega) (fun t _ => by
        show (goK M b k t || (decide (nA M b k = t) && decide (m_I M 41 t ≠ 0))) = _
        by_cases e : nA M b k = t
        · rw [← e, decide_eq_true (p := m_I M 41 (nA M b k) ≠ 0) c, Bool.and_true]
        · rw [decide_eq_false e, Bool.false_and])
      rw [ad] at this
      by_cases c2 : lsA (goK M b k) 16 0 (nI 16) ≤ nI (nA M b k)
      · rw [if_pos c2] at this ⊢
        exact this
      · rw [if_neg c2] at this ⊢
        exact this
/-- the way so far: its i readers, the first is j, all others lead to j, each to those behind it -/
def Wy_ (M : Msx) (j i : Nat) (w : Nat → Nat) : Prop := w 0 = j ∧ (∀ e, e < i → m_I M 39 e = nI (w e) ∧ w e < nD M) ∧ m_I M 40 0 = nI i ∧ (∀ e, 1 ≤ e → e < i → Relation.TransGen (Nm_ M) (w e) j) ∧ (∀ e e', 1 ≤ e → e < e' → e' < i → Relation.TransGen (Nm_ M) (w e) (w e')) ∧ ∀ k, k < nD M → (m_I M 41 k ≠ 0 ↔ Relation.TransGen (Nm_ M) k j)
theorem tg_tr {R : Nat → Nat → Prop} {a b c : Nat} (t1 : Relation.TransGen R a b) (t2 : Relation.TransGen R b c) : Relation.TransGen R a c := by
  induction t2 with
  | single e => exact Relation.TransGen.tail t1 e
  | tail _ e ih => exact Relation.TransGen.tail ih e
theorem wy_16 (W : Wf_ n M) {j i : Nat} {w : Nat → Nat} (H : Wy_ M j i w) (hj : j < nD M) : i ≤ 16 := by
  have h16 := W.1.2.2.2.1
  obtain ⟨h0, h1, -, h3, h4, -⟩ := H
  refine pig 16 i w (fun e he => by have := (h1 e he).2; omega) (fun a b ha hb e => ?_)
  have key : ∀ a b, a < b → b < i → w a ≠ w b := fun a b hab hb e => by
    by_cases c : a = 0
    · subst c
      have t := h3 b (by omega) hb
      rw [← e, h0] at t
      exact W.2.2.2.1 _ t
    · have t := h4 a b (by omega) hab hb
      rw [e] at t
      exact W.2.2.2.1 _ t
  rcases Nat.lt_trichotomy a b with c | c | c
  · exact absurd e (key a b c hb)
  · exact c
  · exact absurd e.symm (key b a c ha)
theorem nx_c (W : Wf_ n M) {a j : Nat} (ha : a < nD M) (hj : j < nD M) (t : Relation.TransGen (Nm_ M) a j) : (nB M a j = true ∧ nxV M a j = -1) ∨ (nB M a j = false ∧ ∃ q, q < nD M ∧ nxV M a j = nI q ∧ lsA (nxB M a j) 16 0 (nI 16) = nI q ∧ Nm_ M a q ∧ Relation.TransGen (Nm_ M) q j) := by
  have h16 := W.1.2.2.2.1
  have e1 : tb (naA M ((1 : Int32) <<< (nI a &&& 31))) j = true ↔ nB M a j = true := by
    rw [na_one W (by omega) (by omega), nB_tb (by omega), nm_tb W ha (by omega)]
  unfold nxV
  by_cases c : nB M a j = true
  · rw [if_pos (e1.mpr c)]
    exact Or.inl ⟨c, rfl⟩
  · rw [if_neg (fun z => c (e1.mp z))]
    right
    refine ⟨by simpa using c, ?_⟩
    obtain ⟨u, p⟩ := pt_tg.mp t
    obtain ⟨d, p1, p2⟩ := p
    have hu : u ≠ 0 := fun z => by
      subst z
      have p2' : d = j := p2
      subst p2'
      exact c ((nB_tb (by omega)).trans ((nm_tb W ha (by omega)).mpr p1))
    obtain ⟨u', rfl⟩ : ∃ u', u = u' + 1 := ⟨u - 1, by omega⟩
    have td : Relation.TransGen (Nm_ M) d j := pt_tg.mpr ⟨u', p2⟩
    have hd := (nm_b W p1).2
    have bq : ∀ q, q < 16 → (nxB M a j q = true ↔ Nm_ M a q ∧ Relation.TransGen (Nm_ M) q j) := fun q hq => by
      unfold nxB
      rw [Bool.and_eq_true, na_one W (by omega) hq, LT_iff W hq (by omega)]
    rcases lsA_or (nxB M a j) 16 0 (-1) with ⟨-, z⟩ | ⟨q, q1, q2, q3, q4, q5⟩
    · have := (bq d (by omega)).mpr ⟨p1, td⟩
      rw [z d (by omega) (by omega)] at this
      exact absurd this Bool.false_ne_true
    · have b := (bq q (by omega)).mp q3
      exact ⟨q, (nm_b W b.1).2, q4, lsA_is q1 q2 q3 q5, b.1, b.2⟩
theorem wy_loop {j : Nat} : ∀ (m i fuel f2 : Nat) (h : Hpx) (M Mm : Msx) (w : Nat → Nat), i + m = 16 → m < fuel → m < f2 → 2 ≤ i → Cn_ n A B ow h M → Ag_ Mm M → j < nD M → Wy_ M j i w → ∃ h' Mm' M', l_X3_keepCircle_29 0 fuel h (nI j) (nxV M (w (i - 1)) j) (nI i) = some h' ∧ l_X4_go_19 f2 Mm (nI j) = some Mm' ∧ Ag_ Mm' M' ∧ Cn_ n A B ow h' M' ∧ ∀ g, g ≠ 39 → g ≠ 40 → m_I M' g = m_I M g ∧ m_J M' g = m_J M g := by
  intro m
  induction m with
  | zero =>
    intro i fuel f2 h M Mm w hi hf hf2 h2 C a hj H
    have W := C.2.2.2.2
    have h16 := W.1.2.2.2.1
    obtain ⟨f, rfl⟩ : ∃ f, fuel = f + 1 := ⟨fuel - 1, by omega⟩
    obtain ⟨f', rfl⟩ : ∃ f', f2 = f' + 1 := ⟨f2 - 1, by omega⟩
    have hl := H.2.1 (i - 1) (by omega)
    have tl := H.2.2.2.1 (i - 1) (by omega) (by omega)
    have e40 : m_I Mm 40 0 = nI i := by rw [← (a 40 (by omega)).1, H.2.2.1]
    have e39 : m_I Mm 39 (i - 1) = nI (w (i - 1)) := by rw [← (a 39 (by omega)).1, hl.1]
    have es : nI i - 1 = nI (i - 1) := by rw [show (1 : Int32) = nI 1 from rfl, pk_sub (by omega)]
    refine ⟨h, Mm, M, ?_, ?_, a, C, fun g _ _ => ⟨rfl, rfl⟩⟩
    · rw [u_X3_keepCircle_29]
      unfold j_X3_keepCircle_29
      rw [if_pos (by rw [litle (n := 16) rfl (by omega)]; omega)]
    · rw [u_X4_go_19]
      unfold j_X4_go_19
      rw [e40, es, if_pos (in_nI (by omega) (by omega)), cl_nI (by omega), e39, ← g_f_X4_doesName a, does_c W hl.2 (by omega)]
      simp only [Option.bind_some]
      rcases nx_c W hl.2 hj tl with ⟨c, -⟩ | ⟨c, q, q1, q2, q3, q4, q5⟩
      · rw [if_pos c, if_neg (by decide)]
      · exfalso
        -- seventeen readers would be different
        have := pig 16 (i + 1) (fun e => if e = i then q else w e) (fun e he => by
          show (if e = i then q else w e) < 16
          by_cases c : e = i
          · rw [if_pos c]; omega
          · rw [if_neg c]
            have := (H.2.1 e (by omega)).2
            omega) (fun x y hx hy e => by
          have e' : (if x = i then q else w x) = (if y = i then q else w y) := e
          have inj : ∀ x y, x < y → y < i + 1 → (if x = i then q else w x) ≠ (if y = i then q else w y) := fun x y hxy hy e => by
            rw [if_neg (show ¬ x = i by omega)] at e
            by_cases cy : y = i
            · rw [if_pos cy] at e
              by_cases x0 : x = 0
              · rw [x0, H.1] at e
                rw [← e] at q5
                exact W.2.2.2.1 _ q5
              · have t1 : Relation.TransGen (Nm_ M) (w x) q := by
                  by_cases xl : x = i - 1
                  · rw [xl]
                    exact Relation.TransGen.single q4
                  · exact Relation.TransGen.tail (H.2.2.2.2.1 x (i - 1) (by omega) (by omega) (by omega)) q4
                rw [e] at t1
                exact W.2.2.2.1 _ t1
            · rw [if_neg cy] at e
              by_cases x0 : x = 0
              · rw [x0, H.1] at e
                have t := H.2.2.2.1 y (by omega) (by omega)
                rw [← e] at t
                exact W.2.2.2.1 _ t
              · have t := H.2.2.2.2.1 x y (by omega) hxy (by omega)
                rw [e] at t
                exact W.2.2.2.1 _ t
          rcases Nat.lt_trichotomy x y with c | c | c
          · exact absurd e' (inj x y c hy)
          · exact c
          · exact absurd e'.symm (inj y x c hx))
        omega
  | succ m ih =>
    intro i fuel f2 h M Mm w hi hf hf2 h2 C a hj H
    have W := C.2.2.2.2
    have h16 := W.1.2.2.2.1
    obtain ⟨f, rfl⟩ : ∃ f, fuel = f + 1 := ⟨fuel - 1, by omega⟩
    obtain ⟨f', rfl⟩ : ∃ f', f2 = f' + 1 := ⟨f2 - 1, by omega⟩
    obtain ⟨k0, r0, r1, r2, r3, k1, n1, k2, n2, k3, n3, k4, n4⟩ := C.2.1.1
    have hl := H.2.1 (i - 1) (by omega)
    have tl := H.2.2.2.1 (i - 1) (by omega) (by omega)
    have e40 : m_I Mm 40 0 = nI i := by rw [← (a 40 (by omega)).1, H.2.2.1]
    have e39 : m_I Mm 39 (i - 1) = nI (w (i - 1)) := by rw [← (a 39 (by omega)).1, hl.1]
    have es : nI i - 1 = nI (i - 1) := by rw [show (1 : Int32) = nI 1 from rfl, pk_sub (by omega)]
    rw [u_X3_keepCircle_29, u_X4_go_19]
    unfold j_X3_keepCircle_29 j_X4_go_19
    rw [if_neg (by rw [litle (n := 16) rfl (by omega)]; omega), e40, es, if_pos (in_nI (show i - 1 < 20 by omega) (by omega)), cl_nI (show i - 1 < 2 ^ 31 by omega), e39, ← g_f_X4_doesName a, does_c W hl.2 (by omega)]
    simp only [Option.bind_some]
    rcases nx_c W hl.2 hj tl with ⟨c, e⟩ | ⟨c, q, q1, q2, q3, q4, q5⟩
    · rw [e, if_pos (by decide), if_pos c, if_neg (show ¬ (1 : Int32) = 0 by decide)]
      exact ⟨h, Mm, M, rfl, rfl, a, C, fun g _ _ => ⟨rfl, rfl⟩⟩
    · have cc : ¬ nB M (w (i - 1)) j = true := by rw [c]; decide
      have C' := c40 (c39 C (show i < 16 by omega) (nI q)) (w := i + 1) (by omega)
      have a' : Ag_ (n_I (n_I Mm 39 i (nI q)) 40 0 (nI (i + 1))) (n_I (n_I M 39 i (nI q)) 40 0 (nI (i + 1))) := ag_cI (ag_cI a)
      have o : ∀ g, g ≠ 39 → g ≠ 40 → m_I (n_I (n_I M 39 i (nI q)) 40 0 (nI (i + 1))) g = m_I M g := fun g g1 g2 => by rw [n_I_o g2, n_I_o g1]
      have eD : nD (n_I (n_I M 39 i (nI q)) 40 0 (nI (i + 1))) = nD M := by unfold nD; rw [o 10 (by omega) (by omega)]
      have eN : Nm_ (n_I (n_I M 39 i (nI q)) 40 0 (nI (i + 1))) = Nm_ M := Nm_c eD (fun j _ => by rw [o 16 (by omega) (by omega)]) (fun j _ k _ => by rw [o 15 (by omega) (by omega)])
      have H' : Wy_ (n_I (n_I M 39 i (nI q)) 40 0 (nI (i + 1))) j (i + 1) (fun e => if e = i then q else w e) := by
        refine ⟨?_, fun e he => ?_, nI_s, fun e h1 h2 => ?_, fun e e' h1 h2 h3 => ?_, fun k hk => ?_⟩
        · show (if 0 = i then q else w 0) = j
          rw [if_neg (by omega)]
          exact H.1
        · show m_I (n_I (n_I M 39 i (nI q)) 40 0 (nI (i + 1))) 39 e = nI (if e = i then q else w e) ∧ (if e = i then q else w e) < _
          rw [eD, n_I_o (by omega), nI_at]
          by_cases ce : e = i
          · rw [if_pos ⟨rfl, ce⟩, if_pos ce]
            exact ⟨rfl, q1⟩
          · rw [if_neg (fun z => ce z.2), if_neg ce]
            exact H.2.1 e (by omega)
        · show Relation.TransGen _ (if e = i then q else w e) j
          rw [eN]
          by_cases ce : e = i
          · rw [if_pos ce]; exact q5
          · rw [if_neg ce]; exact H.2.2.2.1 e h1 (by omega)
        · show Relation.TransGen _ (if e = i then q else w e) (if e' = i then q else w e')
          rw [eN, if_neg (show ¬ e = i by omega)]
          by_cases ce : e' = i
          · rw [if_pos ce]
            by_cases cl : e = i - 1
            · rw [cl]
              exact Relation.TransGen.single q4
            · exact Relation.TransGen.tail (H.2.2.2.2.1 e (i - 1) h1 (by omega) (by omega)) q4
          · rw [if_neg ce]
            exact H.2.2.2.2.1 e e' h1 h2 (by omega)
        · rw [eD] at hk
          rw [eN, o 41 (by omega) (by omega)]
          exact H.2.2.2.2.2 k hk
      have tc := towards_c C' (a := q) (t := j) (by omega)
      obtain ⟨h', Mm', M', f1, f2', f3, f4, f5⟩ := ih (i + 1) f f' _ _ _ (fun e => if e = i then q else w e) (by omega) (by omega) (by omega) (by omega) C' a' (by rw [eD]; exact hj) H'
      rw [if_pos (show i + 1 - 1 = i by omega)] at f1
      refine ⟨h', Mm', M', ?_, ?_, f3, f4, fun g g1 g2 => ⟨(f5 g g1 g2).1.trans (o g g1 g2), (f5 g g1 g2).2.trans rfl⟩⟩
      · rw [q2, if_neg (nI_pos (by omega)), if_pos k0, r3]
        have i8 : h_I (s_I h 4 i (nI q)) 0 8 = nI i := by rw [sI_n (by omega), rI_40 C, H.2.2.1]
        simp only [Option.bind_some, k4, n4, if_true, in_nI (show i < 16 by omega) (show 16 ≤ 65536 by omega), cl_nI (show i < 2 ^ 31 by omega), b_d_eq, i8, nI_1, tc]
        exact f1
      · rw [if_neg cc, if_pos rfl]
        have g := g44 W a (x1 := nI j) (i := i) (b := w (i - 1)) h2 (by omega) H.2.2.1 hl.1 hl.2 (r19 := l_X4_go_19 f') (nM M (w (i - 1))) 0 70 (by omega) (by have := (W.2.2.1 _ hl.2).2.2.2.2.2.2.1.2.1; omega)
        rw [lsA_no (P := goK M (w (i - 1)) 0) (fun t _ _ => rfl)] at g
        refine Eq.trans g ?_
        have eq : lsA (goK M (w (i - 1)) (nM M (w (i - 1)))) 16 0 (nI 16) = nI q := by
          rw [← q3]
          refine lsA_cong 16 0 _ fun t _ ht => ?_
          rw [Bool.eq_iff_iff, goK_iff]
          unfold nxB
          rw [Bool.and_eq_true, na_one W (by omega) (by omega), LT_iff W (by omega) (by omega)]
          constructor
          · rintro ⟨⟨k', hk', e1⟩, e2⟩
            have e : Nm_ M (w (i - 1)) t := ⟨hl.2, k', hk', e1⟩
            exact ⟨e, (H.2.2.2.2.2 t (nm_b W e).2).mp e2⟩
          · rintro ⟨e, e2⟩
            obtain ⟨-, k', hk', e1⟩ := id e
            exact ⟨⟨k', hk', e1⟩, (H.2.2.2.2.2 t (nm_b W e).2).mpr e2⟩
        rw [eq]
        exact f2'
theorem circle_c (C : Cn_ n A B ow h M) (a : Ag_ Mm M) {j o : Nat} (hj : j < nD M) (ho : o < nD M) (t : Relation.TransGen (Nm_ M) o j) (h41 : ∀ k, k < nD M → (m_I M 41 k ≠ 0 ↔ Relation.TransGen (Nm_ M) k j)) : ∃ h' Mm' M', f_X3_keepCircle h 0 (nI j) (nI o) = some h' ∧ f_X4_go Mm (nI j) (nI o) = some Mm' ∧ Ag_ Mm' M' ∧ Cn_ n A B ow h' M' ∧ ∀ g, g ≠ 39 → g ≠ 40 → m_I M' g = m_I M g ∧ m_J M' g = m_J M g := by
  have W := C.2.2.2.2
  have h16 := W.1.2.2.2.1
  obtain ⟨k0, r0, r1, r2, r3, k1, n1, k2, n2, k3, n3, k4, n4⟩ := C.2.1.1
  have C' := c40 (c39 (c39 C (show 0 < 16 by omega) (nI j)) (show 1 < 16 by omega) (nI o)) (w := 2) (by omega)
  have a' : Ag_ (n_I (n_I (n_I Mm 39 0 (nI j)) 39 1 (nI o)) 40 0 (nI 2)) (n_I (n_I (n_I M 39 0 (nI j)) 39 1 (nI o)) 40 0 (nI 2)) := ag_cI (ag_cI (ag_cI a))
  have oo : ∀ g, g ≠ 39 → g ≠ 40 → m_I (n_I (n_I (n_I M 39 0 (nI j)) 39 1 (nI o)) 40 0 (nI 2)) g = m_I M g := fun g g1 g2 => by rw [n_I_o g2, n_I_o g1, n_I_o g1]
  have eD : nD (n_I (n_I (n_I M 39 0 (nI j)) 39 1 (nI o)) 40 0 (nI 2)) = nD M := by unfold nD; rw [oo 10 (by omega) (by omega)]
  have eN : Nm_ (n_I (n_I (n_I M 39 0 (nI j)) 39 1 (nI o)) 40 0 (nI 2)) = Nm_ M := Nm_c eD (fun j _ => by rw [oo 16 (by omega) (by omega)]) (fun j _ k _ => by rw [oo 15 (by omega) (by omega)])
  have H : Wy_ (n_I (n_I (n_I M 39 0 (nI j)) 39 1 (nI o)) 40 0 (nI 2)) j 2 (fun e => if e = 0 then j else o) := by
    refine ⟨rfl, fun e he => ?_, nI_s, fun e h1 h2 => ?_, fun e e' h1 h2 h3 => absurd h3 (by omega), fun k hk => ?_⟩
    · show m_I (n_I (n_I (n_I M 39 0 (nI j)) 39 1 (nI o)) 40 0 (nI 2)) 39 e = nI (if e = 0 then j else o) ∧ (if e = 0 then j else o) < _
      rw [eD, n_I_o (by omega), nI_at, nI_at]
      by_cases c : e = 0
      · rw [if_neg (by omega), if_pos ⟨rfl, c⟩, if_pos c]
        exact ⟨rfl, hj⟩
      · rw [if_pos (by omega), if_neg c]
        exact ⟨rfl, ho⟩
    · show Relation.TransGen _ (if e = 0 then j else o) j
      rw [eN, if_neg (by omega)]
      exact t
    · rw [eD] at hk
      rw [eN, oo 41 (by omega) (by omega)]
      exact h41 k hk
  have tc := towards_c C' (a := o) (t := j) (by omega)
  obtain ⟨h', Mm', M', f1, f2, f3, f4, f5⟩ := wy_loop (j := j) 14 2 70 70 _ _ _ (fun e => if e = 0 then j else o) (by omega) (by omega) (by omega) (by omega) C' a' (by rw [eD]; exact hj) H
  refine ⟨h', Mm', M', ?_, ?_, f3, f4, fun g g1 g2 => ⟨(f5 g g1 g2).1.trans (oo g g1 g2), (f5 g g1 g2).2.trans rfl⟩⟩
  · unfold f_X3_keepCircle
    rw [if_pos k0, r3]
    simp only [Option.bind_some, k4, n4, if_true, b_d_eq, RsI, r3, ksI, nsI]
    rw [if_pos (show in_b (0 : Int32) 16 = true from in_nI (a := 0) (by omega) (by omega)), if_pos (show in_b (1 : Int32) 16 = true from in_nI (a := 1) (by omega) (by omega))]
    have tc' : f_X3_leastTowards (s_I (s_I (s_I h 4 (Int32.toNatClampNeg 0) (nI j)) 4 (Int32.toNatClampNeg 1) (nI o)) 0 8 2) 0 (nI o) (nI j) = some (nxV (n_I (n_I (n_I M 39 0 (nI j)) 39 1 (nI o)) 40 0 (nI 2)) o j) := tc
    rw [tc']
    exact f1
  · unfold f_X4_go
    simp only [b_d_eq]
    rw [if_pos (show in_b (0 : Int32) 20 = true from in_nI (a := 0) (by omega) (by omega)), if_pos (show in_b (1 : Int32) 20 = true from in_nI (a := 1) (by omega) (by omega))]
    exact f2
theorem ok_name : Ok_name Inv_ := by
  intro n h M x y hn I
  obtain ⟨A, B, ow, C, Z⟩ := id I
  have W := C.2.2.2.2
  have h16 := W.1.2.2.2.1
  show Rs_ n _ _
  unfold f_X3_name f_X4_name j_X4_name_50 f_X1_mayName j_X1_mayName_18
  simp only [if_pos C.2.1.1.1, rI_34 C]
  rcases reader_c C x with ⟨a, b⟩ | ⟨j, hj, hj16, rfl, a, b⟩
  · rw [a, b]
    exact rs_v I _
  rcases reader_c C y with ⟨a', b'⟩ | ⟨o, ho, ho16, rfl, a', b'⟩
  · rw [a, b, a', b']
    exact rs_v I _
  obtain ⟨s1, s2, s3, s4, s5, s6, s7, s8, s9, s10, s11, s12, s13, s14, -⟩ := C.2.1.2.2.2.2.1 j hj
  have wd := W.2.2.1 j hj
  obtain ⟨w1, w1a, w1b⟩ := wd.1
  obtain ⟨w7, w7a, -⟩ := wd.2.2.2.2.2.2.1
  obtain ⟨g1, g2, g8, g3, g4, g5⟩ := r0_c W hj
  rw [a, b, a', b']
  simp only [Option.bind_some, reduceCtorEq, if_false, s1, if_true, rI_11 C hj, w1, s2, (C.2.1.2.2.2.1 _ g2).1, rI_60 C g2, (W.2.1 _ g2).2.2.2.2.2.1, in_nI hj16 (show 16 ≤ 65536 by omega), cl_nI (show j < 2 ^ 31 by omega), four_j, in_nI (show 4 * j < 64 by omega) (show 64 ≤ 65536 by omega), cl_nI (show 4 * j < 2 ^ 31 by omega), g1, placeOf_c C ho16 g8, if_pos ho]
  rw [if_neg (show ¬ (1 : Int32) = 0 by decide), if_neg (show ¬ (1 : Int32) = 0 by decide)]
  by_cases e : m_I M 34 0 = 0
  · rw [if_pos e, if_pos e]
    by_cases c67 : kD M j = 6 ∨ kD M j = 7
    · have m1 : (if nI (kD M j) = 6 then some 1 else if nI (kD M j) = 7 then some 1 else some (0 : Int32)) = some (1 : Int32) := by
        rcases c67 with c | c
        · rw [if_pos (by rw [c]; rfl)]
        · rw [if_neg (by rw [c]; decide), if_pos (by rw [c]; rfl)]
      have m2 : ∀ (u v : Option (Msx × Int32)), (if nI (kD M j) = 6 then u else if nI (kD M j) = 7 then u else v) = u := fun u v => by
        rcases c67 with c | c
        · rw [if_pos (by rw [c]; rfl)]
        · rw [if_neg (by rw [c]; decide), if_pos (by rw [c]; rfl)]
      rw [m1, m2]
      simp only [Option.bind_some]
      rw [if_neg (show ¬ (1 : Int32) = 0 by decide)]
      obtain ⟨iv, e1, hiv⟩ := index_c W ho g8
      rw [e1]
      simp only [Option.bind_some]
      rcases hiv with ⟨rfl, p1⟩ | ⟨q, rfl, hq, hqr, p1, p2, p3⟩
      · rw [p1, if_neg pC_m1, if_neg pC_m1]
        exact rs_v I _
      · have w2b := (W.2.2.1 o ho).2.1.2.2.1
        rw [p1, if_pos (nI_pos' (by omega)), if_pos (nI_pos' (by omega))]
        by_cases eo : o = j
        · rw [if_pos (by rw [eo]), if_pos (by rw [eo])]
          exact rs_v I _
        · rw [if_neg (nI_ne (by omega) (by omega) (fun z => eo z.symm)), if_neg (nI_ne (by omega) (by omega) eo), isNaming_c C hj ho16, does_c W hj ho16]
          simp only [Option.bind_some]
          by_cases cn : nB M j o = true
          · rw [if_pos cn, if_neg (show ¬ (1 : Int32) = 0 by decide), if_neg (show ¬ (1 : Int32) = 0 by decide)]
            exact rs_v I _
          · rw [if_neg cn, if_pos rfl, if_pos rfl, rI_16 C hj, w7]
            by_cases c4 : nM M j = 4
            · rw [if_neg (by rw [c4]; decide), if_pos (by rw [c4]; rfl)]
              exact rs_v I _
            · rw [if_pos (by rw [ltlit (n := 4) rfl (by omega)]; omega), if_neg (by rw [eqlit (n := 4) rfl (by omega)]; exact c4), leads_c C hj16]
              obtain ⟨g, r1, r2, r3⟩ := reach_c W (ag_rf M) hj16
              rw [r1]
              have lt : LT M o j = true ↔ Relation.TransGen (Nm_ M) o j := LT_iff W ho16 hj16
              have Cw := w_C (g := g) C
              have Ww := Cw.2.2.2.2
              have eDw : nD (wM g M) = nD M := by unfold nD; rw [w_o (by omega)]
              have eNw : Nm_ (wM g M) = Nm_ M := Nm_c eDw (fun j _ => by rw [w_o (by omega)]) (fun j _ k _ => by rw [w_o (by omega)])
              simp only [Option.bind_some, in_nI ho16 (show 16 ≤ 65536 by omega), if_true, cl_nI (show o < 2 ^ 31 by omega), w_41]
              by_cases cl : LT M o j = true
              · have tt := lt.mp cl
                rw [if_pos cl, if_neg (show ¬ (1 : Int32) = 0 by decide), if_neg ((r3 o ho).mpr tt)]
                obtain ⟨h', Mm', M', f1, f2, f3, f4, f5⟩ := circle_c Cw (ag_rf (wM g M)) (by rw [eDw]; exact hj) (by rw [eDw]; exact ho) (by rw [eNw]; exact tt) (fun k hk => by rw [eDw] at hk; rw [eNw, w_41]; exact r3 k hk)
                rw [f1, f2]
                refine ⟨h', Mm', -6, M', rfl, rfl, f3, inv_mo _ _ _ ⟨A, B, ow, f4, fun _ => ?_⟩⟩
                obtain ⟨z1, z2, z3, z4⟩ := w_Z (g := g) (Z e)
                have eD : nD M' = nD (wM g M) := by unfold nD; rw [(f5 10 (by omega) (by omega)).1]
                refine ⟨fun gg hg i => by rw [(f5 gg (by omega) (by omega)).1]; exact z1 gg hg i, fun gg hg i => by rw [(f5 gg (by omega) (by omega)).2]; exact z2 gg hg i, fun i hi => ?_, fun i hi => ?_⟩
                · rw [(f5 16 (by omega) (by omega)).1]
                  exact z3 i (by rw [← eD]; exact hi)
                · rw [(f5 15 (by omega) (by omega)).1]
                  exact z4 i (by rw [← eD]; exact hi)
              · have nt : ¬ Relation.TransGen (Nm_ M) o j := fun z => cl (lt.mpr z)
                have g0 : g o = 0 := by
                  by_cases z : g o = 0
                  · exact z
                  · exact absurd ((r3 o ho).mp z) nt
                rw [if_neg cl, if_pos rfl, if_pos g0]
                have enm : nM (wM g M) j = nM M j := by
                  show (m_I (wM g M) 16 j).toNatClampNeg = _
                  rw [w_o (by omega)]
                  rfl
                have ek : kD (wM g M) j = kD M j := by
                  show (m_I (wM g M) 11 j).toNatClampNeg = _
                  rw [w_o (by omega)]
                  rfl
                have e56 : m_I (wM g M) 56 j = m_I M 56 j := by rw [w_o (by omega)]
                have Wn := nm_W Ww (j := j) (o := o) (by rw [eDw]; exact hj) (by rw [eDw]; exact ho) (by rw [ek]; exact c67) (by rw [enm]; omega) (by rw [eNw]; exact nt) eo
                rw [enm, e56] at Wn
                have Pn := nm_P (m := nM M j) (o := o) (b := m_I M 56 j ||| ((1 : Int32) <<< (nI o &&& 31))) (Pn_of Cw) (j := j) (by rw [eDw]; exact hj) (by omega)
                refine ⟨_, n_I (n_I (wM g M) 15 (4 * j + nM M j) (nI o)) 16 j (nI (nM M j + 1)), 1, nmM j (nM M j) o (m_I M 56 j ||| ((1 : Int32) <<< (nI o &&& 31))) (wM g M), ?_, ?_, ?_, inv_mo _ _ _ ⟨A, B, ow, Cn_of Pn Wn, nm_Z (w_Z (Z e)) (by rw [eDw]; exact hj) (by omega)⟩⟩
                · unfold f_X1_addName
                  rw [if_pos s1, rI_16 C hj, w7, if_neg (by rw [litle (n := 4) rfl (by omega)]; omega), s12]
                  simp only [Option.bind_some, s13, s14, if_true, in_nI (show nM M j < 4 by omega) (show 4 ≤ 65536 by omega), cl_nI (show nM M j < 2 ^ 31 by omega), b_d_eq]
                  have i8 : h_I (s_I h (B j + 4) (nM M j) (nI o)) (B j) 8 = nI (nM M j) := by rw [sI_n (by omega), rI_16 C hj, w7]
                  have i9 : h_I (s_I (s_I h (B j + 4) (nM M j) (nI o)) (B j) 8 (nI (nM M j + 1))) (B j) 9 = m_I M 56 j := by rw [sI_n (by omega), sI_n (by omega), rI_56 C hj]
                  rw [i8, nI_1, i9]
                · have e16 : m_I (wM g M) 16 j = nI (nM M j) := by rw [w_o (by omega), w7]
                  rw [e16, nI_add, if_pos (in_nI (by omega) (by omega)), cl_nI (by omega)]
                  simp only [b_d_eq]
                  rw [n_I_o (by omega), e16, nI_1]
                · unfold nmM
                  exact ag_g (ag_rf _) (by omega) (by omega)
    · have n6 : ¬ nI (kD M j) = 6 := by rw [eqlit (n := 6) rfl (by omega)]; omega
      have n7 : ¬ nI (kD M j) = 7 := by rw [eqlit (n := 7) rfl (by omega)]; omega
      rw [if_neg n6, if_neg n7, if_neg n6, if_neg n7]
      exact rs_v I _
  · rw [if_neg e, if_neg e]
    exact rs_v I _
end NA
