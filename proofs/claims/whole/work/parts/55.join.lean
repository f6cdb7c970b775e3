/-! bits, and join -/
def tb (x : Int32) (i : Nat) : Bool := x.toBitVec.getLsbD i
theorem sm_t : ∀ i, i < 16 → ((nI i &&& 31).toBitVec.smod 32).toNat = i := by decide +kernel
theorem tb_or {x y : Int32} {i : Nat} : tb (x ||| y) i = (tb x i || tb y i) := by
  unfold tb
  rw [Int32.toBitVec_or, BitVec.getLsbD_or]
theorem tb_one : ∀ o, o < 16 → ∀ i, i < 16 → tb ((1 : Int32) <<< (nI o &&& 31)) i = decide (i = o) := by decide +kernel
theorem tb_0 {i : Nat} : tb 0 i = false := BitVec.getLsbD_zero
theorem bit_tb {x : Int32} {i : Nat} (hi : i < 16) : (x >>> (nI i &&& 31)) &&& 1 = 0 ↔ tb x i = false := by
  have e1 : (x >>> (nI i &&& 31)).toBitVec = x.toBitVec.sshiftRight i := by
    show x.toBitVec.sshiftRight ((nI i &&& 31).toBitVec.smod 32).toNat = _
    rw [sm_t i hi]
  have e2 : (x.toBitVec.sshiftRight i).getLsbD 0 = tb x i := by
    rw [BitVec.getLsbD_sshiftRight, if_pos (by omega), Nat.add_zero]
    rfl
  rw [← Int32.toBitVec_inj, Int32.toBitVec_and, e1]
  show x.toBitVec.sshiftRight i &&& 1#32 = 0#32 ↔ _
  rw [BitVec.and_one_eq_setWidth_ofBool_getLsbD, e2]
  cases tb x i <;> decide
section JN
variable {n : Nat} {A B ow : Nat → Nat} {h : Hpx} {M Mm : Msx}
theorem nB_tb {j x : Nat} (hx : x < 16) : nB M j x = tb (m_I M 56 j) x := by
  unfold nB
  by_cases c : tb (m_I M 56 j) x = true
  · rw [c, decide_eq_true_eq]
    intro z
    rw [(bit_tb hx).mp z] at c
    exact absurd c Bool.false_ne_true
  · have cf : tb (m_I M 56 j) x = false := by simpa using c
    rw [cf, decide_eq_false_iff_not]
    exact fun z => z ((bit_tb hx).mpr cf)
/-- a merging reader stands in one more ring -/
def jnM (j m r : Nat) (M : Msx) : Msx := n_I (n_I (n_I (n_I M 12 (4 * j + m) (nI r)) 14 j (nI (m + 1))) 54 (8 * j + r) 0) 55 j (nI (m + 1))
theorem jn_o {j m r g : Nat} (h1 : g ≠ 12) (h2 : g ≠ 14) (h3 : g ≠ 54) (h4 : g ≠ 55) : m_I (jnM j m r M) g = m_I M g := by
  unfold jnM
  rw [n_I_o h4, n_I_o h3, n_I_o h2, n_I_o h1]
theorem jn_12 {j m r i : Nat} : m_I (jnM j m r M) 12 i = if i = 4 * j + m then nI r else m_I M 12 i := by
  unfold jnM
  rw [n_I_o (by omega), n_I_o (by omega), n_I_o (by omega), nI_at]
  by_cases c : i = 4 * j + m
  · rw [if_pos ⟨rfl, c⟩, if_pos c]
  · rw [if_neg (fun z => c z.2), if_neg c]
theorem jn_14 {j m r i : Nat} : m_I (jnM j m r M) 14 i = if i = j then nI (m + 1) else m_I M 14 i := by
  unfold jnM
  rw [n_I_o (by omega), n_I_o (by omega), nI_at, n_I_o (by omega)]
  by_cases c : i = j
  · rw [if_pos ⟨rfl, c⟩, if_pos c]
  · rw [if_neg (fun z => c z.2), if_neg c]
theorem jn_54 {j m r i : Nat} : m_I (jnM j m r M) 54 i = if i = 8 * j + r then 0 else m_I M 54 i := by
  unfold jnM
  rw [n_I_o (by omega), nI_at, n_I_o (by omega), n_I_o (by omega)]
  by_cases c : i = 8 * j + r
  · rw [if_pos ⟨rfl, c⟩, if_pos c]
  · rw [if_neg (fun z => c z.2), if_neg c]
theorem jn_55 {j m r i : Nat} : m_I (jnM j m r M) 55 i = if i = j then nI (m + 1) else m_I M 55 i := by
  unfold jnM
  rw [nI_at, n_I_o (by omega), n_I_o (by omega), n_I_o (by omega)]
  by_cases c : i = j
  · rw [if_pos ⟨rfl, c⟩, if_pos c]
  · rw [if_neg (fun z => c z.2), if_neg c]
theorem jn_W (W : Wf_ n M) (Z : Zf_ M) {j r : Nat} (hj : j < nD M) (hr : r < nR M) (k5 : kD M j = 5) (hm : rM M j < 4) (hp : pC M j r = -1) : Wf_ n (jnM j (rM M j) r M) := by
  have w := W.2.2.1 j hj
  have h8 := W.1.2.1
  obtain ⟨z1, z2, z3, z4⟩ := Z
  obtain ⟨w1, w2, w3, w4, w5, w6, w7, w8, w9, w10, w11, w12, w13⟩ := w
  have hno : ∀ k, k < rM M j → rG M j k ≠ r := fun k hk e => by
    have := (w5 (by omega) (by omega)).1 k hk
    rw [e, (w3 k hk).2.2.1] at this
    have hp' : m_I M 54 (8 * j + r) = -1 := hp
    rw [hp'] at this
    have q : pL M j k < 2 ^ 31 := by
      unfold pL
      have := Int32.toInt_lt (m_I M 13 (4 * j + k))
      show (m_I M 13 (4 * j + k)).toInt.toNat < _
      omega
    have := nI_pos q
    rw [← ‹(-1 : Int32) = nI (pL M j k)›] at this
    exact this (by decide)
  have o : ∀ g, g ≠ 12 → g ≠ 14 → g ≠ 54 → g ≠ 55 → m_I (jnM j (rM M j) r M) g = m_I M g := fun g a b c d => jn_o a b c d
  have eM14 : rM (jnM j (rM M j) r M) j = rM M j + 1 := by
    show (m_I (jnM j (rM M j) r M) 14 j).toNatClampNeg = _
    rw [jn_14, if_pos rfl, cl_nI (by omega)]
  have eG : ∀ k, k < 4 → rG (jnM j (rM M j) r M) j k = if k = rM M j then r else rG M j k := fun k hk => by
    show (m_I (jnM j (rM M j) r M) 12 (4 * j + k)).toNatClampNeg = _
    rw [jn_12]
    by_cases c : k = rM M j
    · rw [if_pos (by omega), if_pos c, cl_nI (by omega)]
    · rw [if_neg (by omega), if_neg c]
      rfl
  have eP : ∀ k, pL (jnM j (rM M j) r M) j k = pL M j k := fun k => by
    show (m_I (jnM j (rM M j) r M) 13 (4 * j + k)).toNatClampNeg = _
    rw [o 13 (by omega) (by omega) (by omega) (by omega)]
    rfl
  have p0 : ∀ k, pL M j k = 0 := fun k => by
    unfold pL
    rw [z1 13 (by omega)]
    rfl
  have c0 : ∀ q, cL M q = 0 := fun q => by
    unfold cL
    rw [z1 2 (by omega)]
    rfl
  have eK : kD (jnM j (rM M j) r M) j = 5 := by
    show (m_I (jnM j (rM M j) r M) 11 j).toNatClampNeg = _
    rw [o 11 (by omega) (by omega) (by omega) (by omega)]
    exact k5
  refine Wf_d W (Nat.le_refl n) (j := j) (fun g hg _ _ _ _ => o g (by omega) (by omega) (by omega) (by omega)) (fun g hg q hq => ?_) (fun g hg i hi => ?_) (fun i hi => by rw [jn_54, if_neg (by omega)]) (fun g hg i hi => by rw [o g (by omega) (by omega) (by omega) (by omega)]) (fun g hg i hi => rfl) (fun g hg i hi => rfl) ?_ (Nm_d (o 10 (by omega) (by omega) (by omega) (by omega)) (o 16 (by omega) (by omega) (by omega) (by omega)) (o 15 (by omega) (by omega) (by omega) (by omega)) W) (fun _ _ _ k hk => by rw [c0]; omega)
  · by_cases c14 : g = 14
    · rw [c14, jn_14, if_neg hq]
    · by_cases c55 : g = 55
      · rw [c55, jn_55, if_neg hq]
      · rw [o g (by omega) c14 (by omega) c55]
  · by_cases c12 : g = 12
    · rw [c12, jn_12, if_neg (by omega)]
    · rw [o g c12 (by omega) (by omega) (by omega)]
  · have en : nM (jnM j (rM M j) r M) j = nM M j := by
      show (m_I (jnM j (rM M j) r M) 16 j).toNatClampNeg = _
      rw [o 16 (by omega) (by omega) (by omega) (by omega)]
      rfl
    have ea : ∀ k, nA (jnM j (rM M j) r M) j k = nA M j k := fun k => by
      show (m_I (jnM j (rM M j) r M) 15 (4 * j + k)).toNatClampNeg = _
      rw [o 15 (by omega) (by omega) (by omega) (by omega)]
      rfl
    have ee : eM (jnM j (rM M j) r M) j = eM M j := by
      show (m_I (jnM j (rM M j) r M) 28 j).toNatClampNeg = _
      rw [o 28 (by omega) (by omega) (by omega) (by omega)]
      rfl
    have eR : nR (jnM j (rM M j) r M) = nR M := by
      show (m_I (jnM j (rM M j) r M) 0 0).toNatClampNeg = _
      rw [o 0 (by omega) (by omega) (by omega) (by omega)]
      rfl
    have eD : nD (jnM j (rM M j) r M) = nD M := by
      show (m_I (jnM j (rM M j) r M) 10 0).toNatClampNeg = _
      rw [o 10 (by omega) (by omega) (by omega) (by omega)]
      rfl
    unfold Wd_n
    rw [eK, eM14, en, ee, eR, eD, o 11 (by omega) (by omega) (by omega) (by omega), o 16 (by omega) (by omega) (by omega) (by omega), o 21 (by omega) (by omega) (by omega) (by omega), o 23 (by omega) (by omega) (by omega) (by omega), o 25 (by omega) (by omega) (by omega) (by omega), o 28 (by omega) (by omega) (by omega) (by omega), o 56 (by omega) (by omega) (by omega) (by omega), o 58 (by omega) (by omega) (by omega) (by omega), jn_14, if_pos rfl, jn_55, if_pos rfl]
    rw [k5] at w1 w7 w12
    refine ⟨w1, ⟨rfl, by omega, by omega, fun z => absurd rfl z⟩, fun k hk => ?_, fun a b ha hb q => ?_, fun _ _ => ⟨fun k hk => ?_, fun q hq hx => ?_, rfl⟩, fun z => absurd z (by omega), w7, fun k hk => ?_, fun i hi => ?_, fun z => absurd z (by omega), w11, w12, fun z => absurd z (by omega)⟩
    · rw [eG k (by omega), eP, p0, jn_12, o 13 (by omega) (by omega) (by omega) (by omega), z1 13 (by omega)]
      by_cases c : k = rM M j
      · rw [if_pos c, if_pos (by omega)]
        exact ⟨rfl, hr, rfl, by omega⟩
      · rw [if_neg c, if_neg (by omega)]
        exact ⟨(w3 k (by omega)).1, (w3 k (by omega)).2.1, rfl, by omega⟩
    · rw [eG a (by omega), eG b (by omega)] at q
      by_cases ca : a = rM M j
      · rw [if_pos ca] at q
        by_cases cb : b = rM M j
        · omega
        · rw [if_neg cb] at q
          exact absurd q.symm (hno b (by omega))
      · rw [if_neg ca] at q
        by_cases cb : b = rM M j
        · rw [if_pos cb] at q
          exact absurd q (hno a (by omega))
        · rw [if_neg cb] at q
          exact w4 a b (by omega) (by omega) q
    · rw [eG k (by omega), o 13 (by omega) (by omega) (by omega) (by omega), jn_54]
      by_cases c : k = rM M j
      · rw [if_pos c, if_pos rfl, z1 13 (by omega)]
      · rw [if_neg c, if_neg (by have := hno k (by omega); omega)]
        exact (w5 (by omega) (by omega)).1 k (by omega)
    · have q1 := hx (rM M j) (by omega)
      rw [eG _ hm, if_pos rfl] at q1
      rw [jn_54, if_neg (by omega)]
      refine (w5 (by omega) (by omega)).2.1 q hq fun k hk e => ?_
      have q2 := hx k (by omega)
      rw [eG k (by omega), if_neg (by omega)] at q2
      exact q2 e
    · rw [ea, o 15 (by omega) (by omega) (by omega) (by omega)]
      exact w8 k hk
    · simp only [ea]
      exact w9 i hi
theorem jn_P {j r : Nat} (P : Pn_ A B ow h M) (hj : j < nD M) (hr : r < 8) {m : Nat} (hm1 : 1 ≤ m) (hm : m < 4) : Pn_ A B ow (s_I (s_I h (B j + 3) r 0) (B j) 7 (nI (m + 1))) (jnM j m r M) := by
  have d0 : Dn_ M (n_I M 12 (4 * j + m) (nI r)) := by
    refine ⟨Dm_I (by omega) (by omega) (by omega) (by omega), fun i => ?_, fun i => ?_, fun i e => ?_⟩
    · unfold rG
      rw [nI_n (by omega)]
    · unfold tG
      rw [n_I_o (by omega)]
    · unfold sG
      rw [n_I_o (by omega)]
  have P0 : Pn_ A B ow h (n_I M 12 (4 * j + m) (nI r)) := ⟨Ow_c P.1 d0, Sh_c P.2.1 d0 rfl rfl rfl rfl, RI_m P.2.2.1 d0.1 (fun z => z), RJ_mI P.2.2.2 d0.1⟩
  have P1 := Pn_mI P0 (f := 14) (i := j) (x := nI (m + 1)) (fun z => z) (by omega) (by omega) (by omega) (by omega) (by omega) (by omega) (by omega)
  have d1 := Dm_tr d0.1 (Dm_I (f := 14) (i := j) (x := nI (m + 1)) (by omega) (by omega) (by omega) (by omega))
  obtain ⟨q1, q2, q3⟩ := okI54 (M := n_I (n_I M 12 (4 * j + m) (nI r)) 14 j (nI (m + 1))) (A := A) (B := B) (j := j) (q := r) (by rw [d1.2.1]; exact hj) hr
  have P2 := Pn_wI P1 (f := 54) (i := 8 * j + r) q1 0 (by omega) (by omega) (by omega) (by omega) (by omega) (by omega) (by omega)
  rw [q2, q3] at P2
  have d2 := Dm_tr d1 (Dm_I (f := 54) (i := 8 * j + r) (x := 0) (by omega) (by omega) (by omega) (by omega))
  exact Pn_wI P2 (f := 55) (i := j) (show j < nD _ by rw [d2.2.1]; exact hj) (nI (m + 1)) (by omega) (by omega) (by omega) (by omega) (by omega) (by omega) (by omega)
theorem jn_Z (Z : Zf_ M) {j m r : Nat} : Z_ (jnM j m r M) := fun _ => by
  obtain ⟨z1, z2, z3, z4⟩ := Z
  have e : nD (jnM j m r M) = nD M := by unfold nD; rw [jn_o (by omega) (by omega) (by omega) (by omega)]
  refine ⟨fun g hg i => by rw [jn_o (by omega) (by omega) (by omega) (by omega)]; exact z1 g hg i, fun g hg i => z2 g hg i, fun i hi => ?_, fun i hi => ?_⟩
  · rw [e] at hi
    rw [jn_o (by omega) (by omega) (by omega) (by omega)]
    exact z3 i hi
  · rw [e] at hi
    rw [jn_o (by omega) (by omega) (by omega) (by omega)]
    exact z4 i hi
theorem ok_join : Ok_join Inv_ := by
  intro n h M x y hn I
  obtain ⟨A, B, ow, C, Z⟩ := id I
  have W := C.2.2.2.2
  show Rs_ n _ _
  unfold f_X3_join f_X4_join
  simp only [if_pos C.2.1.1.1, rI_34 C]
  rcases reader_c C x with ⟨a, b⟩ | ⟨j, hj, h16, rfl, a, b⟩
  · rw [a, b]
    exact rs_v I _
  rcases ring_c C y with ⟨a', b'⟩ | ⟨r, hr, h8, rfl, a', b'⟩
  · rw [a, b, a', b']
    exact rs_v I _
  obtain ⟨s1, s2, s3, s4, s5, s6, s7, s8, s9, s10, s11, -⟩ := C.2.1.2.2.2.2.1 j hj
  have wd := W.2.2.1 j hj
  obtain ⟨w1, w1a, w1b⟩ := wd.1
  obtain ⟨w2, w2a, w2b, -⟩ := wd.2.1
  rw [a, b, a', b']
  simp only [Option.bind_some, reduceCtorEq, if_false, s1, if_true, rI_11 C hj, w1, in_nI h16 (show 16 ≤ 65536 by omega), cl_nI (show j < 2 ^ 31 by omega), placeIn1 C hj h8, rI_55 C hj]
  rw [if_neg (show ¬ (1 : Int32) = 0 by decide), if_neg (show ¬ (1 : Int32) = 0 by decide)]
  by_cases e : m_I M 34 0 = 0
  · rw [if_pos e, if_pos e]
    by_cases c5 : kD M j = 5
    · have c5' : nI (kD M j) = 5 := by rw [c5]; rfl
      rw [if_pos c5', if_pos c5']
      have w55 := (wd.2.2.2.2.1 (by omega) (by omega)).2.2
      obtain ⟨iv, e1, hiv⟩ := index_c W hj h8
      rw [e1, w55, w2]
      simp only [Option.bind_some]
      rcases hiv with ⟨rfl, p1⟩ | ⟨k, rfl, hk, hkq, p1, p2, p3⟩
      · rw [p1, if_pos (show (-1 : Int32) < 0 by decide), if_pos (show (-1 : Int32) < 0 by decide)]
        by_cases c4 : rM M j = 4
        · rw [if_neg (by rw [c4]; decide), if_pos (by rw [c4]; rfl)]
          exact rs_v I _
        · rw [if_pos (by rw [ltlit (n := 4) rfl (by omega)]; omega), if_neg (by rw [eqlit (n := 4) rfl (by omega)]; exact c4), four_j, nI_add, if_pos (in_nI (by omega) (by omega)), cl_nI (by omega)]
          refine ⟨s_I (s_I h (B j + 3) r 0) (B j) 7 (nI (rM M j + 1)), n_I (n_I M 12 (4 * j + rM M j) (nI r)) 14 j (nI (rM M j + 1)), 1, jnM j (rM M j) r M, ?_, ?_, ?_, inv_mo _ _ _ ⟨A, B, ow, Cn_of (jn_P (Pn_of C) hj h8 w2a (by omega)) (jn_W W (Z e) hj hr c5 (by omega) p1), jn_Z (Z e)⟩⟩
          · unfold f_X1_standIn
            rw [if_neg (nI_pos (by omega)), if_neg (by rw [litle (n := 8) rfl (by omega)]; omega), if_pos s1, s9]
            simp only [Option.bind_some, s10, s11, if_true, in_nI h8 (show 8 ≤ 65536 by omega), cl_nI (show r < 2 ^ 31 by omega), b_d_eq]
            rw [sI_n (by omega), rI_55 C hj, w55, w2, nI_1]
          · simp only [b_d_eq]
            rw [n_I_o (by omega), w2, nI_1]
          · unfold jnM
            exact ag_g (ag_g (ag_rf _) (by omega) (by omega)) (by omega) (by omega)
      · have hpl := wd.2.2.1 k hk
        have hc := (W.2.1 r hr).2.2.2.1
        rw [p1, if_neg (nI_pos (by omega)), if_neg (nI_pos (by omega))]
        exact rs_v I _
    · have c5' : ¬ nI (kD M j) = 5 := by rw [eqlit (n := 5) rfl (by omega)]; exact c5
      rw [if_neg c5', if_neg c5']
      exact rs_v I _
  · rw [if_neg e, if_neg e]
    exact rs_v I _
end JN
