/-! fill and copy -/
def cpM (f b0 : Nat) (v : Nat → Int64) : Nat → Msx → Msx
  | 0, M => M
  | m + 1, M => n_J (cpM f b0 v m M) f (b0 + m) (v m)
theorem cpM_I {f b0 : Nat} {v : Nat → Int64} {M : Msx} : ∀ m, m_I (cpM f b0 v m M) = m_I M
  | 0 => rfl
  | m + 1 => by rw [cpM, nJ_I, cpM_I m]
theorem cpM_o {f b0 g : Nat} {v : Nat → Int64} {M : Msx} (hg : g ≠ f) : ∀ m, m_J (cpM f b0 v m M) g = m_J M g
  | 0 => rfl
  | m + 1 => by rw [cpM, n_J_o hg, cpM_o hg m]
theorem cpM_out {f b0 q : Nat} {v : Nat → Int64} {M : Msx} : ∀ m, (q < b0 ∨ b0 + m ≤ q) → m_J (cpM f b0 v m M) f q = m_J M f q
  | 0, _ => rfl
  | m + 1, h => by rw [cpM, nJ_n (by omega), cpM_out m (by omega)]
theorem cpM_in {f b0 i : Nat} {v : Nat → Int64} {M : Msx} : ∀ m, i < m → m_J (cpM f b0 v m M) f (b0 + i) = v i
  | 0, h => absurd h (by omega)
  | m + 1, h => by
    rw [cpM]
    by_cases e : i = m
    · rw [e, nJ_s]
    · rw [nJ_n (by omega), cpM_in m (by omega)]
theorem cpM_ag {f b0 : Nat} {v : Nat → Int64} {M Mm : Msx} (a : Ag_ Mm M) : ∀ m, Ag_ (cpM f b0 v m Mm) (cpM f b0 v m M)
  | 0 => a
  | m + 1 => ag_cJ (cpM_ag a m)
theorem cpM_agg {f b0 : Nat} {v : Nat → Int64} {M Mm : Msx} (a : Ag_ Mm M) (h1 : 42 ≤ f) (h2 : f ≠ 99) : ∀ m, Ag_ Mm (cpM f b0 v m M)
  | 0 => a
  | m + 1 => ag_gJ (cpM_agg a h1 h2 m) h1 h2
theorem cpM_v {f b0 : Nat} {v w : Nat → Int64} {M : Msx} : ∀ m, (∀ i, i < m → v i = w i) → cpM f b0 v m M = cpM f b0 w m M
  | 0, _ => rfl
  | m + 1, h => by rw [cpM, cpM, cpM_v m fun i hi => h i (by omega), h m (by omega)]
theorem cJ_at {h : Hpx} {a b sp m x p : Nat} : h_J (c_J h a b sp 0 m) x p = if x = b ∧ p < m then h_J h a (sp + p) else h_J h x p := by
  show va_up (h_J h) b (va_cpy (h_J h a) (h_J h b) sp 0 m) x p = _
  by_cases e : x = b
  · subst e
    rw [va_up_self]
    by_cases e2 : p < m
    · rw [pk_cpy_in (Nat.zero_le p) (by omega), if_pos ⟨rfl, e2⟩]
      rfl
    · rw [pk_cpy_out (by omega), if_neg (fun z => e2 z.2)]
  · rw [va_up_ne _ _ e, if_neg (fun z => e z.1)]
theorem sJ_at {h : Hpx} {a p b q : Nat} {x : Int64} : h_J (s_J h a p x) b q = if b = a ∧ q = p then x else h_J h b q := by
  split
  · next e => rw [e.1, e.2, sJ_s]
  · next e => rw [sJ_n e]
theorem Hx_J {h h' : Hpx} (e1 : h_k h' = h_k h) (e2 : h_n h' = h_n h) (e3 : h_z h' = h_z h) (e4 : h_I h' = h_I h) (e5 : ∀ a p, h_J h' a p = h_J h a p) (e6 : h_R h' = h_R h) : h' = h := Prod.ext e1 (Prod.ext e2 (Prod.ext e3 (Prod.ext e4 (Prod.ext (funext fun a => funext fun p => e5 a p) e6))))
theorem cJ_0 {h : Hpx} {a b sp : Nat} : c_J h a b sp 0 0 = h := Hx_J rfl rfl rfl rfl (fun x p => by rw [cJ_at, if_neg (by omega)]) rfl
theorem cJ_s {h : Hpx} {a b sp m : Nat} : c_J h a b sp 0 (m + 1) = s_J (c_J h a b sp 0 m) b m (h_J h a (sp + m)) := Hx_J rfl rfl rfl rfl (fun x p => by
  rw [cJ_at, sJ_at, cJ_at]
  by_cases e : x = b ∧ p = m
  · rw [if_pos (by omega), if_pos e, e.2]
  · rw [if_neg e]
    by_cases e2 : x = b ∧ p < m
    · rw [if_pos (by omega), if_pos e2]
    · rw [if_neg (by omega), if_neg e2]) rfl
section FC
variable {n : Nat} {A B ow : Nat → Nat} {h : Hpx} {M Mm : Msx}
theorem Dm_cp {f b0 : Nat} {v : Nat → Int64} {m : Nat} : Dm_ M (cpM f b0 v m M) := by
  refine ⟨?_, ?_, fun q => ?_, fun q => ?_⟩
  · unfold nR; rw [cpM_I]
  · unfold nD; rw [cpM_I]
  · unfold sL; rw [cpM_I]
  · unfold kD; rw [cpM_I]
theorem okJ_dm {M M' : Msx} (d : Dm_ M M') {f i : Nat} (h : okJ M f i) : okJ M' f i := ok_dmJ ⟨d.1.symm, d.2.1.symm, fun r => (d.2.2.1 r).symm, fun j => (d.2.2.2 j).symm⟩ h
theorem Pn_cp {a b sp f b0 m : Nat} {v : Nat → Int64} (P : Pn_ A B ow h M) (hm : m ≤ 8) (hd : ∀ i, i < 8 → okJ M f (b0 + i) ∧ adJ A B f (b0 + i) = b ∧ plJ f (b0 + i) = i) (hv : ∀ i, i < m → h_J h a (sp + i) = v i) : ∀ k, k ≤ m → Pn_ A B ow (c_J h a b sp 0 k) (cpM f b0 v k M)
  | 0, _ => by rw [cJ_0]; exact P
  | k + 1, hk => by
    rw [cJ_s, cpM, hv k (by omega)]
    obtain ⟨d1, d2, d3⟩ := hd k (by omega)
    have P1 := Pn_wJ (Pn_cp P hm hd hv k (by omega)) (f := f) (i := b0 + k) (okJ_dm Dm_cp d1) (v k)
    rw [d2, d3] at P1
    exact P1
theorem Pn_cpm {f b0 : Nat} {v : Nat → Int64} (P : Pn_ A B ow h M) (hno : ∀ (M : Msx) i, ¬ okJ M f i) : ∀ m, Pn_ A B ow h (cpM f b0 v m M)
  | 0 => P
  | m + 1 => Pn_mJ (Pn_cpm P hno m) (hno _ _)
theorem wf_cp {f b0 m : Nat} {v : Nat → Int64} (W : Wf_ n M) (hf : f ≠ 30 ∧ f ≠ 33 ∧ f ≠ 64 ∧ f ≠ 65) : Wf_ n (cpM f b0 v m M) := Wf_c W (fun g hg _ _ _ _ _ _ _ => by rw [cpM_I]) (fun g hg => cpM_o (by omega) m)
/-- an open claim, as both sides find it -/
theorem open_c (C : Cn_ n A B ow h M) (hn : n ≤ 512) {r : Nat} (hr : r < nR M) (x : Int32) : (f_X2_openSlot h (A r) x = some none ∧ f_X4_isOpen M (nI r) x = some 0) ∨ ∃ q, x = nI q ∧ oB M r q = true ∧ q < cL M r ∧ cL M r ≤ q + sL M r ∧ f_X2_openSlot h (A r) x = some (some (A r + 2 + 2 * (q % sL M r))) ∧ f_X4_isOpen M (nI r) x = some 1 := by
  have W := C.2.2.2.2
  have h8 : r < 8 := by have := W.1.2.1; omega
  have w := W.2.1 r hr
  have hc := w.2.2.2.1
  rcases pk_ix x (n := 2 ^ 30) (by omega) with hx | hx | ⟨q, hq, rfl⟩
  · exact Or.inl ⟨openSlot_neg C hr hx, isOpen4_neg h8 hx⟩
  · left
    have hx2 : nI (cL M r) ≤ x := le_tr hx (by omega) (by omega)
    have hx0 := lt_tr hx (by omega)
    have s1 := (C.2.1.2.2.2.1 r hr).1
    constructor
    · unfold f_X2_openSlot f_X2_slotOf j_X2_slotOf_36 j_X2_slotOf_37
      simp only [s1, if_true, rI_50 C hr, rI_2 C hr, w.2.2.1, if_neg hx0, if_pos hx2]
      split <;> rfl
    · unfold f_X4_isOpen f_X4_isKept
      simp only [in_nI h8 (show 8 ≤ 65536 by omega), if_true, cl_nI (show r < 2 ^ 31 by omega), w.2.2.1, if_neg hx0, if_pos hx2]
      split <;> rfl
  · by_cases e : oB M r q = true
    · right
      have e2 := e
      unfold oB kp at e2
      simp only [Bool.and_eq_true, decide_eq_true_eq] at e2
      refine ⟨q, rfl, e, e2.1.2.1, e2.1.2.2, ?_, ?_⟩
      · rw [openSlot_nI C hn hr hq, if_pos e]
      · rw [isOpen4_nI W hn hr hq, if_pos e]
    · left
      constructor
      · rw [openSlot_nI C hn hr hq, if_neg e]
      · rw [isOpen4_nI W hn hr hq, if_neg e]
theorem okJ9 {r k i : Nat} (hr : r < nR M) (hk : k < sL M r) (h64 : k < 64) (hi : i < 8) : okJ M 9 (8 * (64 * r + k) + i) ∧ adJ A B 9 (8 * (64 * r + k) + i) = A r + 3 + 2 * k ∧ plJ 9 (8 * (64 * r + k) + i) = i := by
  have e1 : (8 * (64 * r + k) + i) / 512 = r := by omega
  have e2 : (8 * (64 * r + k) + i) / 8 % 64 = k := by omega
  have e3 : (8 * (64 * r + k) + i) % 8 = i := by omega
  refine ⟨by show _ / 512 < _ ∧ _ / 8 % 64 < _; rw [e1, e2]; exact ⟨hr, hk⟩, ?_, ?_⟩
  · simp only [adJ, e1, e2]
  · simp only [plJ, e3]
theorem eight_t (t i : Nat) : ((8 : Int32) * nI t) + nI i = nI (8 * t + i) := by rw [show (8 : Int32) = nI 8 from rfl, pk_mul, nI_add]
theorem ok_fill : Ok_fill Inv_ := by
  intro n h M x x2 x3 x4 hn I
  obtain ⟨A, B, ow, C, Z⟩ := id I
  have W := C.2.2.2.2
  show Rs_ n _ _
  unfold f_X3_fill f_X4_fill j_X3_fill_64 j_X4_fill_58
  simp only [if_pos C.2.1.1.1, rI_34 C]
  rcases ring_c C x with ⟨a, b⟩ | ⟨r, hr, h8, rfl, a, b⟩
  · rw [a, b]
    exact rs_v I _
  have w := W.2.1 r hr
  obtain ⟨s1, s2, s3, s4, s5⟩ := C.2.1.2.2.2.1 r hr
  rw [a, b]
  simp only [Option.bind_some, reduceCtorEq, if_false, s1, if_true, in_nI h8 (show 8 ≤ 65536 by omega), cl_nI (show r < 2 ^ 31 by omega), rI_50 C hr]
  rw [if_neg (show ¬ (1 : Int32) = 0 by decide)]
  by_cases e : m_I M 34 0 = 0
  · rw [if_pos e, if_pos e]; exact rs_v I _
  rw [if_neg e, if_neg e]
  rcases how_g w with ⟨q1, q2⟩ | ⟨q1, q2⟩
  · rw [if_neg q2, if_pos q1]
    exact rs_f C Z (t := 1) (by omega) (by omega)
  rw [if_pos q2, if_neg q1]
  rcases open_c C (show n ≤ 512 by omega) hr x2 with ⟨o1, o2⟩ | ⟨q, rfl, o3, o4, o5, o1, o2⟩
  · rw [o1, o2]
    exact rs_v I _
  have hm := sl_mod (q := q) w
  obtain ⟨t1, t2, t3, t4, t5⟩ := s5 _ hm.1
  have hc := w.2.2.2.1
  rw [o1, o2]
  simp only [Option.bind_some, reduceCtorEq, if_false, t2, t3, t4, t5, if_true, slot_nI W hr (show q < 2 ^ 30 by omega), b_d_eq]
  rw [if_neg (show ¬ (1 : Int32) = 0 by decide)]
  rcases pk_ix x3 (n := 8) (by omega) with hx | hx | ⟨i, hi, rfl⟩
  · rw [if_pos hx, if_pos hx]
    exact rs_f C Z (t := 2) (by omega) (by omega)
  · have hx0 := lt_tr hx (by omega)
    have hx7 : ¬ x3 ≤ 7 := by
      rw [Int32.le_iff_toInt_le, nI_toInt (by omega)] at hx
      rw [Int32.le_iff_toInt_le, show (7 : Int32).toInt = 7 from rfl]
      omega
    have hx8 : ¬ x3 < 8 := by rw [Int32.not_lt]; exact hx
    rw [if_neg hx0, if_neg hx0, if_neg hx7, if_neg hx8]
    exact rs_f C Z (t := 2) (by omega) (by omega)
  · have z1 : nI i < 8 := by rw [ltlit (n := 8) rfl (by omega)]; omega
    have z2 : nI i ≤ 7 := by rw [lelit (n := 7) rfl (by omega)]; omega
    rw [if_neg (nI_pos (by omega)), if_neg (nI_pos (by omega)), if_pos z1, if_pos z2, if_pos (in_nI hi (by omega)), cl_nI (by omega), eight_t, if_pos (in_nI (by omega) (by omega)), cl_nI (by omega)]
    obtain ⟨d1, d2, d3⟩ := okJ9 (A := A) (B := B) hr hm.1 hm.2 hi
    have P1 := Pn_wJ (Pn_of C) (f := 9) (i := 8 * (64 * r + q % sL M r) + i) d1 x4
    rw [d2, d3] at P1
    exact ⟨_, _, 1, _, rfl, rfl, ag_rf _, inv_mo _ _ _ ⟨A, B, ow, Cn_of P1 (wf_freeJ W (by omega)), Z_b e⟩⟩
theorem cp_loop (W : Wf_ n M) {r q j s m : Nat} (hr : r < nR M) (hq : q < 2 ^ 30) (hj : j < 16) (hsm : s + m ≤ 8) : ∀ (k i fuel : Nat), i + k = m → k < fuel → l_X4_copy_92 fuel (cpM 9 (8 * (64 * r + q % sL M r)) (fun i => m_J M 27 (8 * j + (s + i))) i M) (nI r) (nI q) (nI j) (nI s) (nI m) (nI i) = some (cpM 9 (8 * (64 * r + q % sL M r)) (fun i => m_J M 27 (8 * j + (s + i))) m M, 1) := by
  have h8 : r < 8 := by have := W.1.2.1; omega
  have hm := sl_mod (q := q) (W.2.1 r hr)
  intro k
  induction k with
  | zero =>
    intro i fuel hi hf
    obtain ⟨f, rfl⟩ : ∃ f, fuel = f + 1 := ⟨fuel - 1, by omega⟩
    rw [u_X4_copy_92]
    unfold j_X4_copy_92
    rw [if_pos (by rw [nI_leI (by omega) (by omega)]; omega), show i = m by omega]
  | succ k ih =>
    intro i fuel hi hf
    obtain ⟨f, rfl⟩ : ∃ f, fuel = f + 1 := ⟨fuel - 1, by omega⟩
    rw [u_X4_copy_92]
    unfold j_X4_copy_92
    have W' : Wf_ n (cpM 9 (8 * (64 * r + q % sL M r)) (fun i => m_J M 27 (8 * j + (s + i))) i M) := wf_cp W (by omega)
    have hs := slot_nI W' (r := r) (q := q) (by rw [Dm_cp.1]; exact hr) hq
    rw [Dm_cp.2.2.1] at hs
    rw [if_neg (by rw [nI_leI (by omega) (by omega)]; omega), hs]
    simp only [Option.bind_some, eight_t, nI_add, b_d_eq, nI_1]
    rw [if_pos (in_nI (by omega) (by omega)), if_pos (in_nI (by omega) (by omega)), cl_nI (by omega), cl_nI (by omega), cpM_o (by omega)]
    have := ih (i + 1) f (by omega) (by omega)
    rw [cpM] at this
    rw [show 8 * j + s + i = 8 * j + (s + i) by omega]
    exact this
theorem ok_copy : Ok_copy Inv_ := by
  intro n h M x x2 x3 x4 x5 hn I
  obtain ⟨A, B, ow, C, Z⟩ := id I
  have W := C.2.2.2.2
  show Rs_ n _ _
  unfold f_X3_copy f_X4_copy j_X3_copy_93 j_X4_copy_83
  simp only [if_pos C.2.1.1.1, rI_34 C]
  rcases ring_c C x with ⟨a, b⟩ | ⟨r, hr, h8, rfl, a, b⟩
  · rcases reader_c C x3 with ⟨a', b'⟩ | ⟨j, hj, h16, rfl, a', b'⟩
    · rw [a, b, a']
      exact rs_v I _
    · rw [a, b, a']
      exact rs_v I _
  rcases reader_c C x3 with ⟨a', b'⟩ | ⟨j, hj, h16, rfl, a', b'⟩
  · rw [a, b, a', b']
    exact rs_v I _
  have w := W.2.1 r hr
  obtain ⟨s1, s2, s3, s4, s5⟩ := C.2.1.2.2.2.1 r hr
  obtain ⟨p1, p2, p3, p4, p5, p6, p7, p8, -⟩ := C.2.1.2.2.2.2.1 j hj
  rw [a, b, a', b']
  simp only [Option.bind_some, reduceCtorEq, if_false, s1, p1, p4, p5, p6, p7, p8, if_true, in_nI h8 (show 8 ≤ 65536 by omega), cl_nI (show r < 2 ^ 31 by omega), rI_50 C hr]
  rw [if_neg (show ¬ (1 : Int32) = 0 by decide)]
  by_cases e : m_I M 34 0 = 0
  · rw [if_pos e, if_pos e]; exact rs_v I _
  rw [if_neg e, if_neg e]
  rcases how_g w with ⟨q1, q2⟩ | ⟨q1, q2⟩
  · rw [if_neg q2, if_pos q1]
    exact rs_f C Z (t := 1) (by omega) (by omega)
  rw [if_pos q2, if_neg q1]
  rcases open_c C (show n ≤ 512 by omega) hr x2 with ⟨o1, o2⟩ | ⟨q, rfl, o3, o4, o5, o1, o2⟩
  · rw [o1, o2]
    exact rs_v I _
  have hm := sl_mod (q := q) w
  obtain ⟨t1, t2, t3, t4, t5⟩ := s5 _ hm.1
  have hc := w.2.2.2.1
  rw [o1, o2]
  simp only [Option.bind_some, reduceCtorEq, if_false, t2, t3, t4, t5, if_true, b_d_eq]
  rw [if_neg (show ¬ (1 : Int32) = 0 by decide)]
  have bad := rs_f C Z (t := 5) (by omega) (by omega)
  rcases pk_ix x4 (n := 9) (by omega) with hx | hx | ⟨s, hs, rfl⟩
  · rw [if_pos hx, if_pos hx]
    exact bad
  · have hx0 := lt_tr hx (by omega)
    rw [if_neg hx0, if_neg hx0]
    have hx8 : (8 : Int32) < x4 := by
      rw [Int32.le_iff_toInt_le, nI_toInt (by omega)] at hx
      rw [Int32.lt_iff_toInt_lt, show (8 : Int32).toInt = 8 from rfl]
      omega
    rw [if_pos hx8]
    by_cases y0 : x5 < 0
    · rw [if_pos y0]; exact bad
    rw [if_neg y0]
    by_cases y8 : (8 : Int32) < x5
    · rw [if_pos y8]; exact bad
    rw [if_neg y8]
    obtain ⟨m, hm8, rfl⟩ : ∃ m, m < 9 ∧ x5 = nI m := by
      rcases pk_ix x5 (n := 9) (by omega) with z | z | ⟨m, z, rfl⟩
      · exact absurd z y0
      · exfalso
        apply y8
        rw [Int32.le_iff_toInt_le, nI_toInt (by omega)] at z
        rw [Int32.lt_iff_toInt_lt, show (8 : Int32).toInt = 8 from rfl]
        omega
      · exact ⟨m, z, rfl⟩
    have e3 : ¬ x4 ≤ 8 - nI m := by
      rw [show (8 : Int32) = nI 8 from rfl, pk_sub (by omega), Int32.le_iff_toInt_le, nI_toInt (by omega)]
      rw [Int32.le_iff_toInt_le, nI_toInt (by omega)] at hx
      omega
    rw [if_neg e3]
    exact bad
  · rw [if_neg (nI_pos (by omega)), if_neg (nI_pos (by omega)), if_neg (by rw [litlt (n := 8) rfl (by omega)]; omega)]
    by_cases y0 : x5 < 0
    · rw [if_pos y0, if_pos y0]; exact bad
    rw [if_neg y0, if_neg y0]
    rcases pk_ix x5 (n := 9) (by omega) with z | z | ⟨m, hm9, rfl⟩
    · exact absurd z y0
    · have y8 : (8 : Int32) < x5 := by
        rw [Int32.le_iff_toInt_le, nI_toInt (by omega)] at z
        rw [Int32.lt_iff_toInt_lt, show (8 : Int32).toInt = 8 from rfl]
        omega
      have e3 : ¬ x5 ≤ 8 - nI s := by
        rw [show (8 : Int32) = nI 8 from rfl, pk_sub (by omega), Int32.le_iff_toInt_le, nI_toInt (by omega)]
        rw [Int32.le_iff_toInt_le, nI_toInt (by omega)] at z
        omega
      rw [if_pos y8, if_neg e3]
      exact bad
    · rw [show (8 : Int32) = nI 8 from rfl, pk_sub (by omega), pk_sub (by omega)]
      simp only [nI_leI (show m < 2 ^ 31 by omega) (show 8 - s < 2 ^ 31 by omega), nI_leI (show s < 2 ^ 31 by omega) (show 8 - m < 2 ^ 31 by omega), nI_ltI (show 8 < 2 ^ 31 by omega) (show m < 2 ^ 31 by omega)]
      rw [if_neg (show ¬ 8 < m by omega)]
      by_cases e3 : m ≤ 8 - s
      · rw [if_pos e3, if_pos (show s ≤ 8 - m by omega), cl_nI (by omega), cl_nI (by omega), sb_cl0, if_pos ⟨nI_pos (by omega), by decide, by exact y0, by omega, by omega⟩]
        have lp := cp_loop W (q := q) (j := j) (s := s) (m := m) hr (by omega) h16 (by omega) m 0 70 (by omega) (by omega)
        have lp' : l_X4_copy_92 70 M (nI r) (nI q) (nI j) (nI s) (nI m) 0 = some (cpM 9 (8 * (64 * r + q % sL M r)) (fun i => m_J M 27 (8 * j + (s + i))) m M, 1) := lp
        rw [lp']
        refine ⟨_, _, 1, _, rfl, rfl, ag_rf _, inv_mo _ _ _ ⟨A, B, ow, Cn_of (Pn_cp (Pn_of C) (by omega) (fun i hi => okJ9 hr hm.1 hm.2 hi) (fun i hi => rJ_27 C hj (by omega)) m (Nat.le_refl m)) (wf_cp W (by omega)), Z_b (by rw [cpM_I]; exact e)⟩⟩
      · rw [if_neg e3, if_neg (show ¬ s ≤ 8 - m by omega)]
        exact bad
end FC
