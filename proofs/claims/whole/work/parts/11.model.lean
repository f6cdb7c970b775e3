/-! System.arraycopy of longs; rows of the reference's own cells -/
section RW4
variable {v : Evx} {g : Gvx} {cc : ByteArray} {nL : Nat} {own nm : String} {rt : Option FieldType} {rm : Room} {h h' : Hpx} {M M' : Msx} {k n k' n' pc : Nat} {lv lv' : List (Nat × Vlx)} {st st0 st' : List Vlx} {H H' : Heap} {locs : List Loc}
theorem nn_ (z : Int32) (hz : ¬ z < 0) : z.toInt = (z.toNatClampNeg : Int) := by
  have hz0 : (0 : Int) ≤ z.toInt := by
    have := Int32.not_lt.mp hz
    simpa using Int32.le_iff_toInt_le.mp this
  show z.toInt = ((z.toInt.toNat : Nat) : Int)
  omega
theorem a_copyJ (X : Cx_ v g cc nL own nm rt rm) {x y : Option Nat} {a b ix : Nat} {sp dp m : Int32} (hx : x = some a) (hy : y = some b) (hka : h_k h a = 7) (hkb : h_k h b = 7) (h1 : ¬ sp < 0) (h2 : ¬ dp < 0) (h3 : ¬ m < 0) (h4 : sp.toNatClampNeg + m.toNatClampNeg ≤ h_n h a) (h5 : dp.toNatClampNeg + m.toNatClampNeg ≤ h_n h b) (hlk : Cond.methodLink own ix arraycopyName ∈ lw_g) (hR : 1 ≤ rm.frames ∧ st_w st + (nativeFrameWords "java/lang/System" "arraycopy" 5 + 11) ≤ rm.locals) (hd : decode cc pc = .ok (.invokestatic ix, 3)) (kk : At_ v g nL (c_J h a b sp.toNatClampNeg dp.toNatClampNeg m.toNatClampNeg) M k n (pc + 3) lv st) : At_ v g nL h M k n pc lv (v_I m :: v_I dp :: v_R y :: v_I sp :: v_R x :: st) := fun H locs ls w hl => by
  subst hx
  subst hy
  show W_ v H locs k n (F0 _ pc ls (.int m :: .int dp :: .ref (g.2.2 + b) :: .int sp :: .ref (g.2.2 + a) :: st.map (to_V g.2.2)))
  have hts := X.2.2.2.2.1
  have hR0 := X.2.2.2.2.2.2.2.1
  intro T hT XX
  have hc0 : H[g.2.2 + a]? = some (vp_cell (g.2.1 1) (h_n h a, .inr (.inl (h_J h a)))) := w.2.1 a _ (ws_get (in_z w hka) (cell_J hka))
  have hc1 : H[g.2.2 + b]? = some (vp_cell (g.2.1 1) (h_n h b, .inr (.inl (h_J h b)))) := w.2.1 b _ (ws_get (in_z w hkb) (cell_J hkb))
  obtain ⟨-, k0, hk0, cm0, hkk0⟩ := (X.2.2.2.2.2.1.2 1 _ rfl).1 (h_n h a) (fun j => .long (h_J h a j))
  obtain ⟨-, k1, hk1, cm1, hkk1⟩ := (X.2.2.2.2.2.1.2 1 _ rfl).1 (h_n h b) (fun j => .long (h_J h b j))
  obtain ⟨vm', X', step⟩ := XX.arraycopy X.1 X.2.2.2.1 (hts _ hlk) (hts _ nat_java_lang_Systemarraycopy) (hts _ sta_java_lang_Systemarraycopy) (hts _ ini_J10) (src := g.2.2 + a) (dst := g.2.2 + b) (cs := vp_cell (g.2.1 1) (h_n h a, .inr (.inl (h_J h a)))) (cd := vp_cell (g.2.1 1) (h_n h b, .inr (.inl (h_J h b)))) (srcPos := sp) (destPos := dp) (n := m) (by rw [hT]; exact hc0) (by rw [hT]; exact hc1)
    (fun _ h => by cases h) (fun _ h => by cases h) (fun h => by cases h) (fun h => by cases h) hk0 hk1 hkk0 hkk1 (by simp [refKind]) h1 h2 h3
    (by rw [nn_ sp h1, nn_ m h3]; show ¬ _ > ((arrV _ (h_n h a) (fun j => .long (h_J h a j))).slots.size : Int); rw [arrV_size]; omega)
    (by rw [nn_ dp h2, nn_ m h3]; show ¬ _ > ((arrV _ (h_n h b) (fun j => .long (h_J h b j))).slots.size : Int); rw [arrV_size]; omega)
    (fun vm₁ _ i hi => by
      have e : (vp_cell (g.2.1 1) (h_n h a, .inr (.inl (h_J h a)))).slots.getD (sp.toNatClampNeg + i) .null = .long (h_J h a (sp.toNatClampNeg + i)) := by
        show (arrV _ (h_n h a) (fun j => .long (h_J h a j))).slots.getD _ _ = _
        rw [Array.getD_eq_getD_getElem?, arrV_read _ _ (by omega)]
        rfl
      refine ⟨?_, ?_⟩
      · rw [e]
        rfl
      · rw [e]
        exact trivial)
    (g := F0 (e_m v) pc ls (.int m :: .int dp :: .ref (g.2.2 + b) :: .int sp :: .ref (g.2.2 + a) :: st.map (to_V g.2.2))) rfl (hl.1.trans X.2.2.1.symm) (rest := st.map (to_V g.2.2)) rfl (by rw [X.2.1]; exact hd) (by rw [hR0]; exact hR.1) (by rw [hR0, st_w_eq]; show 2 * 0 + _ + _ ≤ _; have := hR.2; omega)
  have e1 : copied (vp_cell (g.2.1 1) (h_n h a, .inr (.inl (h_J h a)))) (vp_cell (g.2.1 1) (h_n h b, .inr (.inl (h_J h b)))) sp dp m = vp_cell (g.2.1 1) (h_n h b, .inr (.inl (va_cpy (h_J h a) (h_J h b) sp.toNatClampNeg dp.toNatClampNeg m.toNatClampNeg))) := va_copied (fun z => .long z) (g.2.1 1) (g.2.1 1) (h_J h a) (h_J h b) h4
  rw [e1] at X' step
  have hlt : g.2.2 + b < H.size := (Array.getElem?_eq_some_iff.mp hc1).1
  have hheap : ((T.setVm vm').setCell (g.2.2 + b) (vp_cell (g.2.1 1) (h_n h b, .inr (.inl (va_cpy (h_J h a) (h_J h b) sp.toNatClampNeg dp.toNatClampNeg m.toNatClampNeg))))).heap = H.setIfInBounds (g.2.2 + b) (vp_cell (g.2.1 1) (h_n h b, .inr (.inl (va_cpy (h_J h a) (h_J h b) sp.toNatClampNeg dp.toNatClampNeg m.toNatClampNeg)))) := by rw [← hT]; rfl
  have oq : ∀ q : Nat, q ≠ g.2.2 + b → (H.setIfInBounds (g.2.2 + b) (vp_cell (g.2.1 1) (h_n h b, .inr (.inl (va_cpy (h_J h a) (h_J h b) sp.toNatClampNeg dp.toNatClampNeg m.toNatClampNeg)))))[q]? = H[q]? := fun q hq => by simp [Array.getElem?_setIfInBounds, Ne.symm hq]
  have w' := wd_set (h' := c_J h a b sp.toNatClampNeg dp.toNatClampNeg m.toNatClampNeg) (sl := 0) w (in_z w hkb) (by
    rw [cell_J (h := c_J h a b sp.toNatClampNeg dp.toNatClampNeg m.toNatClampNeg) hkb]
    show (H.setIfInBounds (g.2.2 + b) _)[g.2.2 + b]? = some (vp_cell _ _)
    rw [show h_J (c_J h a b sp.toNatClampNeg dp.toNatClampNeg m.toNatClampNeg) b = va_cpy (h_J h a) (h_J h b) sp.toNatClampNeg dp.toNatClampNeg m.toNatClampNeg from va_up_self _ _ _]
    rw [Array.getElem?_setIfInBounds]
    simp [hlt]
    rfl) (by simp) oq rfl rfl (fun c hc => cell_same rfl rfl rfl (c_J_o hc) rfl)
  obtain ⟨t, a1, b1⟩ := kk _ _ ls ⟨w'.1, w'.2.1, ⟨w'.2.2.1.1, w'.2.2.1.2.1, fun q hq => by
      rcases List.mem_append.mp hq with h | h
      · exact w.2.2.1.2.2 q h
      · obtain ⟨z, -, hz⟩ := List.mem_map.mp h
        rw [← hz]
        exact Nat.le_add_right _ _⟩, w'.2.2.2⟩ hl _ hheap X'
  exact ⟨t, step t a1, b1⟩
/-- the reference's cells stand: nothing of the class lies there -/
def MR_ (h : Hpx) : Prop := 41 ≤ h_z h ∧ ∀ a, 5 ≤ a → a < 41 → h_k h a = 0
theorem m_tab : ∀ kf, kf < 42 → f_ty 4 kf = 2 → 6 ≤ m_at kf ∧ m_at kf < 41 ∧ m_fd (m_at kf) = kf := by decide +kernel
theorem m_sc : ∀ kf, kf < 42 → f_ty 4 kf = 0 ∨ f_ty 4 kf = 2 := by decide +kernel
theorem m_fds : ∀ c, c < 41 → ∀ kf, kf < 42 → f_ty 4 kf = 0 → m_fd c ≠ kf := by decide +kernel
theorem m_fda : ∀ c, c < 41 → ∀ kf, kf < 42 → m_fd c = kf → c = m_at kf := by decide +kernel
theorem m_fdb {c : Nat} (hc : 41 ≤ c) : m_fd c = 99 := by
  unfold m_fd
  split <;> first | omega | rfl
theorem cell_mo {b : Nat} {ac : Nat → ClassId} (hm : MR_ h) : cell_ b ac h M 5 = .inr (4, (List.range 42).map (m_val b M)) := by
  unfold cell_ cell_m
  rw [if_pos (hm.2 5 (by omega) (by omega)), if_pos rfl]
theorem cell_mI {b : Nat} {ac : Nat → ClassId} (hm : MR_ h) {kf : Nat} (hk : kf < 42) (ht : f_ty 4 kf = 2) {t : Nat} (hd : m_kd kf = t) (hn : t ≠ 1) : cell_ b ac h M (m_at kf) = .inl (ac t, m_len kf, .inl (m_I M kf)) := by
  obtain ⟨h1, h2, h3⟩ := m_tab kf hk ht
  subst hd
  unfold cell_ cell_m
  rw [if_pos (hm.2 _ (by omega) h2), if_neg (by omega), h3, if_neg hn]
theorem cell_mJ {b : Nat} {ac : Nat → ClassId} (hm : MR_ h) {kf : Nat} (hk : kf < 42) (ht : f_ty 4 kf = 2) (hd : m_kd kf = 1) : cell_ b ac h M (m_at kf) = .inl (ac 1, m_len kf, .inr (.inl (m_J M kf))) := by
  obtain ⟨h1, h2, h3⟩ := m_tab kf hk ht
  unfold cell_ cell_m
  rw [if_pos (hm.2 _ (by omega) h2), if_neg (by omega), h3, if_pos hd]
theorem n_I_o {kf c i : Nat} {x : Int32} (e : c ≠ kf) : m_I (n_I M kf i x) c = m_I M c := va_up_ne _ _ e
theorem n_J_o {kf c i : Nat} {x : Int64} (e : c ≠ kf) : m_J (n_J M kf i x) c = m_J M c := va_up_ne _ _ e
theorem m_valI {b kf i j : Nat} {x : Int32} (ht : f_ty 4 kf = 2) : m_val b (n_I M kf i x) j = m_val b M j := by
  unfold m_val
  by_cases e : j = kf
  · subst e
    rw [if_neg (by omega), if_neg (by omega)]
  · rw [n_I_o e]
theorem cell_nI {b : Nat} {ac : Nat → ClassId} {kf i : Nat} {x : Int32} (hk : kf < 42) {c : Nat} (hc : c ≠ (if f_ty 4 kf = 2 then m_at kf else 5)) : cell_ b ac h (n_I M kf i x) c = cell_ b ac h M c := by
  have key : cell_m b ac (n_I M kf i x) c = cell_m b ac M c := by
    unfold cell_m
    by_cases e5 : c = 5
    · rw [if_pos e5, if_pos e5]
      rcases m_sc kf hk with ht | ht
      · rw [if_neg (by omega)] at hc
        exact absurd e5 hc
      · rw [show m_val b (n_I M kf i x) = m_val b M from funext fun j => m_valI ht]
    · have e : m_fd c ≠ kf := by
        rcases Nat.lt_or_ge c 41 with q | q
        · rcases m_sc kf hk with ht | ht
          · exact m_fds c q kf hk ht
          · rw [if_pos ht] at hc
            exact fun z => hc (m_fda c q kf hk z)
        · rw [m_fdb q]
          omega
      rw [if_neg e5, if_neg e5, n_I_o e]
      rfl
  unfold cell_
  rw [key]
theorem cell_nJ {b : Nat} {ac : Nat → ClassId} {kf i : Nat} {x : Int64} (hk : kf < 42) (ht : f_ty 4 kf = 2) {c : Nat} (hc : c ≠ m_at kf) : cell_ b ac h (n_J M kf i x) c = cell_ b ac h M c := by
  have key : cell_m b ac (n_J M kf i x) c = cell_m b ac M c := by
    unfold cell_m
    by_cases e5 : c = 5
    · rw [if_pos e5, if_pos e5]
      rfl
    · have e : m_fd c ≠ kf := by
        rcases Nat.lt_or_ge c 41 with q | q
        · exact fun z => hc (m_fda c q kf hk z)
        · rw [m_fdb q]
          omega
      rw [if_neg e5, if_neg e5, n_J_o e]
      rfl
  unfold cell_
  rw [key]
theorem a_mgetI (X : Cx_ v g cc nL own nm rt rm) (hm : MR_ h) (kf : Nat) {ix : Nat} (hk : kf < 42) (ht : f_ty 4 kf = 0) (hlk : Cond.fieldLink own ix (TX4 kf).1 (TX4 kf).2.1 (TX4 kf).2.2.1 ∈ lw_g) (hd : decode cc pc = .ok (.getfield ix, 3)) (kk : At_ v g nL h M k n (pc + 3) lv (v_I (m_I M kf 0) :: st)) : At_ v g nL h M k n pc lv (v_R (some 5) :: st) := fun H locs ls w hl => by
  show W_ v H locs k n (F0 _ pc ls (.ref (g.2.2 + 5) :: st.map (to_V g.2.2)))
  exact va_get (D := g.1) X.1 X.2.1 X.2.2.2.2.1 iX4 X.2.2.2.1 X.2.2.2.2.2.1 w.2.1 5 (ws_get (by have := hm.1; omega) (cell_mo hm)) rfl kf hk (X.2.2.2.2.1 _ hlk) (fun _ h9 => h9) (v := .int (m_I M kf 0)) (by simp [hk, m_val, ht]) hd (kk H locs ls w hl)
theorem a_mgetA (X : Cx_ v g cc nL own nm rt rm) (hm : MR_ h) (kf : Nat) {ix a : Nat} (hk : kf < 42) (ht : f_ty 4 kf = 2) (ha : m_at kf = a) (hlk : Cond.fieldLink own ix (TX4 kf).1 (TX4 kf).2.1 (TX4 kf).2.2.1 ∈ lw_g) (hd : decode cc pc = .ok (.getfield ix, 3)) (kk : At_ v g nL h M k n (pc + 3) lv (v_R (some a) :: st)) : At_ v g nL h M k n pc lv (v_R (some 5) :: st) := fun H locs ls w hl => by
  subst ha
  show W_ v H locs k n (F0 _ pc ls (.ref (g.2.2 + 5) :: st.map (to_V g.2.2)))
  exact va_get (D := g.1) X.1 X.2.1 X.2.2.2.2.1 iX4 X.2.2.2.1 X.2.2.2.2.2.1 w.2.1 5 (ws_get (by have := hm.1; omega) (cell_mo hm)) rfl kf hk (X.2.2.2.2.1 _ hlk) (fun _ h9 => h9) (v := .ref (g.2.2 + m_at kf)) (by simp [hk, m_val, ht]) hd (kk H locs ls w hl)
theorem a_maldI (X : Cx_ v g cc nL own nm rt rm) (hm : MR_ h) (kf : Nat) {a : Nat} {i : Int32} (hk : kf < 42) (ht : f_ty 4 kf = 2) (ha : m_at kf = a) (hkd : m_kd kf = 0) (hi : in_b i (m_len kf) = true) (hd : decode cc pc = .ok (.iaload, 1)) (kk : At_ v g nL h M k n (pc + 1) lv (v_I (m_I M kf i.toNatClampNeg) :: st)) : At_ v g nL h M k n pc lv (v_I i :: v_R (some a) :: st) := fun H locs ls w hl => by
  subst ha
  show W_ v H locs k n (F0 _ pc ls (.int i :: .ref (g.2.2 + m_at kf) :: st.map (to_V g.2.2)))
  have hz : m_at kf < h_z h := Nat.lt_of_lt_of_le (m_tab kf hk ht).2.1 hm.1
  exact va_iald X.1 X.2.1 X.2.2.2.2.2.1 w.2.1 (m_at kf) 0 (ws_get hz (cell_mI hm hk ht hkd (by decide))) rfl (in_b_in hi) hd (kk H locs ls w hl)
theorem a_maldZ (X : Cx_ v g cc nL own nm rt rm) (hm : MR_ h) (kf : Nat) {a : Nat} {i : Int32} (hk : kf < 42) (ht : f_ty 4 kf = 2) (ha : m_at kf = a) (hkd : m_kd kf = 2) (hi : in_b i (m_len kf) = true) (hd : decode cc pc = .ok (.baload, 1)) (kk : At_ v g nL h M k n (pc + 1) lv (v_I (m_I M kf i.toNatClampNeg) :: st)) : At_ v g nL h M k n pc lv (v_I i :: v_R (some a) :: st) := fun H locs ls w hl => by
  subst ha
  show W_ v H locs k n (F0 _ pc ls (.int i :: .ref (g.2.2 + m_at kf) :: st.map (to_V g.2.2)))
  have hz : m_at kf < h_z h := Nat.lt_of_lt_of_le (m_tab kf hk ht).2.1 hm.1
  exact va_zald X.1 X.2.1 X.2.2.2.2.2.1 w.2.1 (m_at kf) 2 (ws_get hz (cell_mI hm hk ht hkd (by decide))) rfl (in_b_in hi) hd (kk H locs ls w hl)
theorem a_maldJ (X : Cx_ v g cc nL own nm rt rm) (hm : MR_ h) (kf : Nat) {a : Nat} {i : Int32} (hk : kf < 42) (ht : f_ty 4 kf = 2) (ha : m_at kf = a) (hkd : m_kd kf = 1) (hi : in_b i (m_len kf) = true) (hd : decode cc pc = .ok (.laload, 1)) (kk : At_ v g nL h M k n (pc + 1) lv (v_J (m_J M kf i.toNatClampNeg) :: st)) : At_ v g nL h M k n pc lv (v_I i :: v_R (some a) :: st) := fun H locs ls w hl => by
  subst ha
  show W_ v H locs k n (F0 _ pc ls (.int i :: .ref (g.2.2 + m_at kf) :: st.map (to_V g.2.2)))
  have hz : m_at kf < h_z h := Nat.lt_of_lt_of_le (m_tab kf hk ht).2.1 hm.1
  exact va_lald X.1 X.2.1 X.2.2.2.2.2.1 w.2.1 (m_at kf) 1 (ws_get hz (cell_mJ hm hk ht hkd)) rfl (in_b_in hi) hd (kk H locs ls w hl)
theorem a_mastI (X : Cx_ v g cc nL own nm rt rm) (hm : MR_ h) (kf : Nat) {a : Nat} {i y : Int32} (hk : kf < 42) (ht : f_ty 4 kf = 2) (ha : m_at kf = a) (hkd : m_kd kf = 0) (hi : in_b i (m_len kf) = true) (hd : decode cc pc = .ok (.iastore, 1)) (kk : At_ v g nL h (n_I M kf i.toNatClampNeg y) k n (pc + 1) lv st) : At_ v g nL h M k n pc lv (v_I y :: v_I i :: v_R (some a) :: st) := fun H locs ls w hl => by
  subst ha
  show W_ v H locs k n (F0 _ pc ls (.int y :: .int i :: .ref (g.2.2 + m_at kf) :: st.map (to_V g.2.2)))
  have hz : m_at kf < h_z h := Nat.lt_of_lt_of_le (m_tab kf hk ht).2.1 hm.1
  have hc : H[g.2.2 + m_at kf]? = some (vp_cell (g.2.1 0) (m_len kf, .inl (m_I M kf))) := w.2.1 _ _ (ws_get hz (cell_mI hm hk ht hkd (by decide)))
  refine W.iast X.1 X.2.1 hc ((X.2.2.2.2.2.1.2 0 _ rfl).1 (m_len kf) (fun j => .int (m_I M kf j))) (fun q => by cases q) (by show ¬ (i < 0 ∨ (arrV _ _ _).slots.size ≤ _); rw [arrV_size]; exact in_b_in hi) rfl rfl hd fun H1 e z oq => ?_
  refine kk H1 _ ls (wd_set w hz ?_ z oq rfl rfl (fun c hc => cell_nI hk (by rw [if_pos ht]; exact hc))) hl
  rw [cell_mI hm hk ht hkd (by decide)]
  show H1[g.2.2 + m_at kf]? = some (vp_cell _ _)
  rw [e, vp_cell_i, vp_cell_i, arrV_store, vup_i]
  simp [n_I, m_I, va_up]
theorem a_mastZ (X : Cx_ v g cc nL own nm rt rm) (hm : MR_ h) (kf : Nat) {a : Nat} {i y : Int32} (hk : kf < 42) (ht : f_ty 4 kf = 2) (ha : m_at kf = a) (hkd : m_kd kf = 2) (hi : in_b i (m_len kf) = true) (hy : y = 0 ∨ y = 1) (hd : decode cc pc = .ok (.bastore, 1)) (kk : At_ v g nL h (n_I M kf i.toNatClampNeg y) k n (pc + 1) lv st) : At_ v g nL h M k n pc lv (v_I y :: v_I i :: v_R (some a) :: st) := fun H locs ls w hl => by
  subst ha
  show W_ v H locs k n (F0 _ pc ls (.int y :: .int i :: .ref (g.2.2 + m_at kf) :: st.map (to_V g.2.2)))
  have hz : m_at kf < h_z h := Nat.lt_of_lt_of_le (m_tab kf hk ht).2.1 hm.1
  have hc : H[g.2.2 + m_at kf]? = some (vp_cell (g.2.1 2) (m_len kf, .inl (m_I M kf))) := w.2.1 _ _ (ws_get hz (cell_mI hm hk ht hkd (by decide)))
  have hny : narrow .boolean (.int y) = .int y := by rcases hy with rfl | rfl <;> rfl
  refine W.zast X.1 X.2.1 hc ((X.2.2.2.2.2.1.2 2 _ rfl).1 (m_len kf) (fun j => .int (m_I M kf j))) (fun q => by cases q) (by show ¬ (i < 0 ∨ (arrV _ _ _).slots.size ≤ _); rw [arrV_size]; exact in_b_in hi) rfl rfl hd fun H1 e z oq => ?_
  refine kk H1 _ ls (wd_set w hz ?_ z oq rfl rfl (fun c hc => cell_nI hk (by rw [if_pos ht]; exact hc))) hl
  rw [cell_mI hm hk ht hkd (by decide)]
  show H1[g.2.2 + m_at kf]? = some (vp_cell _ _)
  rw [e, hny, vp_cell_i, vp_cell_i, arrV_store, vup_i]
  simp [n_I, m_I, va_up]
theorem a_mastJ (X : Cx_ v g cc nL own nm rt rm) (hm : MR_ h) (kf : Nat) {a : Nat} {i : Int32} {y : Int64} (hk : kf < 42) (ht : f_ty 4 kf = 2) (ha : m_at kf = a) (hkd : m_kd kf = 1) (hi : in_b i (m_len kf) = true) (hd : decode cc pc = .ok (.lastore, 1)) (kk : At_ v g nL h (n_J M kf i.toNatClampNeg y) k n (pc + 1) lv st) : At_ v g nL h M k n pc lv (v_J y :: v_I i :: v_R (some a) :: st) := fun H locs ls w hl => by
  subst ha
  show W_ v H locs k n (F0 _ pc ls (.long y :: .int i :: .ref (g.2.2 + m_at kf) :: st.map (to_V g.2.2)))
  have hz : m_at kf < h_z h := Nat.lt_of_lt_of_le (m_tab kf hk ht).2.1 hm.1
  have hc : H[g.2.2 + m_at kf]? = some (vp_cell (g.2.1 1) (m_len kf, .inr (.inl (m_J M kf)))) := w.2.1 _ _ (ws_get hz (cell_mJ hm hk ht hkd))
  refine W.last X.1 X.2.1 hc ((X.2.2.2.2.2.1.2 1 _ rfl).1 (m_len kf) (fun j => .long (m_J M kf j))) (fun q => by cases q) (by show ¬ (i < 0 ∨ (arrV _ _ _).slots.size ≤ _); rw [arrV_size]; exact in_b_in hi) rfl rfl hd fun H1 e z oq => ?_
  refine kk H1 _ ls (wd_set w hz ?_ z oq rfl rfl (fun c hc => cell_nJ hk ht hc)) hl
  rw [cell_mJ hm hk ht hkd]
  show H1[g.2.2 + m_at kf]? = some (vp_cell _ _)
  rw [e, vp_cell_l, vp_cell_l, arrV_store, vup_l]
  simp [n_J, m_J, va_up]
theorem a_mputI (X : Cx_ v g cc nL own nm rt rm) (hm : MR_ h) (kf : Nat) {ix : Nat} {y : Int32} (hk : kf < 42) (ht : f_ty 4 kf = 0) (hfin : (TX4 kf).2.2.2 = false) (hna : narrow (tyX4 kf) (.int y) = .int y) (hft : fits (tyX4 kf) (.int y) = true) (hlk : Cond.fieldLink own ix (TX4 kf).1 (TX4 kf).2.1 (TX4 kf).2.2.1 ∈ lw_g) (hd : decode cc pc = .ok (.putfield ix, 3)) (kk : At_ v g nL h (n_I M kf 0 y) k n (pc + 3) lv st) : At_ v g nL h M k n pc lv (v_I y :: v_R (some 5) :: st) := fun H locs ls w hl => by
  show W_ v H locs k n (F0 _ pc ls (.int y :: .ref (g.2.2 + 5) :: st.map (to_V g.2.2)))
  have hts := X.2.2.2.2.1
  have hK := X.2.2.2.2.2.1
  have hcl : cls_[4]? = some (RX4, TX4, 42) := rfl
  have hz : 5 < h_z h := by have := hm.1; omega
  have hap := va_apart (own := own) hts iX4 tyX4 tyX4_ok nmX4 hK hcl
  obtain ⟨r, h1, cell, q1, q2, q3, q4⟩ := w.2.1 5 _ (ws_get hz (cell_mo hm))
  have hr : r = (RX4, TX4, 42) := Option.some.inj (h1.symm.trans hcl)
  subst hr
  obtain ⟨hS, hfc, kC, hkC, hkind⟩ := hK.1 4 _ hcl
  obtain ⟨cf, kf', fi, f, hi, hsl⟩ := hS kf hk
  have hlay := hts _ (iX4 _ (u_in_lay hk))
  unfold u_lay at hlay
  rw [if_neg (by rw [hfin]; decide)] at hlay
  have hst := (u_facts hfc hkC (u_lays hts iX4 hk) hi).1
  have h6 := u_store hfc hkC hkind hlay hi (tyX4_ok kf hk) hna hft
  refine W.putK X.1 X.2.1 (f := f) ⟨X.2.2.2.1, hts _ hlk, ⟨_, _, _, hi⟩, hst⟩ (by rw [q2]; exact h6) q1 q3 (by rw [hsl]; exact k2_hasslot (q4 kf hk)) rfl rfl hd fun H1 e1 e2 e3 => ?_
  rw [hsl] at e1 ⊢
  refine kk H1 _ ls (wd_set w hz ?_ e2 e3 rfl rfl (fun c hc => cell_nI hk (by rw [if_neg (by omega)]; exact hc))) hl
  rw [cell_mo hm]
  have e9 : ((List.range 42).map (m_val g.2.2 M)).set kf (.int y) = (List.range 42).map (m_val g.2.2 (n_I M kf 0 y)) := by
    refine map_set hk ?_ fun j _ hj => ?_
    · simp [m_val, ht, n_I, m_I, va_up]
    · simp [m_val, n_I, m_I, va_up, hj]
  rw [← e9]
  exact ⟨_, hcl, t_OB.to (V := updV (vp_V ((List.range 42).map (m_val g.2.2 M))) kf (.int y)) ⟨_, e1, q2, q3, t_set q4 hap hk _⟩ (fun j _ => vp_updV_set (by simp [hk]) _ j)⟩
end RW4
