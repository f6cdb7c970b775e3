/-! rows that read and write cells -/
theorem fs_get {b : Nat} {h : Hpx} {ci a kf : Nat} (hf : kf < f_N ci) : (f_fs b h ci a)[kf]? = some (f_val b h ci a kf) := by simp [f_fs, hf]
theorem fs_len {b : Nat} {h : Hpx} {ci a : Nat} : (f_fs b h ci a).length = f_N ci := by simp [f_fs]
section RW2
variable {v : Evx} {g : Gvx} {cc : ByteArray} {nL : Nat} {own nm : String} {rt : Option FieldType} {rm : Room} {h h' : Hpx} {M M' : Msx} {k n pc : Nat} {lv lv' : List (Nat × Vlx)} {st : List Vlx} {H H' : Heap} {locs : List Loc}
theorem wd_set (w : Wd_ v g h M H locs) {a sl : Nat} (ha : a < h_z h) (hat : va_at g.1 cls_ (g.2.2 + a, cell_ g.2.2 g.2.1 h' M' a) H') (z : H'.size = H.size) (oq : ∀ q, q ≠ g.2.2 + a → H'[q]? = H[q]?) (hz : h_z h' = h_z h) (hk : h_k h' = h_k h) (ho : ∀ c, c ≠ a → cell_ g.2.2 g.2.1 h' M' c = cell_ g.2.2 g.2.1 h M c) : Wd_ v g h' M' H' (locs ++ [⟨g.2.2 + a, sl⟩]) := by
  obtain ⟨w1, w2, w3, w4⟩ := w
  refine ⟨by rw [z, hz]; exact w1, ?_, w3.put z oq (Nat.le_add_right _ _), fun c hc => by rw [hk]; exact w4 c (by rw [← hz]; exact hc)⟩
  rw [← ws_set ha hz rfl ho]
  exact w2.set ws_D (ws_get ha rfl) hat oq
theorem a_getG (X : Cx_ v g cc nL own nm rt rm) {x : Option Nat} {a ci kf ix : Nat} {y : Vlx} (hx : x = some a) (hk : h_k h a = ci + 1) (hc : ci < 5) (hf : kf < f_N ci) (hy : f_val g.2.2 h ci a kf = to_V g.2.2 y) (hlk : Cond.fieldLink own ix (f_T ci kf).1 (f_T ci kf).2.1 (f_T ci kf).2.2.1 ∈ lw_g) (hd : decode cc pc = .ok (.getfield ix, 3)) (kk : At_ v g nL h M k n (pc + 3) lv (y :: st)) : At_ v g nL h M k n pc lv (v_R x :: st) := fun H locs ls w hl => by
  subst hx
  show W_ v H locs k n (F0 _ pc ls (.ref (g.2.2 + a) :: st.map (to_V g.2.2)))
  exact va_get (D := g.1) X.1 X.2.1 X.2.2.2.2.1 (cls_in ci hc) X.2.2.2.1 X.2.2.2.2.2.1 w.2.1 a (ws_get (in_z w hk) (cell_obj hk hc)) (cls_at ci hc) kf hf (X.2.2.2.2.1 _ hlk) (fun _ h9 => h9) (v := to_V g.2.2 y) (by rw [fs_get hf, hy]) hd (kk H locs ls w hl)
theorem a_getI (X : Cx_ v g cc nL own nm rt rm) {x : Option Nat} {a : Nat} (ci kf : Nat) {ix : Nat} (hx : x = some a) (hk : h_k h a = ci + 1) (hc : ci < 5 ∧ kf < f_N ci) (ht : f_ty ci kf = 0) (hlk : Cond.fieldLink own ix (f_T ci kf).1 (f_T ci kf).2.1 (f_T ci kf).2.2.1 ∈ lw_g) (hd : decode cc pc = .ok (.getfield ix, 3)) (kk : At_ v g nL h M k n (pc + 3) lv (v_I (h_I h a kf) :: st)) : At_ v g nL h M k n pc lv (v_R x :: st) :=
  a_getG X hx hk hc.1 hc.2 (by simp [f_val, ht, to_V]) hlk hd kk
theorem a_getJ (X : Cx_ v g cc nL own nm rt rm) {x : Option Nat} {a : Nat} (ci kf : Nat) {ix : Nat} (hx : x = some a) (hk : h_k h a = ci + 1) (hc : ci < 5 ∧ kf < f_N ci) (ht : f_ty ci kf = 1) (hlk : Cond.fieldLink own ix (f_T ci kf).1 (f_T ci kf).2.1 (f_T ci kf).2.2.1 ∈ lw_g) (hd : decode cc pc = .ok (.getfield ix, 3)) (kk : At_ v g nL h M k n (pc + 3) lv (v_J (h_J h a kf) :: st)) : At_ v g nL h M k n pc lv (v_R x :: st) :=
  a_getG X hx hk hc.1 hc.2 (by simp [f_val, ht, to_V]) hlk hd kk
theorem a_getR (X : Cx_ v g cc nL own nm rt rm) {x : Option Nat} {a : Nat} (ci kf : Nat) {ix : Nat} (hx : x = some a) (hk : h_k h a = ci + 1) (hc : ci < 5 ∧ kf < f_N ci) (ht : f_ty ci kf = 2) (hlk : Cond.fieldLink own ix (f_T ci kf).1 (f_T ci kf).2.1 (f_T ci kf).2.2.1 ∈ lw_g) (hd : decode cc pc = .ok (.getfield ix, 3)) (kk : At_ v g nL h M k n (pc + 3) lv (v_R (h_R h a kf) :: st)) : At_ v g nL h M k n pc lv (v_R x :: st) :=
  a_getG X hx hk hc.1 hc.2 (by simp [f_val, ht, to_V]) hlk hd kk
theorem a_putG (X : Cx_ v g cc nL own nm rt rm) {x : Option Nat} {a ci kf ix : Nat} {y : Vlx} (fin : Bool) (hx : x = some a) (hk : h_k h a = ci + 1) (hc : ci < 5) (hf : kf < f_N ci) (hfin : (f_T ci kf).2.2.2 = fin) (hini : fin = true → nm = "<init>" ∧ (f_T ci kf).1 = own) (hna : narrow (f_t ci kf) (to_V g.2.2 y) = to_V g.2.2 y) (hft : fits (f_t ci kf) (to_V g.2.2 y) = true) (hlk : Cond.fieldLink own ix (f_T ci kf).1 (f_T ci kf).2.1 (f_T ci kf).2.2.1 ∈ lw_g) (hd : decode cc pc = .ok (.putfield ix, 3))
    (hz : h_z h' = h_z h) (hk' : h_k h' = h_k h) (hset : (f_fs g.2.2 h ci a).set kf (to_V g.2.2 y) = f_fs g.2.2 h' ci a) (ho : ∀ c, c ≠ a → cell_ g.2.2 g.2.1 h' M c = cell_ g.2.2 g.2.1 h M c) (kk : At_ v g nL h' M k n (pc + 3) lv st) : At_ v g nL h M k n pc lv (y :: v_R x :: st) := fun H locs ls w hl => by
  subst hx
  show W_ v H locs k n (F0 _ pc ls (to_V g.2.2 y :: .ref (g.2.2 + a) :: st.map (to_V g.2.2)))
  have hin := cls_in ci hc
  have hts := X.2.2.2.2.1
  have hK := X.2.2.2.2.2.1
  have hcl := cls_at ci hc
  have hap := va_apart (own := own) hts hin (f_t ci) (cls_ty ci hc) (cls_nm ci hc) hK hcl
  obtain ⟨r, h1, cell, q1, q2, q3, q4⟩ := w.2.1 a _ (ws_get (in_z w hk) (cell_obj hk hc))
  have hr : r = (f_C ci, f_T ci, f_N ci) := Option.some.inj (h1.symm.trans hcl)
  subst hr
  obtain ⟨hS, hfc, kC, hkC, hkind⟩ := hK.1 ci _ hcl
  obtain ⟨cf, kf', fi, f, hi, hsl⟩ := hS kf hf
  have hlay := hts _ (hin _ (u_in_lay hf))
  unfold u_lay at hlay
  have hst := (u_facts hfc hkC (u_lays hts hin hf) hi).1
  have key : ∀ (H1 : Heap), H1[g.2.2 + a]? = some (cell.setSlot (g.1.2 ci kf) (to_V g.2.2 y)) → H1.size = H.size → (∀ q, q ≠ g.2.2 + a → H1[q]? = H[q]?) → W_ v H1 (locs ++ [⟨g.2.2 + a, g.1.2 ci kf⟩]) k n (F0 (e_m v) (pc + 3) ls (st.map (to_V g.2.2))) := by
    intro H1 e1 e2 e3
    refine kk H1 _ ls (wd_set w (in_z w hk) ?_ e2 e3 hz hk' ho) hl
    rw [cell_obj (by rw [hk']; exact hk) hc, ← hset]
    exact ⟨_, hcl, t_OB.to (V := updV (vp_V (f_fs g.2.2 h ci a)) kf (to_V g.2.2 y)) ⟨_, e1, q2, q3, t_set q4 hap hf _⟩ (fun j _ => vp_updV_set (by rw [fs_len]; exact hf) _ j)⟩
  cases fin with
  | false =>
    rw [if_neg (by rw [hfin]; decide)] at hlay
    have h6 := u_store hfc hkC hkind hlay hi (cls_ty ci hc kf hf) hna hft
    refine W.putK X.1 X.2.1 (f := f) ⟨X.2.2.2.1, hts _ hlk, ⟨_, _, _, hi⟩, hst⟩ (by rw [q2]; exact h6) q1 q3 (by rw [hsl]; exact k2_hasslot (q4 kf hf)) rfl rfl hd fun H1 e1 e2 e3 => ?_
    rw [hsl] at e1 ⊢
    exact key H1 e1 e2 e3
  | true =>
    rw [if_pos hfin] at hlay
    have hcf : (e_m v).cls = cf := by
      obtain ⟨_, _, c', _, _, _, -, -, hf', -, -, -, hown2, -⟩ := Cond.laysFinal_spec hlay
      have e1 : c' = cf := by have := hi.symm.trans hf'; simp at this; exact this.1.symm
      rw [(hini rfl).2] at hown2
      rw [← e1]; exact Option.some.inj (X.2.2.2.1.symm.trans hown2)
    have h6 := u_fits hfc hkC hkind (Or.inr hlay) hi (cls_ty ci hc kf hf) hna hft
    refine W.putFinK X.1 X.2.1 X.2.2.2.1 (hts _ hlk) hi hst hcf (X.2.2.2.2.2.2.2.2.2.2.1.trans (hini rfl).1) (by rw [q2]; exact h6) q1 q3 (by rw [hsl]; exact k2_hasslot (q4 kf hf)) rfl rfl hd fun H1 e1 e2 e3 => ?_
    rw [hsl] at e1 ⊢
    exact key H1 e1 e2 e3
theorem fs_setI {b : Nat} {ci a kf : Nat} {x : Int32} (hf : kf < f_N ci) (ht : f_ty ci kf = 0) : (f_fs b h ci a).set kf (.int x) = f_fs b (s_I h a kf x) ci a := by
  refine map_set hf ?_ fun j _ hj => ?_
  · simp [f_val, ht, s_I, h_I, va_up]
  · simp [f_val, s_I, h_I, h_J, h_R, va_up, hj]
theorem fs_setJ {b : Nat} {ci a kf : Nat} {x : Int64} (hf : kf < f_N ci) (ht : f_ty ci kf = 1) : (f_fs b h ci a).set kf (.long x) = f_fs b (s_J h a kf x) ci a := by
  refine map_set hf ?_ fun j _ hj => ?_
  · simp [f_val, ht, s_J, h_J, va_up]
  · simp [f_val, s_J, h_I, h_J, h_R, va_up, hj]
theorem fs_setR {b : Nat} {ci a kf : Nat} {x : Option Nat} (hf : kf < f_N ci) (ht : f_ty ci kf = 2) : (f_fs b h ci a).set kf (va_rf (x.map (b + ·))) = f_fs b (s_R h a kf x) ci a := by
  refine map_set hf ?_ fun j _ hj => ?_
  · simp [f_val, ht, s_R, h_R, va_up]
  · simp [f_val, s_R, h_I, h_J, h_R, va_up, hj]
theorem a_putI (X : Cx_ v g cc nL own nm rt rm) {x : Option Nat} {a : Nat} (ci kf : Nat) {ix : Nat} {y : Int32} (fin : Bool) (hx : x = some a) (hk : h_k h a = ci + 1) (hc : ci < 5 ∧ kf < f_N ci) (ht : f_ty ci kf = 0) (hfin : (f_T ci kf).2.2.2 = fin) (hini : fin = true → nm = "<init>" ∧ (f_T ci kf).1 = own) (hna : narrow (f_t ci kf) (.int y) = .int y) (hft : fits (f_t ci kf) (.int y) = true) (hlk : Cond.fieldLink own ix (f_T ci kf).1 (f_T ci kf).2.1 (f_T ci kf).2.2.1 ∈ lw_g) (hd : decode cc pc = .ok (.putfield ix, 3)) (kk : At_ v g nL (s_I h a kf y) M k n (pc + 3) lv st) : At_ v g nL h M k n pc lv (v_I y :: v_R x :: st) :=
  a_putG (h' := s_I h a kf y) (y := v_I y) X fin hx hk hc.1 hc.2 hfin hini hna hft hlk hd rfl rfl (fs_setI hc.2 ht) (fun c hc => cell_same rfl rfl (s_I_o hc) rfl rfl) kk
theorem a_putJ (X : Cx_ v g cc nL own nm rt rm) {x : Option Nat} {a : Nat} (ci kf : Nat) {ix : Nat} {y : Int64} (fin : Bool) (hx : x = some a) (hk : h_k h a = ci + 1) (hc : ci < 5 ∧ kf < f_N ci) (ht : f_ty ci kf = 1) (hfin : (f_T ci kf).2.2.2 = fin) (hini : fin = true → nm = "<init>" ∧ (f_T ci kf).1 = own) (hna : narrow (f_t ci kf) (.long y) = .long y) (hft : fits (f_t ci kf) (.long y) = true) (hlk : Cond.fieldLink own ix (f_T ci kf).1 (f_T ci kf).2.1 (f_T ci kf).2.2.1 ∈ lw_g) (hd : decode cc pc = .ok (.putfield ix, 3)) (kk : At_ v g nL (s_J h a kf y) M k n (pc + 3) lv st) : At_ v g nL h M k n pc lv (v_J y :: v_R x :: st) :=
  a_putG (h' := s_J h a kf y) (y := v_J y) X fin hx hk hc.1 hc.2 hfin hini hna hft hlk hd rfl rfl (fs_setJ hc.2 ht) (fun c hc => cell_same rfl rfl rfl (s_J_o hc) rfl) kk
theorem nar_rf {ty : FieldType} (hty : ty.isReference = true) (r : Option Nat) : narrow ty (va_rf r) = va_rf r ∧ fits ty (va_rf r) = true := by
  cases ty with
  | object C => cases r <;> exact ⟨rfl, rfl⟩
  | array C => cases r <;> exact ⟨rfl, rfl⟩
  | _ => cases hty
theorem a_putR (X : Cx_ v g cc nL own nm rt rm) {x : Option Nat} {a : Nat} (ci kf : Nat) {ix : Nat} {y : Option Nat} (fin : Bool) (hx : x = some a) (hk : h_k h a = ci + 1) (hc : ci < 5 ∧ kf < f_N ci) (ht : f_ty ci kf = 2) (hfin : (f_T ci kf).2.2.2 = fin) (hini : fin = true → nm = "<init>" ∧ (f_T ci kf).1 = own) (hre : (f_t ci kf).isReference = true) (hlk : Cond.fieldLink own ix (f_T ci kf).1 (f_T ci kf).2.1 (f_T ci kf).2.2.1 ∈ lw_g) (hd : decode cc pc = .ok (.putfield ix, 3)) (kk : At_ v g nL (s_R h a kf y) M k n (pc + 3) lv st) : At_ v g nL h M k n pc lv (v_R y :: v_R x :: st) :=
  a_putG (h' := s_R h a kf y) (y := v_R y) X fin hx hk hc.1 hc.2 hfin hini (nar_rf hre _).1 (nar_rf hre _).2 hlk hd rfl rfl (fs_setR hc.2 ht) (fun c hc => cell_same rfl rfl rfl rfl (s_R_o hc)) kk
/-! arrays of the class -/
theorem a_iald (X : Cx_ v g cc nL own nm rt rm) {x : Option Nat} {a : Nat} {i : Int32} (hx : x = some a) (hk : h_k h a = 6) (hi : in_b i (h_n h a) = true) (hd : decode cc pc = .ok (.iaload, 1)) (kk : At_ v g nL h M k n (pc + 1) lv (v_I (h_I h a i.toNatClampNeg) :: st)) : At_ v g nL h M k n pc lv (v_I i :: v_R x :: st) := fun H locs ls w hl => by
  subst hx
  show W_ v H locs k n (F0 _ pc ls (.int i :: .ref (g.2.2 + a) :: st.map (to_V g.2.2)))
  exact va_iald X.1 X.2.1 X.2.2.2.2.2.1 w.2.1 a 0 (ws_get (in_z w hk) (cell_I hk)) rfl (in_b_in hi) hd (kk H locs ls w hl)
theorem a_lald (X : Cx_ v g cc nL own nm rt rm) {x : Option Nat} {a : Nat} {i : Int32} (hx : x = some a) (hk : h_k h a = 7) (hi : in_b i (h_n h a) = true) (hd : decode cc pc = .ok (.laload, 1)) (kk : At_ v g nL h M k n (pc + 1) lv (v_J (h_J h a i.toNatClampNeg) :: st)) : At_ v g nL h M k n pc lv (v_I i :: v_R x :: st) := fun H locs ls w hl => by
  subst hx
  show W_ v H locs k n (F0 _ pc ls (.int i :: .ref (g.2.2 + a) :: st.map (to_V g.2.2)))
  exact va_lald X.1 X.2.1 X.2.2.2.2.2.1 w.2.1 a 1 (ws_get (in_z w hk) (cell_J hk)) rfl (in_b_in hi) hd (kk H locs ls w hl)
theorem a_aald (X : Cx_ v g cc nL own nm rt rm) {x : Option Nat} {a : Nat} (t : Nat) {C : String} {i : Int32} (hx : x = some a) (hk : h_k h a = t + 6) (ht : 3 ≤ t) (hC : (tys_ g.2.1)[t]? = some (g.2.1 t, .object C)) (hi : in_b i (h_n h a) = true) (hd : decode cc pc = .ok (.aaload, 1)) (kk : At_ v g nL h M k n (pc + 1) lv (v_R (h_R h a i.toNatClampNeg) :: st)) : At_ v g nL h M k n pc lv (v_I i :: v_R x :: st) := fun H locs ls w hl => by
  subst hx
  show W_ v H locs k n (F0 _ pc ls (.int i :: .ref (g.2.2 + a) :: st.map (to_V g.2.2)))
  exact va_aldq X.1 X.2.1 X.2.2.2.2.2.1 w.2.1 a t (ws_get (in_z w (c := t + 5) hk) (cell_R hk ht)) hC (in_b_in hi) hd (kk H locs ls w hl)
theorem a_alen (X : Cx_ v g cc nL own nm rt rm) {x : Option Nat} {a : Nat} (t : Nat) {C : String} (hx : x = some a) (hk : h_k h a = t + 6) (ht : 3 ≤ t) (hC : (tys_ g.2.1)[t]? = some (g.2.1 t, .object C)) (hd : decode cc pc = .ok (.arraylength, 1)) (kk : At_ v g nL h M k n (pc + 1) lv (v_I (nI (h_n h a)) :: st)) : At_ v g nL h M k n pc lv (v_R x :: st) := fun H locs ls w hl => by
  subst hx
  show W_ v H locs k n (F0 _ pc ls (.ref (g.2.2 + a) :: st.map (to_V g.2.2)))
  exact va_alen X.1 X.2.1 X.2.2.2.2.2.1 w.2.1 a t (ws_get (in_z w (c := t + 5) hk) (cell_R hk ht)) hC rfl hd (kk H locs ls w hl)
theorem a_alenI (X : Cx_ v g cc nL own nm rt rm) {x : Option Nat} {a : Nat} (hx : x = some a) (hk : h_k h a = 6) (hd : decode cc pc = .ok (.arraylength, 1)) (kk : At_ v g nL h M k n (pc + 1) lv (v_I (nI (h_n h a)) :: st)) : At_ v g nL h M k n pc lv (v_R x :: st) := fun H locs ls w hl => by
  subst hx
  show W_ v H locs k n (F0 _ pc ls (.ref (g.2.2 + a) :: st.map (to_V g.2.2)))
  exact va_alen X.1 X.2.1 X.2.2.2.2.2.1 w.2.1 a 0 (ws_get (in_z w hk) (cell_I hk)) rfl rfl hd (kk H locs ls w hl)
theorem a_alenJ (X : Cx_ v g cc nL own nm rt rm) {x : Option Nat} {a : Nat} (hx : x = some a) (hk : h_k h a = 7) (hd : decode cc pc = .ok (.arraylength, 1)) (kk : At_ v g nL h M k n (pc + 1) lv (v_I (nI (h_n h a)) :: st)) : At_ v g nL h M k n pc lv (v_R x :: st) := fun H locs ls w hl => by
  subst hx
  show W_ v H locs k n (F0 _ pc ls (.ref (g.2.2 + a) :: st.map (to_V g.2.2)))
  exact va_alen X.1 X.2.1 X.2.2.2.2.2.1 w.2.1 a 1 (ws_get (in_z w hk) (cell_J hk)) rfl rfl hd (kk H locs ls w hl)
theorem vup_i {f : Nat → Int32} {i : Nat} {x : Int32} : updV (fun j => Value.int (f j)) i (.int x) = fun j => .int (va_up f i x j) := by
  funext q
  by_cases hq : q = i
  · subst hq
    simp [updV, va_up]
  · simp [updV, va_up, hq]
theorem vup_l {f : Nat → Int64} {i : Nat} {x : Int64} : updV (fun j => Value.long (f j)) i (.long x) = fun j => .long (va_up f i x j) := by
  funext q
  by_cases hq : q = i
  · subst hq
    simp [updV, va_up]
  · simp [updV, va_up, hq]
theorem vup_r {b : Nat} {f : Nat → Option Nat} {i : Nat} {x : Option Nat} : updV (fun j => va_rf ((f j).map (b + ·))) i (va_rf (x.map (b + ·))) = fun j => va_rf ((va_up f i x j).map (b + ·)) := by
  funext q
  by_cases hq : q = i
  · subst hq
    simp [updV, va_up]
  · simp [updV, va_up, hq]
theorem a_iast (X : Cx_ v g cc nL own nm rt rm) {x : Option Nat} {a : Nat} {i y : Int32} (hx : x = some a) (hk : h_k h a = 6) (hi : in_b i (h_n h a) = true) (hd : decode cc pc = .ok (.iastore, 1)) (kk : At_ v g nL (s_I h a i.toNatClampNeg y) M k n (pc + 1) lv st) : At_ v g nL h M k n pc lv (v_I y :: v_I i :: v_R x :: st) := fun H locs ls w hl => by
  subst hx
  show W_ v H locs k n (F0 _ pc ls (.int y :: .int i :: .ref (g.2.2 + a) :: st.map (to_V g.2.2)))
  have hc : H[g.2.2 + a]? = some (vp_cell (g.2.1 0) (h_n h a, .inl (h_I h a))) := w.2.1 a _ (ws_get (in_z w hk) (cell_I hk))
  refine W.iast X.1 X.2.1 hc ((X.2.2.2.2.2.1.2 0 _ rfl).1 (h_n h a) (fun j => .int (h_I h a j))) (fun q => by cases q) (by show ¬ (i < 0 ∨ (arrV _ _ _).slots.size ≤ _); rw [arrV_size]; exact in_b_in hi) rfl rfl hd fun H1 e z oq => ?_
  refine kk H1 _ ls (wd_set w (in_z w hk) ?_ z oq rfl rfl (fun c hc => cell_same rfl rfl (s_I_o hc) rfl rfl)) hl
  rw [cell_I (h := s_I h a i.toNatClampNeg y) hk]
  show H1[g.2.2 + a]? = some (vp_cell _ _)
  rw [e, vp_cell_i, vp_cell_i, arrV_store, vup_i]
  simp [s_I, h_I, h_n, va_up]
theorem a_last (X : Cx_ v g cc nL own nm rt rm) {x : Option Nat} {a : Nat} {i : Int32} {y : Int64} (hx : x = some a) (hk : h_k h a = 7) (hi : in_b i (h_n h a) = true) (hd : decode cc pc = .ok (.lastore, 1)) (kk : At_ v g nL (s_J h a i.toNatClampNeg y) M k n (pc + 1) lv st) : At_ v g nL h M k n pc lv (v_J y :: v_I i :: v_R x :: st) := fun H locs ls w hl => by
  subst hx
  show W_ v H locs k n (F0 _ pc ls (.long y :: .int i :: .ref (g.2.2 + a) :: st.map (to_V g.2.2)))
  have hc : H[g.2.2 + a]? = some (vp_cell (g.2.1 1) (h_n h a, .inr (.inl (h_J h a)))) := w.2.1 a _ (ws_get (in_z w hk) (cell_J hk))
  refine W.last X.1 X.2.1 hc ((X.2.2.2.2.2.1.2 1 _ rfl).1 (h_n h a) (fun j => .long (h_J h a j))) (fun q => by cases q) (by show ¬ (i < 0 ∨ (arrV _ _ _).slots.size ≤ _); rw [arrV_size]; exact in_b_in hi) rfl rfl hd fun H1 e z oq => ?_
  refine kk H1 _ ls (wd_set w (in_z w hk) ?_ z oq rfl rfl (fun c hc => cell_same rfl rfl rfl (s_J_o hc) rfl)) hl
  rw [cell_J (h := s_J h a i.toNatClampNeg y) hk]
  show H1[g.2.2 + a]? = some (vp_cell _ _)
  rw [e, vp_cell_l, vp_cell_l, arrV_store, vup_l]
  simp [s_J, h_J, h_n, va_up]
theorem a_aast (X : Cx_ v g cc nL own nm rt rm) {x y : Option Nat} {a c : Nat} (t ci : Nat) {i : Int32} (hx : x = some a) (hy : y = some c) (hk : h_k h a = t + 6) (ht : 3 ≤ t) (hkc : h_k h c = ci + 1) (hci : ci < 5) (hC : (tys_ g.2.1)[t]? = some (g.2.1 t, .object (f_C ci))) (hi : in_b i (h_n h a) = true) (hd : decode cc pc = .ok (.aastore, 1)) (kk : At_ v g nL (s_R h a i.toNatClampNeg y) M k n (pc + 1) lv st) : At_ v g nL h M k n pc lv (v_R y :: v_I i :: v_R x :: st) := fun H locs ls w hl => by
  subst hx
  subst hy
  show W_ v H locs k n (F0 _ pc ls (.ref (g.2.2 + c) :: .int i :: .ref (g.2.2 + a) :: st.map (to_V g.2.2)))
  have hc : H[g.2.2 + a]? = some (vp_cell (g.2.1 t) (h_n h a, .inr (.inr (.inr (.inr (fun i => (h_R h a i).map (g.2.2 + ·))))))) := w.2.1 a _ (ws_get (in_z w (c := t + 5) hk) (cell_R hk ht))
  obtain ⟨r', hr', cellV, g1, g2, g3, -⟩ := w.2.1 c _ (ws_get (in_z w hkc) (cell_obj hkc hci))
  have hK := X.2.2.2.2.2.1
  have hcls := (hK.1 ci _ (cls_at ci hci)).2
  obtain ⟨kA, comp, k1, k2, k3, -⟩ := (hK.2 t _ hC).2
  have hcomp : comp = g.1.1 ci := Option.some.inj (k3.symm.trans hcls.1)
  subst hcomp
  obtain ⟨kC, hkC, -⟩ := hcls.2
  have hb := in_b_in hi
  have hlt : i.toNatClampNeg < h_n h a := Nat.not_le.mp fun q => hb (Or.inr q)
  refine W.aast X.1 X.2.1 hc (fun q h => by cases h) (fun h => by cases h) k1 k2 rfl hkC ⟨fun q => hb (Or.inl q), by show _ < (arrV _ _ _).slots.size; rw [arrV_size]; exact hlt⟩ g1 (fun q h => by rw [g3] at h; cases h) (by rw [g2]; exact hkC) (by rw [g2]; exact va_assign hcls) rfl rfl hd fun H1 e z oq => ?_
  refine kk H1 _ ls (wd_set w (in_z w (c := t + 5) hk) ?_ z oq rfl rfl (fun c hc => cell_same rfl rfl rfl rfl (s_R_o hc))) hl
  rw [cell_R (h := s_R h a i.toNatClampNeg (some c)) (t := t) hk ht]
  show H1[g.2.2 + a]? = some (vp_cell _ _)
  rw [e, vp_cell_q, vp_cell_q, arrV_store]
  have := vup_r (b := g.2.2) (f := h_R h a) (i := i.toNatClampNeg) (x := some c)
  simp only [Option.map_some, va_rf] at this
  rw [show (updV (fun j => va_rf (Option.map (fun x => g.2.2 + x) (h_R h a j))) i.toNatClampNeg (Value.ref (g.2.2 + c))) = _ from this]
  simp [s_R, h_R, h_n, va_up, va_rf]
end RW2
