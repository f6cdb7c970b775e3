abbrev Evx : Type := Program × Launch × Env × Room × State × MethodId × Array Value × List Frame × Method × Code × (State → Prop)
abbrev Gvx : Type := va_G × (Nat → ClassId) × Nat
abbrev e_p (v : Evx) : Program := v.1
abbrev e_l (v : Evx) : Launch := v.2.1
abbrev e_e (v : Evx) : Env := v.2.2.1
abbrev e_R (v : Evx) : Room := v.2.2.2.1
abbrev e_s (v : Evx) : State := v.2.2.2.2.1
abbrev e_m (v : Evx) : MethodId := v.2.2.2.2.2.1
abbrev e_a (v : Evx) : Array Value := v.2.2.2.2.2.2.1
abbrev e_b (v : Evx) : List Frame := v.2.2.2.2.2.2.2.1
abbrev e_M (v : Evx) : Method := v.2.2.2.2.2.2.2.2.1
abbrev e_c (v : Evx) : Code := v.2.2.2.2.2.2.2.2.2.1
abbrev e_Q (v : Evx) : State → Prop := v.2.2.2.2.2.2.2.2.2.2
abbrev W_ (v : Evx) (H : Heap) (locs : List Loc) (k n : Nat) (g : JFrame) : Prop := W (e_p v) (e_l v) (e_e v) (e_R v) (e_s v) (e_m v) (e_a v) (e_b v) (e_M v) (e_c v) H locs k n (e_Q v) g
def tys_ (ac : Nat → ClassId) : List (ClassId × FieldType) := [(ac 0, .int), (ac 1, .long), (ac 2, .boolean), (ac 3, .object RX0), (ac 4, .object RX2), (ac 5, .object RX1)]
/-- what holds all over a method's body -/
def Cx_ (v : Evx) (g : Gvx) (cc : ByteArray) (nL : Nat) (own nm : String) (rt : Option FieldType) (rm : Room) : Prop :=
  (e_p v).tables.exec = Jvm.exec ∧ (e_c v).code = cc ∧ (e_c v).maxLocals = nL ∧ (e_s v).vm.findClass own = some (e_m v).cls ∧ (∀ w ∈ lw_g, w.before (e_a v) (e_s v) = true) ∧ va_K g.1 cls_ (tys_ g.2.1) (e_s v) ∧ g.2.2 ≤ (e_s v).heap.size ∧ e_R v = rm ∧ (e_M v).sig.returnType = rt ∧ (e_M v).locks = false ∧ (e_M v).name = nm ∧ va_AO RX0 (e_s v) ∧ va_AO RX1 (e_s v) ∧ va_AO RX2 (e_s v)
def Wd_ (v : Evx) (g : Gvx) (h : Hpx) (M : Msx) (H : Heap) (locs : List Loc) : Prop :=
  H.size = g.2.2 + h_z h ∧ va_P g.1 cls_ (ws_ g.2.2 g.2.1 h M) H ∧ va_S (fun q => g.2.2 ≤ q) (e_s v).heap H locs ∧ ∀ a, h_z h ≤ a → h_k h a = 0
def lv_m (b : Nat) (lv : List (Nat × Vlx)) : List (Nat × Value) := lv.map (fun q => (q.1, to_V b q.2))
def At_ (v : Evx) (g : Gvx) (nL : Nat) (h : Hpx) (M : Msx) (k n pc : Nat) (lv : List (Nat × Vlx)) (st : List Vlx) : Prop :=
  ∀ (H : Heap) (locs : List Loc) (ls : Array Slot), Wd_ v g h M H locs → lv_has ls nL (lv_m g.2.2 lv) → W_ v H locs k n (F0 (e_m v) pc ls (st.map (to_V g.2.2)))
/-! locals -/
def lv_g : List (Nat × Vlx) → Nat → Option Vlx
  | [], _ => none
  | q :: r, i => cond (Nat.beq q.1 i) (some q.2) (lv_g r i)
def lv_i (y : Nat × Vlx) : List (Nat × Vlx) → List (Nat × Vlx)
  | [] => [y]
  | q :: r => cond (Nat.blt y.1 q.1) (y :: q :: r) (q :: lv_i y r)
def lv_f (i : Nat) (lng : Bool) (q : Nat × Vlx) : Bool := !(q.1 == i) && (!(lng && q.1 == i + 1) && !(q.1 + 1 == i && is_L q.2))
def lv_p (i : Nat) (x : Vlx) (lv : List (Nat × Vlx)) : List (Nat × Vlx) := lv_i (i, x) (lv.filter (lv_f i (is_L x)))
theorem lv_i_mem {y q : Nat × Vlx} : ∀ {l : List (Nat × Vlx)}, q ∈ lv_i y l → q = y ∨ q ∈ l
  | [], h => Or.inl (List.mem_singleton.mp h)
  | a :: r, h => by
    unfold lv_i at h
    cases hb : Nat.blt y.1 a.1 with
    | true =>
      rw [hb] at h
      rcases List.mem_cons.mp h with h | h
      · exact Or.inl h
      · exact Or.inr h
    | false =>
      rw [hb] at h
      rcases List.mem_cons.mp h with h | h
      · exact Or.inr (List.mem_cons.mpr (Or.inl h))
      · rcases lv_i_mem h with h | h
        · exact Or.inl h
        · exact Or.inr (List.mem_cons.mpr (Or.inr h))
theorem lv_g_mem {i : Nat} {x : Vlx} : ∀ {lv : List (Nat × Vlx)}, lv_g lv i = some x → (i, x) ∈ lv
  | [], h => by cases h
  | (j, y) :: r, h => by
    unfold lv_g at h
    cases hb : Nat.beq j i with
    | true =>
      have e : j = i := Nat.eq_of_beq_eq_true hb
      rw [hb] at h
      have e2 : y = x := Option.some.inj h
      rw [e, e2]
      exact List.mem_cons_self
    | false =>
      rw [hb] at h
      exact List.mem_cons_of_mem _ (lv_g_mem h)
theorem lv_at_ {ls : Array Slot} {nL b i : Nat} {lv : List (Nat × Vlx)} {x : Vlx} (h : lv_has ls nL (lv_m b lv)) (hg : lv_g lv i = some x) : ls[i]? = some (.val (to_V b x)) :=
  h.2.2 (i, to_V b x) (List.mem_map.mpr ⟨(i, x), lv_g_mem hg, rfl⟩)
theorem lv_sub_ {ls : Array Slot} {nL : Nat} {l l' : List (Nat × Value)} (h : lv_has ls nL l) (hs : ∀ q ∈ l', q ∈ l) : lv_has ls nL l' := ⟨h.1, h.2.1, fun q hq => h.2.2 q (hs q hq)⟩
theorem lv_st_ {ls : Array Slot} {nL b i : Nat} {lv : List (Nat × Vlx)} {x : Vlx} {f : Nat × Value → Bool} (h : lv_has ls nL ((i, to_V b x) :: (lv_m b lv).filter f)) (hf : ∀ q : Nat × Vlx, lv_f i (is_L x) q = true → f (q.1, to_V b q.2) = true) : lv_has ls nL (lv_m b (lv_p i x lv)) := by
  refine lv_sub_ h fun q hq => ?_
  obtain ⟨z, hz, rfl⟩ := List.mem_map.mp hq
  rcases lv_i_mem hz with rfl | hz
  · exact List.mem_cons_self
  · obtain ⟨h1, h2⟩ := List.mem_filter.mp hz
    exact List.mem_cons_of_mem _ (List.mem_filter.mpr ⟨List.mem_map.mpr ⟨z, h1, rfl⟩, hf z h2⟩)
theorem lv_f1 {b i : Nat} {x : Vlx} (q : Nat × Vlx) (h : lv_f i (is_L x) q = true) : (!(q.1 == i) && !(q.1 + 1 == i && (to_V b q.2).category == 2)) = true := by
  simp only [lv_f, Bool.and_eq_true, Bool.not_eq_true', Bool.and_eq_false_iff] at h ⊢
  refine ⟨h.1, ?_⟩
  rcases h.2.2 with h | h
  · exact Or.inl h
  · right
    rw [to_V_cat, h]
    rfl
theorem lv_f2 {b i : Nat} {x : Vlx} (hx : is_L x = true) (q : Nat × Vlx) (h : lv_f i (is_L x) q = true) : (!(q.1 == i) && (!(q.1 == i + 1) && !(q.1 + 1 == i && (to_V b q.2).category == 2))) = true := by
  rw [hx] at h
  simp only [lv_f, Bool.and_eq_true, Bool.not_eq_true', Bool.and_eq_false_iff, Bool.true_and] at h ⊢
  refine ⟨h.1, h.2.1, ?_⟩
  rcases h.2.2 with h | h
  · exact Or.inl h
  · right
    rw [to_V_cat, h]
    rfl
def lv_s : List (Nat × Vlx) → Nat
  | [] => 0
  | q :: r => cond (is_L q.2) 2 1 + lv_s r
def st_w : List Vlx → Nat
  | [] => 0
  | q :: r => cond (is_L q) 2 1 + st_w r
theorem st_w_eq (b : Nat) : ∀ st : List Vlx, (((st.map (to_V b)).map fun v => v.category)).sum = st_w st
  | [] => rfl
  | x :: r => by
    simp only [List.map_cons, List.sum_cons, st_w]
    rw [st_w_eq b r, to_V_cat]
    cases is_L x <;> rfl
/-- the locals with which a method begins -/
def lv_a : Nat → List Vlx → List (Nat × Vlx)
  | _, [] => []
  | i, x :: r => (i, x) :: lv_a (cond (is_L x) (i + 2) (i + 1)) r
theorem lv_a_eq (b : Nat) : ∀ (As : List Vlx) (i : Nat), lv_args i (As.map (to_V b)) = lv_m b (lv_a i As)
  | [], _ => rfl
  | x :: r, i => by
    simp only [List.map_cons, lv_args, lv_a, lv_m]
    rw [to_V_cat]
    have := lv_a_eq b r (cond (is_L x) (i + 2) (i + 1))
    unfold lv_m at this
    rw [← this]
    cases is_L x <;> rfl
theorem lg_len (b : Nat) : ∀ As : List Vlx, (lg_sl (As.map (to_V b))).length = st_w As
  | [] => rfl
  | x :: r => by
    have := lg_len b r
    unfold lg_sl at this ⊢
    simp only [List.map_cons, List.flatMap_cons, List.length_append, st_w]
    rw [this, to_V_cat]
    cases is_L x <;> rfl
theorem in_z {v : Evx} {g : Gvx} {h : Hpx} {M : Msx} {H : Heap} {locs : List Loc} (w : Wd_ v g h M H locs) {a c : Nat} (hk : h_k h a = c + 1) : a < h_z h := by
  rcases Nat.lt_or_ge a (h_z h) with q | q
  · exact q
  · rw [w.2.2.2 a q] at hk
    cases hk
section RW1
variable {v : Evx} {g : Gvx} {cc : ByteArray} {nL : Nat} {own nm : String} {rt : Option FieldType} {rm : Room} {h : Hpx} {M : Msx} {k n pc : Nat} {lv lv' : List (Nat × Vlx)} {st : List Vlx} {ρ : Type} {res : ρ} {A B : Option ρ}
theorem a_sub (hs : lv'.all (fun q => lv.any (fun z => Nat.beq z.1 q.1) ) = true) (he : ∀ q ∈ lv', q ∈ lv) (kk : At_ v g nL h M k n pc lv' st) : At_ v g nL h M k n pc lv st := fun H locs ls w hl => kk H locs ls w (lv_sub_ hl (fun q hq => by
  obtain ⟨z, hz, rfl⟩ := List.mem_map.mp hq
  exact List.mem_map.mpr ⟨z, he z hz, rfl⟩))
def lv_k (l : List (Nat × Vlx)) (ks : List Nat) : List (Nat × Vlx) := ks.filterMap (fun k => l[k]?)
theorem a_pick (ks : List Nat) (hl : lv_k lv ks = lv') (kk : At_ v g nL h M k n pc lv' st) : At_ v g nL h M k n pc lv st := fun H locs ls w hl0 => kk H locs ls w (lv_sub_ hl0 (fun q hq => by
  subst hl
  obtain ⟨z, hz, rfl⟩ := List.mem_map.mp hq
  obtain ⟨i, -, hi⟩ := List.mem_filterMap.mp hz
  exact List.mem_map.mpr ⟨z, List.mem_of_getElem? hi, rfl⟩))
theorem a_iconst (X : Cx_ v g cc nL own nm rt rm) {z : Int} {x : Int32} (hd : decode cc pc = .ok (.iconst z, 1)) (hv : Int32.ofInt z = x) (kk : At_ v g nL h M k n (pc + 1) lv (v_I x :: st)) : At_ v g nL h M k n pc lv st := fun H locs ls w hl => lv_iconst X.1 X.2.1 hd hv (kk H locs ls w hl)
theorem a_bipush (X : Cx_ v g cc nL own nm rt rm) {z : Int} {x : Int32} (hd : decode cc pc = .ok (.bipush z, 2)) (hv : (Int8.ofInt z).toInt32 = x) (kk : At_ v g nL h M k n (pc + 2) lv (v_I x :: st)) : At_ v g nL h M k n pc lv st := fun H locs ls w hl => lv_bipush X.1 X.2.1 hd hv (kk H locs ls w hl)
theorem a_sipush (X : Cx_ v g cc nL own nm rt rm) {z : Int} {x : Int32} (hd : decode cc pc = .ok (.sipush z, 3)) (hv : (Int16.ofInt z).toInt32 = x) (kk : At_ v g nL h M k n (pc + 3) lv (v_I x :: st)) : At_ v g nL h M k n pc lv st := fun H locs ls w hl => lv_sipush X.1 X.2.1 hd hv (kk H locs ls w hl)
theorem a_lconst (X : Cx_ v g cc nL own nm rt rm) {z : Fin 2} {x : Int64} (hd : decode cc pc = .ok (.lconst z, 1)) (hv : Int64.ofNat (z : Nat) = x) (kk : At_ v g nL h M k n (pc + 1) lv (v_J x :: st)) : At_ v g nL h M k n pc lv st := fun H locs ls w hl => lv_lconst X.1 X.2.1 hd hv (kk H locs ls w hl)
theorem a_ldcw (X : Cx_ v g cc nL own nm rt rm) {ix : Nat} {x : Int32} (hc : Cond.constant own ix x ∈ lw_g) (hd : decode cc pc = .ok (.ldc_w ix, 3)) (kk : At_ v g nL h M k n (pc + 3) lv (v_I x :: st)) : At_ v g nL h M k n pc lv st := fun H locs ls w hl => lv_ldcw X.1 X.2.1 X.2.2.2.1 (X.2.2.2.2.1 _ hc) hd (kk H locs ls w hl)
theorem a_ldc2 (X : Cx_ v g cc nL own nm rt rm) {ix : Nat} {x : Int64} (hc : Cond.constantLong own ix x ∈ lw_g) (hd : decode cc pc = .ok (.ldc2_w ix, 3)) (kk : At_ v g nL h M k n (pc + 3) lv (v_J x :: st)) : At_ v g nL h M k n pc lv st := fun H locs ls w hl => lv_ldc2 X.1 X.2.1 X.2.2.2.1 (X.2.2.2.2.1 _ hc) hd (kk H locs ls w hl)
theorem a_null (X : Cx_ v g cc nL own nm rt rm) (hd : decode cc pc = .ok (.aconst_null, 1)) (kk : At_ v g nL h M k n (pc + 1) lv (v_R none :: st)) : At_ v g nL h M k n pc lv st := fun H locs ls w hl => lv_null X.1 X.2.1 hd (kk H locs ls w hl)
theorem a_iload_n (X : Cx_ v g cc nL own nm rt rm) {i : Fin 4} {x : Int32} (hd : decode cc pc = .ok (.iload_n i, 1)) (hg : lv_g lv (i : Nat) = some (v_I x)) (kk : At_ v g nL h M k n (pc + 1) lv (v_I x :: st)) : At_ v g nL h M k n pc lv st := fun H locs ls w hl => lv_iload_n X.1 X.2.1 hd rfl (lv_at_ hl hg) (kk H locs ls w hl)
theorem a_iload (X : Cx_ v g cc nL own nm rt rm) {i : Nat} {x : Int32} (hd : decode cc pc = .ok (.iload i, 2)) (hg : lv_g lv i = some (v_I x)) (kk : At_ v g nL h M k n (pc + 2) lv (v_I x :: st)) : At_ v g nL h M k n pc lv st := fun H locs ls w hl => lv_iload X.1 X.2.1 hd (lv_at_ hl hg) (kk H locs ls w hl)
theorem a_lload_n (X : Cx_ v g cc nL own nm rt rm) {i : Fin 4} {x : Int64} (hd : decode cc pc = .ok (.lload_n i, 1)) (hg : lv_g lv (i : Nat) = some (v_J x)) (kk : At_ v g nL h M k n (pc + 1) lv (v_J x :: st)) : At_ v g nL h M k n pc lv st := fun H locs ls w hl => lv_lload_n X.1 X.2.1 hd rfl (lv_at_ hl hg) (kk H locs ls w hl)
theorem a_lload (X : Cx_ v g cc nL own nm rt rm) {i : Nat} {x : Int64} (hd : decode cc pc = .ok (.lload i, 2)) (hg : lv_g lv i = some (v_J x)) (kk : At_ v g nL h M k n (pc + 2) lv (v_J x :: st)) : At_ v g nL h M k n pc lv st := fun H locs ls w hl => lv_lload X.1 X.2.1 hd (lv_at_ hl hg) (kk H locs ls w hl)
theorem a_aload_n (X : Cx_ v g cc nL own nm rt rm) {i : Fin 4} {x : Option Nat} (hd : decode cc pc = .ok (.aload_n i, 1)) (hg : lv_g lv (i : Nat) = some (v_R x)) (kk : At_ v g nL h M k n (pc + 1) lv (v_R x :: st)) : At_ v g nL h M k n pc lv st := fun H locs ls w hl => by
  cases x with
  | none => exact lv_aload_nN X.1 X.2.1 hd rfl (lv_at_ hl hg) (kk H locs ls w hl)
  | some a => exact lv_aload_n X.1 X.2.1 hd rfl (lv_at_ hl hg) (kk H locs ls w hl)
theorem a_aload (X : Cx_ v g cc nL own nm rt rm) {i : Nat} {x : Option Nat} (hd : decode cc pc = .ok (.aload i, 2)) (hg : lv_g lv i = some (v_R x)) (kk : At_ v g nL h M k n (pc + 2) lv (v_R x :: st)) : At_ v g nL h M k n pc lv st := fun H locs ls w hl => by
  cases x with
  | none => exact lv_aloadN X.1 X.2.1 hd (lv_at_ hl hg) (kk H locs ls w hl)
  | some a => exact lv_aload X.1 X.2.1 hd (lv_at_ hl hg) (kk H locs ls w hl)
theorem a_xload_n (X : Cx_ v g cc nL own nm rt rm) {i : Fin 4} {x : Nat} (hd : decode cc pc = .ok (.aload_n i, 1)) (hg : lv_g lv (i : Nat) = some (v_X x)) (kk : At_ v g nL h M k n (pc + 1) lv (v_X x :: st)) : At_ v g nL h M k n pc lv st := fun H locs ls w hl => lv_aload_n X.1 X.2.1 hd rfl (lv_at_ hl hg) (kk H locs ls w hl)
theorem a_istore_n (X : Cx_ v g cc nL own nm rt rm) {i : Fin 4} {x : Int32} (hd : decode cc pc = .ok (.istore_n i, 1)) (hn : (i : Nat) < nL) (hl' : lv_p (i : Nat) (v_I x) lv = lv') (kk : At_ v g nL h M k n (pc + 1) lv' st) : At_ v g nL h M k n pc lv (v_I x :: st) := fun H locs ls w hl =>
  lv_istore_n X.1 X.2.1 hd rfl hl hn rfl (fun ls' h' => kk H locs ls' w (hl' ▸ lv_st_ (x := v_I x) h' (lv_f1 (x := v_I x))))
theorem a_istore (X : Cx_ v g cc nL own nm rt rm) {i : Nat} {x : Int32} (hd : decode cc pc = .ok (.istore i, 2)) (hn : i < nL) (hl' : lv_p i (v_I x) lv = lv') (kk : At_ v g nL h M k n (pc + 2) lv' st) : At_ v g nL h M k n pc lv (v_I x :: st) := fun H locs ls w hl =>
  lv_istore X.1 X.2.1 hd hl hn rfl (fun ls' h' => kk H locs ls' w (hl' ▸ lv_st_ (x := v_I x) h' (lv_f1 (x := v_I x))))
theorem a_lstore_n (X : Cx_ v g cc nL own nm rt rm) {i : Fin 4} {x : Int64} (hd : decode cc pc = .ok (.lstore_n i, 1)) (hn : (i : Nat) + 1 < nL) (hl' : lv_p (i : Nat) (v_J x) lv = lv') (kk : At_ v g nL h M k n (pc + 1) lv' st) : At_ v g nL h M k n pc lv (v_J x :: st) := fun H locs ls w hl =>
  lv_lstore_n X.1 X.2.1 hd rfl hl hn rfl (fun ls' h' => kk H locs ls' w (hl' ▸ lv_st_ (x := v_J x) h' (lv_f2 (x := v_J x) rfl)))
theorem a_lstore (X : Cx_ v g cc nL own nm rt rm) {i : Nat} {x : Int64} (hd : decode cc pc = .ok (.lstore i, 2)) (hn : i + 1 < nL) (hl' : lv_p i (v_J x) lv = lv') (kk : At_ v g nL h M k n (pc + 2) lv' st) : At_ v g nL h M k n pc lv (v_J x :: st) := fun H locs ls w hl =>
  lv_lstore X.1 X.2.1 hd hl hn rfl (fun ls' h' => kk H locs ls' w (hl' ▸ lv_st_ (x := v_J x) h' (lv_f2 (x := v_J x) rfl)))
theorem a_astore_n (X : Cx_ v g cc nL own nm rt rm) {i : Fin 4} {x : Option Nat} (hd : decode cc pc = .ok (.astore_n i, 1)) (hn : (i : Nat) < nL) (hl' : lv_p (i : Nat) (v_R x) lv = lv') (kk : At_ v g nL h M k n (pc + 1) lv' st) : At_ v g nL h M k n pc lv (v_R x :: st) := fun H locs ls w hl => by
  cases x with
  | none => exact lv_astore_nN X.1 X.2.1 hd rfl hl hn rfl (fun ls' h' => kk H locs ls' w (hl' ▸ lv_st_ (x := v_R none) h' (lv_f1 (x := v_R none))))
  | some a => exact lv_astore_n X.1 X.2.1 hd rfl hl hn rfl (fun ls' h' => kk H locs ls' w (hl' ▸ lv_st_ (x := v_R (some a)) h' (lv_f1 (x := v_R (some a)))))
theorem a_astore (X : Cx_ v g cc nL own nm rt rm) {i : Nat} {x : Option Nat} (hd : decode cc pc = .ok (.astore i, 2)) (hn : i < nL) (hl' : lv_p i (v_R x) lv = lv') (kk : At_ v g nL h M k n (pc + 2) lv' st) : At_ v g nL h M k n pc lv (v_R x :: st) := fun H locs ls w hl => by
  cases x with
  | none => exact lv_astoreN X.1 X.2.1 hd hl hn rfl (fun ls' h' => kk H locs ls' w (hl' ▸ lv_st_ (x := v_R none) h' (lv_f1 (x := v_R none))))
  | some a => exact lv_astore X.1 X.2.1 hd hl hn rfl (fun ls' h' => kk H locs ls' w (hl' ▸ lv_st_ (x := v_R (some a)) h' (lv_f1 (x := v_R (some a)))))
theorem a_iinc (X : Cx_ v g cc nL own nm rt rm) {i : Nat} {z : Int} {x y : Int32} (hd : decode cc pc = .ok (.iinc i z, 3)) (hg : lv_g lv i = some (v_I x)) (hy : x + Int32.ofInt z = y) (hn : i < nL) (hl' : lv_p i (v_I y) lv = lv') (kk : At_ v g nL h M k n (pc + 3) lv' st) : At_ v g nL h M k n pc lv st := fun H locs ls w hl => by
  obtain ⟨j, hj⟩ := List.getElem?_of_mem (List.mem_map.mpr ⟨(i, v_I x), lv_g_mem hg, rfl⟩ : (i, Value.int x) ∈ lv_m g.2.2 lv)
  exact lv_iinc X.1 X.2.1 hd hl hj hy hn rfl (fun ls' h' => kk H locs ls' w (hl' ▸ lv_st_ (x := v_I y) h' (lv_f1 (x := v_I y))))
theorem a_iadd (X : Cx_ v g cc nL own nm rt rm) {x y : Int32} (hd : decode cc pc = .ok (.iadd, 1)) (kk : At_ v g nL h M k n (pc + 1) lv (v_I (x + y) :: st)) : At_ v g nL h M k n pc lv (v_I y :: v_I x :: st) := fun H locs ls w hl => lv_iadd X.1 X.2.1 hd (kk H locs ls w hl)
theorem a_isub (X : Cx_ v g cc nL own nm rt rm) {x y : Int32} (hd : decode cc pc = .ok (.isub, 1)) (kk : At_ v g nL h M k n (pc + 1) lv (v_I (x - y) :: st)) : At_ v g nL h M k n pc lv (v_I y :: v_I x :: st) := fun H locs ls w hl => lv_isub X.1 X.2.1 hd (kk H locs ls w hl)
theorem a_imul (X : Cx_ v g cc nL own nm rt rm) {x y : Int32} (hd : decode cc pc = .ok (.imul, 1)) (kk : At_ v g nL h M k n (pc + 1) lv (v_I (x * y) :: st)) : At_ v g nL h M k n pc lv (v_I y :: v_I x :: st) := fun H locs ls w hl => lv_imul X.1 X.2.1 hd (kk H locs ls w hl)
theorem a_irem (X : Cx_ v g cc nL own nm rt rm) {x y : Int32} (hd : decode cc pc = .ok (.irem, 1)) (hne : ¬ y = 0) (kk : At_ v g nL h M k n (pc + 1) lv (v_I (x - x / y * y) :: st)) : At_ v g nL h M k n pc lv (v_I y :: v_I x :: st) := fun H locs ls w hl => lv_irem X.1 X.2.1 hd hne (kk H locs ls w hl)
theorem a_iand (X : Cx_ v g cc nL own nm rt rm) {x y : Int32} (hd : decode cc pc = .ok (.iand, 1)) (kk : At_ v g nL h M k n (pc + 1) lv (v_I (x &&& y) :: st)) : At_ v g nL h M k n pc lv (v_I y :: v_I x :: st) := fun H locs ls w hl => lv_iand X.1 X.2.1 hd (kk H locs ls w hl)
theorem a_ior (X : Cx_ v g cc nL own nm rt rm) {x y : Int32} (hd : decode cc pc = .ok (.ior, 1)) (kk : At_ v g nL h M k n (pc + 1) lv (v_I (x ||| y) :: st)) : At_ v g nL h M k n pc lv (v_I y :: v_I x :: st) := fun H locs ls w hl => lv_ior X.1 X.2.1 hd (kk H locs ls w hl)
theorem a_ishl (X : Cx_ v g cc nL own nm rt rm) {x y : Int32} (hd : decode cc pc = .ok (.ishl, 1)) (kk : At_ v g nL h M k n (pc + 1) lv (v_I (x <<< (y &&& 31)) :: st)) : At_ v g nL h M k n pc lv (v_I y :: v_I x :: st) := fun H locs ls w hl => lv_ishl X.1 X.2.1 hd (kk H locs ls w hl)
theorem a_ishr (X : Cx_ v g cc nL own nm rt rm) {x y : Int32} (hd : decode cc pc = .ok (.ishr, 1)) (kk : At_ v g nL h M k n (pc + 1) lv (v_I (x >>> (y &&& 31)) :: st)) : At_ v g nL h M k n pc lv (v_I y :: v_I x :: st) := fun H locs ls w hl => lv_ishr X.1 X.2.1 hd (kk H locs ls w hl)
theorem a_iushr (X : Cx_ v g cc nL own nm rt rm) {x y : Int32} (hd : decode cc pc = .ok (.iushr, 1)) (kk : At_ v g nL h M k n (pc + 1) lv (v_I ((x.toUInt32 >>> (y.toUInt32 &&& Int32.toUInt32 31)).toInt32) :: st)) : At_ v g nL h M k n pc lv (v_I y :: v_I x :: st) := fun H locs ls w hl => lv_iushr X.1 X.2.1 hd rfl (kk H locs ls w hl)
theorem a_i2l (X : Cx_ v g cc nL own nm rt rm) {x : Int32} (hd : decode cc pc = .ok (.i2l, 1)) (kk : At_ v g nL h M k n (pc + 1) lv (v_J x.toInt64 :: st)) : At_ v g nL h M k n pc lv (v_I x :: st) := fun H locs ls w hl => lv_i2l X.1 X.2.1 hd rfl (kk H locs ls w hl)
theorem a_land (X : Cx_ v g cc nL own nm rt rm) {x y : Int64} (hd : decode cc pc = .ok (.land, 1)) (kk : At_ v g nL h M k n (pc + 1) lv (v_J (x &&& y) :: st)) : At_ v g nL h M k n pc lv (v_J y :: v_J x :: st) := fun H locs ls w hl => lv_land X.1 X.2.1 hd (kk H locs ls w hl)
theorem a_lor (X : Cx_ v g cc nL own nm rt rm) {x y : Int64} (hd : decode cc pc = .ok (.lor, 1)) (kk : At_ v g nL h M k n (pc + 1) lv (v_J (x ||| y) :: st)) : At_ v g nL h M k n pc lv (v_J y :: v_J x :: st) := fun H locs ls w hl => lv_lor X.1 X.2.1 hd (kk H locs ls w hl)
theorem a_lcmp (X : Cx_ v g cc nL own nm rt rm) {x y : Int64} (hd : decode cc pc = .ok (.lcmp, 1)) (kk : At_ v g nL h M k n (pc + 1) lv (v_I (lg_cmp x y) :: st)) : At_ v g nL h M k n pc lv (v_J y :: v_J x :: st) := fun H locs ls w hl => W.lcmp X.1 X.2.1 hd (kk H locs ls w hl)
theorem a_dup (X : Cx_ v g cc nL own nm rt rm) {x : Vlx} (hd : decode cc pc = .ok (.dup, 1)) (hx : is_L x = false) (kk : At_ v g nL h M k n (pc + 1) lv (x :: x :: st)) : At_ v g nL h M k n pc lv (x :: st) := fun H locs ls w hl => lv_dup X.1 X.2.1 hd (by rw [to_V_cat, hx]; rfl) (kk H locs ls w hl)
theorem a_pop (X : Cx_ v g cc nL own nm rt rm) {x : Vlx} (hd : decode cc pc = .ok (.pop, 1)) (hx : is_L x = false) (kk : At_ v g nL h M k n (pc + 1) lv st) : At_ v g nL h M k n pc lv (x :: st) := fun H locs ls w hl => lv_pop X.1 X.2.1 hd (by rw [to_V_cat, hx]; rfl) (kk H locs ls w hl)
theorem a_dup2 (X : Cx_ v g cc nL own nm rt rm) {x y : Vlx} (hd : decode cc pc = .ok (.dup2, 1)) (hx : is_L x = false) (hy : is_L y = false) (kk : At_ v g nL h M k n (pc + 1) lv (x :: y :: x :: y :: st)) : At_ v g nL h M k n pc lv (x :: y :: st) := fun H locs ls w hl => lv_dup2_11 X.1 X.2.1 hd (by rw [to_V_cat, hx]; rfl) (by rw [to_V_cat, hy]; rfl) (kk H locs ls w hl)
theorem a_goto (X : Cx_ v g cc nL own nm rt rm) {off : Int} {tgt : Nat} (hd : decode cc pc = .ok (.goto off, 3)) (ht : (pc : Int) + off = (tgt : Int)) (kk : At_ v g nL h M k n tgt lv st) : At_ v g nL h M k n pc lv st := fun H locs ls w hl => lv_goto X.1 X.2.1 hd ht (kk H locs ls w hl)
theorem i_p {c : Prop} [Decidable c] {A B : Option ρ} (hm : (if c then A else B) = some res) (hc : c) : A = some res := by rw [if_pos hc] at hm; exact hm
theorem i_n {c : Prop} [Decidable c] {A B : Option ρ} (hm : (if c then A else B) = some res) (hc : ¬ c) : B = some res := by rw [if_neg hc] at hm; exact hm
theorem i_c {c : Prop} [Decidable c] {A : Option ρ} (hm : (if c then A else none) = some res) : c ∧ A = some res := by
  by_cases hc : c
  · exact ⟨hc, i_p hm hc⟩
  · rw [if_neg hc] at hm
    cases hm
theorem i_b {α : Type} {x : Option α} {F : α → Option ρ} (hm : x.bind F = some res) : ∃ a, x = some a ∧ F a = some res := by
  cases x with
  | none => cases hm
  | some a => exact ⟨a, rfl, hm⟩
def c_l {σ α β : Type} (x : Option (σ × α)) (f : σ → α → Option β) : Option β := x.bind fun q => f q.1 q.2
theorem i_l {σ α : Type} {x : Option (σ × α)} {F : σ → α → Option ρ} (hm : c_l x F = some res) : ∃ s a, x = some (s, a) ∧ F s a = some res := by
  cases x with
  | none => cases hm
  | some a => exact ⟨a.1, a.2, rfl, hm⟩
theorem a_if_eq (X : Cx_ v g cc nL own nm rt rm) {x : Int32} {off : Int} {tgt : Nat} (hd : decode cc pc = .ok (.ifCond .eq off, 3)) (ht : (pc : Int) + off = (tgt : Int)) (hm : (if x = 0 then A else B) = some res) (kt : x = 0 → A = some res → At_ v g nL h M k n tgt lv st) (kf : ¬ x = 0 → B = some res → At_ v g nL h M k n (pc + 3) lv st) : At_ v g nL h M k n pc lv (v_I x :: st) := fun H locs ls w hl => lv_if_eq X.1 X.2.1 hd ht (fun c => kt c (i_p hm c) H locs ls w hl) (fun c => kf c (i_n hm c) H locs ls w hl)
theorem a_if_ne (X : Cx_ v g cc nL own nm rt rm) {x : Int32} {off : Int} {tgt : Nat} (hd : decode cc pc = .ok (.ifCond .ne off, 3)) (ht : (pc : Int) + off = (tgt : Int)) (hm : (if x = 0 then B else A) = some res) (kt : ¬ x = 0 → A = some res → At_ v g nL h M k n tgt lv st) (kf : x = 0 → B = some res → At_ v g nL h M k n (pc + 3) lv st) : At_ v g nL h M k n pc lv (v_I x :: st) := fun H locs ls w hl => lv_if_ne X.1 X.2.1 hd ht (fun c => kt c (i_n hm c) H locs ls w hl) (fun c => kf c (i_p hm c) H locs ls w hl)
theorem a_if_lt (X : Cx_ v g cc nL own nm rt rm) {x : Int32} {off : Int} {tgt : Nat} (hd : decode cc pc = .ok (.ifCond .lt off, 3)) (ht : (pc : Int) + off = (tgt : Int)) (hm : (if x < 0 then A else B) = some res) (kt : x < 0 → A = some res → At_ v g nL h M k n tgt lv st) (kf : ¬ x < 0 → B = some res → At_ v g nL h M k n (pc + 3) lv st) : At_ v g nL h M k n pc lv (v_I x :: st) := fun H locs ls w hl => lv_if_lt X.1 X.2.1 hd ht (fun c => kt c (i_p hm c) H locs ls w hl) (fun c => kf c (i_n hm c) H locs ls w hl)
theorem a_if_ge (X : Cx_ v g cc nL own nm rt rm) {x : Int32} {off : Int} {tgt : Nat} (hd : decode cc pc = .ok (.ifCond .ge off, 3)) (ht : (pc : Int) + off = (tgt : Int)) (hm : (if 0 ≤ x then A else B) = some res) (kt : 0 ≤ x → A = some res → At_ v g nL h M k n tgt lv st) (kf : ¬ 0 ≤ x → B = some res → At_ v g nL h M k n (pc + 3) lv st) : At_ v g nL h M k n pc lv (v_I x :: st) := fun H locs ls w hl => lv_if_ge X.1 X.2.1 hd ht (fun c => kt c (i_p hm c) H locs ls w hl) (fun c => kf c (i_n hm c) H locs ls w hl)
theorem a_if_gt (X : Cx_ v g cc nL own nm rt rm) {x : Int32} {off : Int} {tgt : Nat} (hd : decode cc pc = .ok (.ifCond .gt off, 3)) (ht : (pc : Int) + off = (tgt : Int)) (hm : (if 0 < x then A else B) = some res) (kt : 0 < x → A = some res → At_ v g nL h M k n tgt lv st) (kf : ¬ 0 < x → B = some res → At_ v g nL h M k n (pc + 3) lv st) : At_ v g nL h M k n pc lv (v_I x :: st) := fun H locs ls w hl => lv_if_gt X.1 X.2.1 hd ht (fun c => kt c (i_p hm c) H locs ls w hl) (fun c => kf c (i_n hm c) H locs ls w hl)
theorem a_if_le (X : Cx_ v g cc nL own nm rt rm) {x : Int32} {off : Int} {tgt : Nat} (hd : decode cc pc = .ok (.ifCond .le off, 3)) (ht : (pc : Int) + off = (tgt : Int)) (hm : (if x ≤ 0 then A else B) = some res) (kt : x ≤ 0 → A = some res → At_ v g nL h M k n tgt lv st) (kf : ¬ x ≤ 0 → B = some res → At_ v g nL h M k n (pc + 3) lv st) : At_ v g nL h M k n pc lv (v_I x :: st) := fun H locs ls w hl => lv_if_le X.1 X.2.1 hd ht (fun c => kt c (i_p hm c) H locs ls w hl) (fun c => kf c (i_n hm c) H locs ls w hl)
theorem a_icmp_eq (X : Cx_ v g cc nL own nm rt rm) {x y : Int32} {off : Int} {tgt : Nat} (hd : decode cc pc = .ok (.if_icmp .eq off, 3)) (ht : (pc : Int) + off = (tgt : Int)) (hm : (if x = y then A else B) = some res) (kt : x = y → A = some res → At_ v g nL h M k n tgt lv st) (kf : ¬ x = y → B = some res → At_ v g nL h M k n (pc + 3) lv st) : At_ v g nL h M k n pc lv (v_I y :: v_I x :: st) := fun H locs ls w hl => lv_icmp_eq X.1 X.2.1 hd ht (fun c => kt c (i_p hm c) H locs ls w hl) (fun c => kf c (i_n hm c) H locs ls w hl)
theorem a_icmp_ne (X : Cx_ v g cc nL own nm rt rm) {x y : Int32} {off : Int} {tgt : Nat} (hd : decode cc pc = .ok (.if_icmp .ne off, 3)) (ht : (pc : Int) + off = (tgt : Int)) (hm : (if x = y then B else A) = some res) (kt : ¬ x = y → A = some res → At_ v g nL h M k n tgt lv st) (kf : x = y → B = some res → At_ v g nL h M k n (pc + 3) lv st) : At_ v g nL h M k n pc lv (v_I y :: v_I x :: st) := fun H locs ls w hl => lv_icmp_ne X.1 X.2.1 hd ht (fun c => kt c (i_n hm c) H locs ls w hl) (fun c => kf c (i_p hm c) H locs ls w hl)
theorem a_icmp_lt (X : Cx_ v g cc nL own nm rt rm) {x y : Int32} {off : Int} {tgt : Nat} (hd : decode cc pc = .ok (.if_icmp .lt off, 3)) (ht : (pc : Int) + off = (tgt : Int)) (hm : (if x < y then A else B) = some res) (kt : x < y → A = some res → At_ v g nL h M k n tgt lv st) (kf : ¬ x < y → B = some res → At_ v g nL h M k n (pc + 3) lv st) : At_ v g nL h M k n pc lv (v_I y :: v_I x :: st) := fun H locs ls w hl => lv_icmp_lt X.1 X.2.1 hd ht (fun c => kt c (i_p hm c) H locs ls w hl) (fun c => kf c (i_n hm c) H locs ls w hl)
theorem a_icmp_ge (X : Cx_ v g cc nL own nm rt rm) {x y : Int32} {off : Int} {tgt : Nat} (hd : decode cc pc = .ok (.if_icmp .ge off, 3)) (ht : (pc : Int) + off = (tgt : Int)) (hm : (if y ≤ x then A else B) = some res) (kt : y ≤ x → A = some res → At_ v g nL h M k n tgt lv st) (kf : ¬ y ≤ x → B = some res → At_ v g nL h M k n (pc + 3) lv st) : At_ v g nL h M k n pc lv (v_I y :: v_I x :: st) := fun H locs ls w hl => lv_icmp_ge X.1 X.2.1 hd ht (fun c => kt c (i_p hm c) H locs ls w hl) (fun c => kf c (i_n hm c) H locs ls w hl)
theorem a_icmp_gt (X : Cx_ v g cc nL own nm rt rm) {x y : Int32} {off : Int} {tgt : Nat} (hd : decode cc pc = .ok (.if_icmp .gt off, 3)) (ht : (pc : Int) + off = (tgt : Int)) (hm : (if y < x then A else B) = some res) (kt : y < x → A = some res → At_ v g nL h M k n tgt lv st) (kf : ¬ y < x → B = some res → At_ v g nL h M k n (pc + 3) lv st) : At_ v g nL h M k n pc lv (v_I y :: v_I x :: st) := fun H locs ls w hl => lv_icmp_gt X.1 X.2.1 hd ht (fun c => kt c (i_p hm c) H locs ls w hl) (fun c => kf c (i_n hm c) H locs ls w hl)
theorem a_icmp_le (X : Cx_ v g cc nL own nm rt rm) {x y : Int32} {off : Int} {tgt : Nat} (hd : decode cc pc = .ok (.if_icmp .le off, 3)) (ht : (pc : Int) + off = (tgt : Int)) (hm : (if x ≤ y then A else B) = some res) (kt : x ≤ y → A = some res → At_ v g nL h M k n tgt lv st) (kf : ¬ x ≤ y → B = some res → At_ v g nL h M k n (pc + 3) lv st) : At_ v g nL h M k n pc lv (v_I y :: v_I x :: st) := fun H locs ls w hl => lv_icmp_le X.1 X.2.1 hd ht (fun c => kt c (i_p hm c) H locs ls w hl) (fun c => kf c (i_n hm c) H locs ls w hl)
theorem a_ifnull (X : Cx_ v g cc nL own nm rt rm) {x : Option Nat} {off : Int} {tgt : Nat} (hd : decode cc pc = .ok (.ifnull off, 3)) (ht : (pc : Int) + off = (tgt : Int)) (hm : (if x = none then A else B) = some res) (kt : x = none → A = some res → At_ v g nL h M k n tgt lv st) (kf : ¬ x = none → B = some res → At_ v g nL h M k n (pc + 3) lv st) : At_ v g nL h M k n pc lv (v_R x :: st) := fun H locs ls w hl => by
  cases x with
  | none => exact lv_ifnullN X.1 X.2.1 hd ht (kt rfl (i_p hm rfl) H locs ls w hl)
  | some a => exact lv_ifnull X.1 X.2.1 hd (kf (fun q => by cases q) (i_n hm (fun q => by cases q)) H locs ls w hl)
theorem a_ifnonnull (X : Cx_ v g cc nL own nm rt rm) {x : Option Nat} {off : Int} {tgt : Nat} (hd : decode cc pc = .ok (.ifnonnull off, 3)) (ht : (pc : Int) + off = (tgt : Int)) (hm : (if x = none then B else A) = some res) (kt : ¬ x = none → A = some res → At_ v g nL h M k n tgt lv st) (kf : x = none → B = some res → At_ v g nL h M k n (pc + 3) lv st) : At_ v g nL h M k n pc lv (v_R x :: st) := fun H locs ls w hl => by
  cases x with
  | none => exact lv_ifnonnullN X.1 X.2.1 hd (kf rfl (i_p hm rfl) H locs ls w hl)
  | some a => exact lv_ifnonnull X.1 X.2.1 hd ht (kt (fun q => by cases q) (i_n hm (fun q => by cases q)) H locs ls w hl)
theorem a_tsIn (X : Cx_ v g cc nL own nm rt rm) {d lo hi : Int} {offs : Array Int} {len : Nat} {x c : Int32} {off : Int} {tgt : Nat} (hd : decode cc pc = .ok (.tableswitch d lo hi offs, len)) (hx : x = c) (h1 : ¬ c.toInt < lo) (h2 : ¬ hi < c.toInt) (ho : offs[(c.toInt - lo).toNat]? = some off) (ht : (pc : Int) + off = (tgt : Int)) (kk : At_ v g nL h M k n tgt lv st) : At_ v g nL h M k n pc lv (v_I x :: st) := fun H locs ls w hl => by
  subst hx
  exact lv_tableIn X.1 X.2.1 hd h1 h2 ho ht (kk H locs ls w hl)
theorem a_tsOut (X : Cx_ v g cc nL own nm rt rm) {d lo hi : Int} {offs : Array Int} {len : Nat} {x : Int32} {tgt : Nat} (hd : decode cc pc = .ok (.tableswitch d lo hi offs, len)) (h1 : x.toInt < lo ∨ hi < x.toInt) (ht : (pc : Int) + d = (tgt : Int)) (kk : At_ v g nL h M k n tgt lv st) : At_ v g nL h M k n pc lv (v_I x :: st) := fun H locs ls w hl => lv_tableOut X.1 X.2.1 hd h1 ht (kk H locs ls w hl)
theorem a_mmax (X : Cx_ v g cc nL own nm rt rm) {ix : Nat} {x y : Int32} (hlk : Cond.methodLink own ix Lib.Math.max.name ∈ lw_g) (hR : 1 ≤ rm.frames ∧ st_w st + 13 ≤ rm.locals ∧ k ≤ rm.cells ∧ n ≤ rm.slots) (hd : decode cc pc = .ok (.invokestatic ix, 3)) (kk : At_ v g nL h M k n (pc + 3) lv (v_I (if x < y then y else x) :: st)) : At_ v g nL h M k n pc lv (v_I y :: v_I x :: st) := fun H locs ls w hl =>
  va_mmax X.1 X.2.1 (X.2.2.1.trans hl.1.symm) X.2.2.2.1 (X.2.2.2.2.1 _ hlk) (X.2.2.2.2.1 _ sta_J9_max_7cf53) (X.2.2.2.2.1 _ ini_J9) (X.2.2.2.2.1 _ co_J9_max_7cf53) (by rw [X.2.2.2.2.2.2.2.1]; exact hR.1) (by rw [X.2.2.2.2.2.2.2.1, st_w_eq]; exact hR.2.1) (by rw [X.2.2.2.2.2.2.2.1]; exact hR.2.2.1) (by rw [X.2.2.2.2.2.2.2.1]; exact hR.2.2.2) hd (kk H locs ls w hl)
theorem a_mmin (X : Cx_ v g cc nL own nm rt rm) {ix : Nat} {x y : Int32} (hlk : Cond.methodLink own ix Lib.Math.min.name ∈ lw_g) (hR : 1 ≤ rm.frames ∧ st_w st + 13 ≤ rm.locals ∧ k ≤ rm.cells ∧ n ≤ rm.slots) (hd : decode cc pc = .ok (.invokestatic ix, 3)) (kk : At_ v g nL h M k n (pc + 3) lv (v_I (if y < x then y else x) :: st)) : At_ v g nL h M k n pc lv (v_I y :: v_I x :: st) := fun H locs ls w hl =>
  va_mmin X.1 X.2.1 (X.2.2.1.trans hl.1.symm) X.2.2.2.1 (X.2.2.2.2.1 _ hlk) (X.2.2.2.2.1 _ sta_J9_min_7cf53) (X.2.2.2.2.1 _ ini_J9) (X.2.2.2.2.1 _ co_J9_min_7cf53) (by rw [X.2.2.2.2.2.2.2.1]; exact hR.1) (by rw [X.2.2.2.2.2.2.2.1, st_w_eq]; exact hR.2.1) (by rw [X.2.2.2.2.2.2.2.1]; exact hR.2.2.1) (by rw [X.2.2.2.2.2.2.2.1]; exact hR.2.2.2) hd (kk H locs ls w hl)
theorem a_widen {k' n' : Nat} (h1 : k ≤ k') (h2 : n ≤ n') (kk : At_ v g nL h M k' n' pc lv st) : At_ v g nL h M k n pc lv st := fun H locs ls w hl => W.widen h1 h2 (kk H locs ls w hl)
theorem a_objInit (X : Cx_ v g cc nL own nm rt rm) {ix a : Nat} (hlk : Cond.methodLink own ix objectInit ∈ lw_g) (hR : 1 ≤ rm.frames ∧ st_w st + 12 ≤ rm.locals) (hd : decode cc pc = .ok (.invokespecial ix, 3)) (kk : At_ v g nL h M k n (pc + 3) lv st) : At_ v g nL h M k n pc lv (v_R (some a) :: st) := fun H locs ls w hl =>
  W.objInit X.1 X.2.1 X.2.2.2.1 (X.2.2.2.2.1 _ hlk) (X.2.2.2.2.1 _ im_java_lang_Object_init_) (X.2.2.2.2.1 _ co_java_lang_Object_init_) rfl (hl.1.trans X.2.2.1.symm) rfl hd (by rw [X.2.2.2.2.2.2.2.1]; exact hR.1) (by rw [X.2.2.2.2.2.2.2.1, st_w_eq]; show 2 * 0 + _ + 12 ≤ _; omega) (kk H locs ls w hl)
end RW1
