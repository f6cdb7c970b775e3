/-! rows that make cells, calls, entries, ends -/
def Wl_ (g : Gvx) (h : Hpx) (M : Msx) (U : State) : Prop := U.heap.size = g.2.2 + h_z h ∧ va_P g.1 cls_ (ws_ g.2.2 g.2.1 h M) U.heap ∧ va_K g.1 cls_ (tys_ g.2.1) U ∧ (va_AO RX0 U ∧ va_AO RX1 U ∧ va_AO RX2 U) ∧ ∀ a, h_z h ≤ a → h_k h a = 0
def Qr_ (g : Gvx) (r : Option Vlx) (h' : Hpx) (M' : Msx) : Array Value → State → Outcome → State → Prop := fun _ st o t => o = .returned (r.map (to_V g.2.2)) ∧ Wl_ g h' M' t ∧ va_F (fun q => g.2.2 ≤ q) st t
/-- a method's contract: from the world h, M with these arguments it answers r and leaves the world h', M' -/
def Mt_ (l : Launch) (g : Gvx) (y : MethodName) (cc : ByteArray) (nL : Nat) (rt : Option FieldType) (rm : Room) (As : List Vlx) (h : Hpx) (M : Msx) (r : Option Vlx) (h' : Hpx) (M' : Msx) : Prop :=
  Met l y (.code y cc nL rt :: lw_g) rm (va_Pc (As.map (to_V g.2.2)) (Wl_ g h M)) (Qr_ g r h' M') rm.cells rm.slots (fun q => g.2.2 ≤ q)
def Fi_ (v : Evx) (g : Gvx) (rm : Room) (r : Option Vlx) (h' : Hpx) (M' : Msx) : Prop := e_Q v = MQ (e_b v) (Qr_ g r h' M') (e_a v) (e_s v) rm.cells rm.slots (fun q => g.2.2 ≤ q)
theorem wl_moved {g : Gvx} {h : Hpx} {M : Msx} {u U : State} (hvm : u.vm.Alike U.vm) (hh : U.heap = u.heap) (w : Wl_ g h M u) : Wl_ g h M U := ⟨by rw [hh]; exact w.1, by rw [hh]; exact w.2.1, va_K.moved hvm w.2.2.1, ⟨w.2.2.2.1.1.moved hvm, w.2.2.2.1.2.1.moved hvm, w.2.2.2.1.2.2.moved hvm⟩, w.2.2.2.2⟩
theorem wl_of {v : Evx} {g : Gvx} {cc : ByteArray} {nL : Nat} {own nm : String} {rt : Option FieldType} {rm : Room} {h : Hpx} {M : Msx} {H : Heap} {locs : List Loc} (X : Cx_ v g cc nL own nm rt rm) (w : Wd_ v g h M H locs) {U : State} (hU : U.heap = H) (hvm : (e_s v).vm.Alike U.vm) : Wl_ g h M U := ⟨by rw [hU]; exact w.1, by rw [hU]; exact w.2.1, va_K.moved hvm X.2.2.2.2.2.1, ⟨X.2.2.2.2.2.2.2.2.2.2.2.1.moved hvm, X.2.2.2.2.2.2.2.2.2.2.2.2.1.moved hvm, X.2.2.2.2.2.2.2.2.2.2.2.2.2.moved hvm⟩, w.2.2.2⟩
theorem blind_ {g : Gvx} {h : Hpx} {M : Msx} {As : List Value} : FrameBlind (va_Pc As (Wl_ g h M)) := fun a U g' mk q => ⟨q.1, wl_moved (u := U) (U := U.calling g' mk a) (Vm.Alike.refl U.vm) rfl q.2⟩
theorem good_ {w : Cond} (h : w ∈ lw_g) : GoodIn lw_g (w :: lw_g) := fun z hz => by
  rcases List.mem_cons.mp hz with rfl | hz
  · exact ⟨h, good_of_word (lw_good _ h)⟩
  · exact ⟨hz, good_of_word (lw_good _ hz)⟩
def Yv_ (y : MethodName) (cc : ByteArray) (nL : Nat) (rt : Option FieldType) (n ci : Nat) : Prop := y.cls = f_C ci ∧ ci < 5 ∧ (y.cls ≠ "java/lang/invoke/MethodHandle" ∧ y.cls ≠ "java/lang/invoke/VarHandle" ∧ (parseMethodDescriptor y.desc).map (fun d => d.parameters.length) = some n) ∧ Cond.code y cc nL rt ∈ lw_g ∧ Cond.instanceMethod y ∈ lw_g ∧ Cond.selects (f_C ci) y y ∈ lw_g ∧ Cond.initialized y.cls ∈ lw_g
def Yi_ (y : MethodName) (cc : ByteArray) (nL : Nat) (n : Nat) : Prop := y.name = "<init>" ∧ (y.cls ≠ "java/lang/invoke/MethodHandle" ∧ y.cls ≠ "java/lang/invoke/VarHandle" ∧ (parseMethodDescriptor y.desc).map (fun d => d.parameters.length) = some n) ∧ Cond.code y cc nL none ∈ lw_g ∧ Cond.instanceMethod y ∈ lw_g ∧ Cond.initialized y.cls ∈ lw_g
def Ys_ (y : MethodName) (cc : ByteArray) (nL : Nat) (rt : Option FieldType) (n : Nat) : Prop := (y.cls ≠ "java/lang/invoke/MethodHandle" ∧ y.cls ≠ "java/lang/invoke/VarHandle" ∧ (parseMethodDescriptor y.desc).map (fun d => d.parameters.length) = some n) ∧ Cond.code y cc nL rt ∈ lw_g ∧ Cond.static y ∈ lw_g ∧ Cond.initialized y.cls ∈ lw_g
section RW3
variable {v : Evx} {g : Gvx} {cc : ByteArray} {nL : Nat} {own nm : String} {rt : Option FieldType} {rm : Room} {h h' : Hpx} {M M' : Msx} {k n k' n' pc : Nat} {lv lv' : List (Nat × Vlx)} {st st0 st' : List Vlx} {H H' : Heap} {locs : List Loc}
theorem wd_push (w : Wd_ v g h M H locs) (hz : h_z h' = h_z h + 1) (hat : va_at g.1 cls_ (g.2.2 + h_z h, cell_ g.2.2 g.2.1 h' M (h_z h)) H') (z : H'.size = g.2.2 + h_z h + 1) (oq : ∀ q, q < g.2.2 + h_z h → H'[q]? = H[q]?) (ho : ∀ c, c < h_z h → cell_ g.2.2 g.2.1 h' M c = cell_ g.2.2 g.2.1 h M c) (hk0 : ∀ c, h_z h' ≤ c → h_k h' c = 0) : Wd_ v g h' M H' locs := by
  obtain ⟨w1, w2, w3, w4⟩ := w
  refine ⟨by rw [z, hz]; omega, ?_, ⟨by rw [z]; have := w3.1; omega, fun q q1 q2 => ?_, w3.2.2⟩, hk0⟩
  · rw [← ws_push hz rfl ho]
    refine va_P.app (w2.kept fun i q hq => ?_) fun i q hq => ?_
    · have hs := ws_some hq
      rw [hs.2]
      exact oq _ (by show g.2.2 + i < _; omega)
    · have hz : i < 1 := (List.getElem?_eq_some_iff.mp hq).1
      rw [show i = 0 by omega] at hq
      cases hq
      exact hat
  · rw [oq q (by have := w3.1; omega)]
    exact w3.2.1 q q1 q2
theorem new_o {kd m c : Nat} (hc : c < h_z h) : cell_ g.2.2 g.2.1 (h_new h kd m) M c = cell_ g.2.2 g.2.1 h M c := by
  have e : c ≠ h_z h := Nat.ne_of_lt hc
  exact cell_same (va_up_ne _ _ e) (va_up_ne _ _ e) (va_up_ne _ _ e) (va_up_ne _ _ e) (va_up_ne _ _ e)
theorem new_0 (w : Wd_ v g h M H locs) {kd m : Nat} (c : Nat) (hc : h_z (h_new h kd m) ≤ c) : h_k (h_new h kd m) c = 0 := by
  have hc : h_z h + 1 ≤ c := hc
  show va_up (h_k h) (h_z h) kd c = 0
  rw [va_up_ne _ _ (by omega)]
  exact w.2.2.2 c (by omega)
theorem new_k {kd m : Nat} : h_k (h_new h kd m) (h_z h) = kd := va_up_self _ _ _
theorem a_new (X : Cx_ v g cc nL own nm rt rm) (ci : Nat) {ix : Nat} (hc : ci < 5) (hcl : Cond.classLink own ix (f_C ci) ∈ lw_g) (hib : Cond.instantiable (f_C ci) (f_N ci) ∈ lw_g) (hin : Cond.initialized (f_C ci) ∈ lw_g) (hR : k + 1 ≤ rm.cells ∧ n + f_N ci ≤ rm.slots) (hk : k + 1 = k') (hn : n + f_N ci = n') (hd : decode cc pc = .ok (.new ix, 3)) (kk : At_ v g nL (h_new h (ci + 1) 0) M k' n' (pc + 3) lv (v_R (some (h_z h)) :: st)) : At_ v g nL h M k n pc lv st := fun H locs ls w hl => by
  subst hk
  subst hn
  have hts := X.2.2.2.2.1
  have hKn := X.2.2.2.2.2.1.1 ci _ (cls_at ci hc)
  refine W.newcK X.1 X.2.1 X.2.2.2.1 (hts _ hcl) (hts _ hib) (hts _ hin) rfl hd (by rw [X.2.2.2.2.2.2.2.1]; exact hR.1) (by rw [X.2.2.2.2.2.2.2.1]; exact hR.2) hKn.2.1 w.1 fun H1 kC hkC e1 z1 o1 => ?_
  refine kk H1 locs ls (wd_push w rfl ?_ z1 o1 (fun c hc => new_o hc) (new_0 w)) hl
  rw [cell_obj new_k hc]
  refine ⟨_, cls_at ci hc, (u_born (f_t ci) hts (cls_in ci hc) hKn hkC e1 (cls_ty ci hc)).to fun j hj => ?_⟩
  rw [cls_df ci hc j hj]
  have e : vp_V (f_fs g.2.2 (h_new h (ci + 1) 0) ci (h_z h)) j = f_val g.2.2 (h_new h (ci + 1) 0) ci (h_z h) j := by
    simp [vp_V, fs_get hj]
  rw [e]
  unfold f_val
  have e1 : h_I (h_new h (ci + 1) 0) (h_z h) = fun _ => 0 := va_up_self _ _ _
  have e2 : h_J (h_new h (ci + 1) 0) (h_z h) = fun _ => 0 := va_up_self _ _ _
  have e3 : h_R (h_new h (ci + 1) 0) (h_z h) = fun _ => none := va_up_self _ _ _
  rw [e1, e2, e3]
  rfl
theorem a_newI (X : Cx_ v g cc nL own nm rt rm) {x : Int32} {N : Nat} (hx : ¬ x < 0) (hN : x.toNatClampNeg = N) (hb : N * 4 ≤ 536870912) (hR : k + 1 ≤ rm.cells ∧ n + N ≤ rm.slots) (hk : k + 1 = k') (hn : n + N = n') (hd : decode cc pc = .ok (.newarray .int, 2)) (kk : At_ v g nL (h_new h 6 N) M k' n' (pc + 2) lv (v_R (some (h_z h)) :: st)) : At_ v g nL h M k n pc lv (v_I x :: st) := fun H locs ls w hl => by
  subst hk
  subst hn
  refine va_newaK (atype := .int) X.1 X.2.1 (X.2.2.2.2.1 _ arc_Jvm_ClassFile_FieldType_int) rfl hd rfl hx hN hb (by rw [X.2.2.2.2.2.2.2.1]; exact hR.1) (by rw [X.2.2.2.2.2.2.2.1]; exact hR.2) w.1 fun H1 cA e1 z1 o1 hAr hNm => ?_
  have hA : cA = g.2.1 0 := Option.some.inj (hNm.symm.trans (X.2.2.2.2.2.1.2 0 _ rfl).2)
  subst hA
  refine kk H1 locs ls (wd_push w rfl ?_ z1 o1 (fun c hc => new_o hc) (new_0 w)) hl
  rw [cell_I new_k]
  show H1[_]? = some (vp_cell _ _)
  rw [e1, vp_cell_i, show h_I (h_new h 6 N) (h_z h) = fun _ => 0 from va_up_self _ _ _, show h_n (h_new h 6 N) (h_z h) = N from va_up_self _ _ _]
  rfl
theorem a_newZ (X : Cx_ v g cc nL own nm rt rm) {x : Int32} {N : Nat} (hx : ¬ x < 0) (hN : x.toNatClampNeg = N) (hb : N * 1 ≤ 536870912) (hR : k + 1 ≤ rm.cells ∧ n + N ≤ rm.slots) (hk : k + 1 = k') (hn : n + N = n') (hd : decode cc pc = .ok (.newarray .boolean, 2)) (kk : At_ v g nL (h_new h 8 N) M k' n' (pc + 2) lv (v_R (some (h_z h)) :: st)) : At_ v g nL h M k n pc lv (v_I x :: st) := fun H locs ls w hl => by
  subst hk
  subst hn
  refine va_newaK (atype := .boolean) X.1 X.2.1 (X.2.2.2.2.1 _ arc_Jvm_ClassFile_FieldType_boolean) rfl hd rfl hx hN hb (by rw [X.2.2.2.2.2.2.2.1]; exact hR.1) (by rw [X.2.2.2.2.2.2.2.1]; exact hR.2) w.1 fun H1 cA e1 z1 o1 hAr hNm => ?_
  have hA : cA = g.2.1 2 := Option.some.inj (hNm.symm.trans (X.2.2.2.2.2.1.2 2 _ rfl).2)
  subst hA
  refine kk H1 locs ls (wd_push w rfl ?_ z1 o1 (fun c hc => new_o hc) (new_0 w)) hl
  rw [cell_Z new_k]
  show H1[_]? = some (vp_cell _ _)
  rw [e1, vp_cell_i, show h_I (h_new h 8 N) (h_z h) = fun _ => 0 from va_up_self _ _ _, show h_n (h_new h 8 N) (h_z h) = N from va_up_self _ _ _]
  rfl
theorem a_newJ (X : Cx_ v g cc nL own nm rt rm) {x : Int32} {N : Nat} (hx : ¬ x < 0) (hN : x.toNatClampNeg = N) (hb : N * 8 ≤ 536870912) (hR : k + 1 ≤ rm.cells ∧ n + N ≤ rm.slots) (hk : k + 1 = k') (hn : n + N = n') (hd : decode cc pc = .ok (.newarray .long, 2)) (kk : At_ v g nL (h_new h 7 N) M k' n' (pc + 2) lv (v_R (some (h_z h)) :: st)) : At_ v g nL h M k n pc lv (v_I x :: st) := fun H locs ls w hl => by
  subst hk
  subst hn
  refine va_newaK (atype := .long) X.1 X.2.1 (X.2.2.2.2.1 _ arc_Jvm_ClassFile_FieldType_long) rfl hd rfl hx hN hb (by rw [X.2.2.2.2.2.2.2.1]; exact hR.1) (by rw [X.2.2.2.2.2.2.2.1]; exact hR.2) w.1 fun H1 cA e1 z1 o1 hAr hNm => ?_
  have hA : cA = g.2.1 1 := Option.some.inj (hNm.symm.trans (X.2.2.2.2.2.1.2 1 _ rfl).2)
  subst hA
  refine kk H1 locs ls (wd_push w rfl ?_ z1 o1 (fun c hc => new_o hc) (new_0 w)) hl
  rw [cell_J new_k]
  show H1[_]? = some (vp_cell _ _)
  rw [e1, vp_cell_l, show h_J (h_new h 7 N) (h_z h) = fun _ => 0 from va_up_self _ _ _, show h_n (h_new h 7 N) (h_z h) = N from va_up_self _ _ _]
  rfl
theorem a_newR (X : Cx_ v g cc nL own nm rt rm) (t : Nat) {C : String} {ix cap : Nat} {x : Int32} (ht : 3 ≤ t) (hC : (tys_ g.2.1)[t]? = some (g.2.1 t, .object C)) (hcl : Cond.classLink own ix C ∈ lw_g) (hao : va_AO C (e_s v)) (hx : in_b x (cap + 1) = true) (hcap : cap * 4 ≤ 536870912) (hR : k + 1 ≤ rm.cells ∧ n + cap ≤ rm.slots) (hk : k + 1 = k') (hn : n + cap = n') (hd : decode cc pc = .ok (.anewarray ix, 3)) (kk : At_ v g nL (h_new h (t + 6) x.toNatClampNeg) M k' n' (pc + 3) lv (v_R (some (h_z h)) :: st)) : At_ v g nL h M k n pc lv (v_I x :: st) := fun H locs ls w hl => by
  subst hk
  subst hn
  have hb := in_b_in hx
  have hlt : x.toNatClampNeg < cap + 1 := Nat.not_le.mp fun q => hb (Or.inr q)
  refine W.anew X.1 X.2.1 X.2.2.2.1 (X.2.2.2.2.1 _ hcl) (va_AO.use hao) rfl hd rfl (fun q => hb (Or.inl q)) (by omega) (by rw [X.2.2.2.2.2.2.2.1]; exact hR.1) (by rw [X.2.2.2.2.2.2.2.1]; omega) fun cA kA comp f1 f2 f3 f4 => ?_
  obtain ⟨kA', comp', -, -, -, f5⟩ := (X.2.2.2.2.2.1.2 t _ hC).2
  have hA : cA = g.2.1 t := Option.some.inj (f1.symm.trans f5)
  subst hA
  generalize hH1 : H.push ({ cls := g.2.1 t, slots := Array.replicate x.toNatClampNeg .null, vm := .none } : Cell) = H1
  have z1 : H1.size = H.size + 1 := by rw [← hH1, Array.size_push]
  have e1 : H1[H.size]? = some (arrV (g.2.1 t) x.toNatClampNeg (fun _ => .null)) := by rw [← hH1, Array.getElem?_push_size, ← arrV_new]
  have o1 : ∀ q : Nat, q < H.size → H1[q]? = H[q]? := fun q hq => by rw [← hH1, Array.getElem?_push, if_neg (Nat.ne_of_lt hq)]
  rw [w.1] at z1 e1 o1 ⊢
  refine W.widen (Nat.le_refl _) (show n + x.toNatClampNeg ≤ n + cap by omega) ?_
  refine kk H1 locs ls (wd_push w rfl ?_ z1 o1 (fun c hc => new_o hc) (new_0 w)) hl
  rw [cell_R (t := t) new_k ht]
  show H1[_]? = some (vp_cell _ _)
  rw [e1, vp_cell_q, show h_R (h_new h (t + 6) x.toNatClampNeg) (h_z h) = fun _ => none from va_up_self _ _ _, show h_n (h_new h (t + 6) x.toNatClampNeg) (h_z h) = x.toNatClampNeg from va_up_self _ _ _]
  rfl
/-! calls -/
theorem a_run {r : Option Vlx} {mc ms : Nat} {a : Array Value} {st0 : List Value} {ls : Array Slot} (hr : va_Run (e_p v) (e_l v) (e_e v) (e_R v) (e_s v) (e_m v) (e_a v) (e_b v) (e_M v) (e_c v) H locs k n mc ms (F0 (e_m v) pc ls st0) (st.map (to_V g.2.2)) (Qr_ g r h' M' a) (fun q => g.2.2 ≤ q)) (w : Wd_ v g h M H locs) (hl : lv_has ls nL (lv_m g.2.2 lv)) (hst : r.toList ++ st = st') (kk : At_ v g nL h' M' (k + mc) (n + ms) (pc + 3) lv st') : W_ v H locs k n (F0 (e_m v) pc ls st0) := by
  intro T hT XX
  obtain ⟨vv, st₀, t, T', L, h0, X', hL, e1, e2, ⟨ho, hw, hz, hk⟩, step⟩ := hr T hT XX
  have hv : vv = r.map (to_V g.2.2) := by injection ho
  subst hv
  subst hst
  rw [h0] at hz hk
  have hs : va_S (fun q => g.2.2 ≤ q) (e_s v).heap T'.heap (locs ++ L) := ⟨Nat.le_trans w.2.2.1.1 (by rw [e1]; exact hz), fun q h1 h2 => by rw [e1, hk q (Nat.lt_of_lt_of_le h1 w.2.2.1.1) h2]; exact w.2.2.1.2.1 q h1 h2, fun q hq => by
    rcases List.mem_append.mp hq with h | h
    · exact w.2.2.1.2.2 q h
    · exact hL q h⟩
  obtain ⟨t2, a1, b1⟩ := kk T'.heap (locs ++ L) ls ⟨by rw [e1]; exact hw.1, by rw [e1]; exact hw.2.1, hs, hw.2.2.2.2⟩ hl T' rfl X'
  refine ⟨t2, step t2 ?_, b1⟩
  cases r with
  | none => exact a1
  | some y => exact a1
theorem a_callV (X : Cx_ v g cc nL own nm rt rm) {y : MethodName} {cc' : ByteArray} {nL' b ci ix : Nat} {rt' : Option FieldType} {rm' : Room} {As : List Vlx} {r : Option Vlx} {x : Option Nat} (hM : Mt_ (e_l v) g y cc' nL' rt' rm' (v_R (some b) :: As) h M r h' M') (Y : Yv_ y cc' nL' rt' As.length ci) (hlk : Cond.methodLink own ix y ∈ lw_g) (hx : x = some b) (hrc : h_k h b = ci + 1 ∨ (b = 5 ∧ ci = 4 ∧ h_k h 5 = 0 ∧ 5 < h_z h)) (hR : rm'.frames + 1 ≤ rm.frames ∧ 8 + (nL' + 11) + rm'.locals ≤ rm.locals ∧ k + rm'.cells ≤ rm.cells ∧ n + rm'.slots ≤ rm.slots ∧ st_w st ≤ 8) (hk : k + rm'.cells = k') (hn : n + rm'.slots = n') (hd : decode cc pc = .ok (.invokevirtual ix, 3)) (hs : As.reverse ++ v_R x :: st = st0) (hst : r.toList ++ st = st') (kk : At_ v g nL h' M' k' n' (pc + 3) lv st') : At_ v g nL h M k n pc lv st0 := fun H locs ls w hl => by
  subst hx
  subst hk
  subst hn
  subst hs
  obtain ⟨y1, y2, y3, y4, y5, y6, y7⟩ := Y
  have hts := X.2.2.2.2.1
  have hR0 := X.2.2.2.2.2.2.2.1
  have hrv : ∃ cell : Cell, H[g.2.2 + b]? = some cell ∧ cell.vm.isStatics = false ∧ (e_s v).vm.findClass (f_C ci) = some cell.cls := by
    rcases hrc with hrc | ⟨rfl, rfl, hrc, hz⟩
    · exact va_recv X.2.2.2.2.2.1 w.2.1 (cls_at ci y2) (ws_get (in_z w hrc) (cell_obj hrc y2))
    · refine va_recv X.2.2.2.2.2.1 w.2.1 (cls_at 4 y2) (ws_get (x := .inr (4, (List.range 42).map (m_val g.2.2 M))) hz ?_)
      unfold cell_ cell_m
      rw [if_pos hrc, if_pos rfl]
  have e0 : (As.reverse ++ v_R (some b) :: st).map (to_V g.2.2) = (As.map (to_V g.2.2)).reverse ++ Value.ref (g.2.2 + b) :: st.map (to_V g.2.2) := by
    rw [List.map_append, List.map_reverse]
    rfl
  rw [e0]
  refine a_run (va_runV (As := As.map (to_V g.2.2)) (n := As.length) (C := f_C ci) ⟨X.1, X.2.1, X.2.2.1, X.2.2.2.1, hts⟩ hM ⟨callB_of As.length hts (good_ y4) rfl rfl rfl (hts _ y7) (hts _ hlk) y3 (by rw [hR0]; exact ⟨hR.1, hR.2.1⟩), hts _ y5, hts _ y6⟩ ⟨blind_, hrv, fun U hU hW => ⟨rfl, wl_of X w hU hW.alike⟩⟩ rfl (by simp) hl.1 rfl (lv_room (by rw [st_w_eq]; exact hR.2.2.2.2)) hd (by rw [hR0]; exact ⟨hR.2.2.1, hR.2.2.2.1⟩)) w hl hst kk
theorem a_callI (X : Cx_ v g cc nL own nm rt rm) {y : MethodName} {cc' : ByteArray} {nL' b ix : Nat} {rm' : Room} {As : List Vlx} {x : Option Nat} (hM : Mt_ (e_l v) g y cc' nL' none rm' (v_R (some b) :: As) h M none h' M') (Y : Yi_ y cc' nL' As.length) (hlk : Cond.methodLink own ix y ∈ lw_g) (hx : x = some b) (hR : rm'.frames + 1 ≤ rm.frames ∧ 8 + (nL' + 11) + rm'.locals ≤ rm.locals ∧ k + rm'.cells ≤ rm.cells ∧ n + rm'.slots ≤ rm.slots ∧ st_w st ≤ 8) (hk : k + rm'.cells = k') (hn : n + rm'.slots = n') (hd : decode cc pc = .ok (.invokespecial ix, 3)) (hs : As.reverse ++ v_R x :: st = st0) (kk : At_ v g nL h' M' k' n' (pc + 3) lv st) : At_ v g nL h M k n pc lv st0 := fun H locs ls w hl => by
  subst hx
  subst hk
  subst hn
  subst hs
  obtain ⟨y1, y3, y4, y5, y7⟩ := Y
  have hts := X.2.2.2.2.1
  have hR0 := X.2.2.2.2.2.2.2.1
  have e0 : (As.reverse ++ v_R (some b) :: st).map (to_V g.2.2) = (As.map (to_V g.2.2)).reverse ++ Value.ref (g.2.2 + b) :: st.map (to_V g.2.2) := by
    rw [List.map_append, List.map_reverse]
    rfl
  rw [e0]
  exact a_run (va_runI (As := As.map (to_V g.2.2)) (n := As.length) ⟨X.1, X.2.1, X.2.2.1, X.2.2.2.1, hts⟩ hM ⟨callB_of As.length hts (good_ y4) rfl rfl rfl (hts _ y7) (hts _ hlk) y3 (by rw [hR0]; exact ⟨hR.1, hR.2.1⟩), y1, hts _ y5⟩ ⟨blind_, fun U hU hW => ⟨rfl, wl_of X w hU hW.alike⟩⟩ rfl (by simp) hl.1 rfl (lv_room (by rw [st_w_eq]; exact hR.2.2.2.2)) hd (by rw [hR0]; exact ⟨hR.2.2.1, hR.2.2.2.1⟩)) w hl rfl kk
theorem a_callS (X : Cx_ v g cc nL own nm rt rm) {y : MethodName} {cc' : ByteArray} {nL' ix : Nat} {rt' : Option FieldType} {rm' : Room} {As : List Vlx} {r : Option Vlx} (hM : Mt_ (e_l v) g y cc' nL' rt' rm' As h M r h' M') (Y : Ys_ y cc' nL' rt' As.length) (hlk : Cond.methodLink own ix y ∈ lw_g) (hR : rm'.frames + 1 ≤ rm.frames ∧ 8 + (nL' + 11) + rm'.locals ≤ rm.locals ∧ k + rm'.cells ≤ rm.cells ∧ n + rm'.slots ≤ rm.slots ∧ st_w st ≤ 8) (hk : k + rm'.cells = k') (hn : n + rm'.slots = n') (hd : decode cc pc = .ok (.invokestatic ix, 3)) (hs : As.reverse ++ st = st0) (hst : r.toList ++ st = st') (kk : At_ v g nL h' M' k' n' (pc + 3) lv st') : At_ v g nL h M k n pc lv st0 := fun H locs ls w hl => by
  subst hk
  subst hn
  subst hs
  obtain ⟨y3, y4, y5, y7⟩ := Y
  have hts := X.2.2.2.2.1
  have hR0 := X.2.2.2.2.2.2.2.1
  have e0 : (As.reverse ++ st).map (to_V g.2.2) = (As.map (to_V g.2.2)).reverse ++ st.map (to_V g.2.2) := by
    rw [List.map_append, List.map_reverse]
  rw [e0]
  exact a_run (va_runS (As := As.map (to_V g.2.2)) (n := As.length) ⟨X.1, X.2.1, X.2.2.1, X.2.2.2.1, hts⟩ hM ⟨callB_of As.length hts (good_ y4) rfl rfl rfl (hts _ y7) (hts _ hlk) y3 (by rw [hR0]; exact ⟨hR.1, hR.2.1⟩), hts _ y5⟩ ⟨blind_, fun U hU hW => ⟨rfl, wl_of X w hU hW.alike⟩⟩ rfl (by simp) hl.1 rfl (lv_room (by rw [st_w_eq]; exact hR.2.2.2.2)) hd (by rw [hR0]; exact ⟨hR.2.2.1, hR.2.2.2.1⟩)) w hl hst kk
/-! ends -/
theorem a_iret (X : Cx_ v g cc nL own nm (some .int) rm) {x y : Int32} (hF : Fi_ v g rm (some (v_I y)) h' M') (hh : h = h' ∧ M = M' ∧ x = y) (hkn : k ≤ rm.cells ∧ n ≤ rm.slots) (hd : decode cc pc = .ok (.ireturn, 1)) : At_ v g nL h M k n pc lv [v_I x] := fun H locs ls w hl => by
  obtain ⟨rfl, rfl, rfl⟩ := hh
  refine W.widen hkn.1 hkn.2 ?_
  rw [hF]
  exact W.iret X.1 X.2.1 X.2.2.2.2.2.2.2.2.1 (fun t ht hW => ⟨rfl, wl_of X w ht hW.alike, w.2.2.1.F ht⟩) w.2.2.1.2.2 hd X.2.2.2.2.2.2.2.2.2.1
theorem a_zret (X : Cx_ v g cc nL own nm (some .boolean) rm) {x y : Int32} (hF : Fi_ v g rm (some (v_I y)) h' M') (hb : x = 0 ∨ x = 1) (hh : h = h' ∧ M = M' ∧ x = y) (hkn : k ≤ rm.cells ∧ n ≤ rm.slots) (hd : decode cc pc = .ok (.ireturn, 1)) : At_ v g nL h M k n pc lv [v_I x] := fun H locs ls w hl => by
  obtain ⟨rfl, rfl, rfl⟩ := hh
  refine W.widen hkn.1 hkn.2 ?_
  rw [hF]
  exact W.zret X.1 X.2.1 X.2.2.2.2.2.2.2.2.1 (by rcases hb with rfl | rfl <;> rfl) (fun t ht hW => ⟨rfl, wl_of X w ht hW.alike, w.2.2.1.F ht⟩) w.2.2.1.2.2 hd X.2.2.2.2.2.2.2.2.2.1
theorem a_lret (X : Cx_ v g cc nL own nm (some .long) rm) {x y : Int64} (hF : Fi_ v g rm (some (v_J y)) h' M') (hh : h = h' ∧ M = M' ∧ x = y) (hkn : k ≤ rm.cells ∧ n ≤ rm.slots) (hd : decode cc pc = .ok (.lreturn, 1)) : At_ v g nL h M k n pc lv [v_J x] := fun H locs ls w hl => by
  obtain ⟨rfl, rfl, rfl⟩ := hh
  refine W.widen hkn.1 hkn.2 ?_
  rw [hF]
  exact W.lret X.1 X.2.1 X.2.2.2.2.2.2.2.2.1 (fun t ht hW => ⟨rfl, wl_of X w ht hW.alike, w.2.2.1.F ht⟩) w.2.2.1.2.2 hd X.2.2.2.2.2.2.2.2.2.1
theorem a_aret (C : String) (X : Cx_ v g cc nL own nm (some (.object C)) rm) {x y : Option Nat} (hF : Fi_ v g rm (some (v_R y)) h' M') (hh : h = h' ∧ M = M' ∧ x = y) (hkn : k ≤ rm.cells ∧ n ≤ rm.slots) (hd : decode cc pc = .ok (.areturn, 1)) : At_ v g nL h M k n pc lv [v_R x] := fun H locs ls w hl => by
  obtain ⟨rfl, rfl, rfl⟩ := hh
  refine W.widen hkn.1 hkn.2 ?_
  rw [hF]
  exact W.aret X.1 X.2.1 X.2.2.2.2.2.2.2.2.1 (Or.inl ⟨C, rfl⟩) (va_rf_or _) (fun t ht hW => ⟨rfl, wl_of X w ht hW.alike, w.2.2.1.F ht⟩) w.2.2.1.2.2 hd X.2.2.2.2.2.2.2.2.2.1
theorem a_vret (X : Cx_ v g cc nL own nm none rm) (hF : Fi_ v g rm none h' M') (hh : h = h' ∧ M = M') (hkn : k ≤ rm.cells ∧ n ≤ rm.slots) (hd : decode cc pc = .ok (.return_, 1)) : At_ v g nL h M k n pc lv [] := fun H locs ls w hl => by
  obtain ⟨rfl, rfl⟩ := hh
  refine W.widen hkn.1 hkn.2 ?_
  rw [hF]
  exact W.vret X.1 X.2.1 X.2.2.2.2.2.2.2.2.1 (fun t ht hW => ⟨rfl, wl_of X w ht hW.alike, w.2.2.1.F ht⟩) w.2.2.1.2.2 hd X.2.2.2.2.2.2.2.2.2.1
/-- a contract out of a walk of the body -/
theorem mt_of {l : Launch} {y : MethodName} {As : List Vlx} {r : Option Vlx} (hy : plainName y.cls = true) (hs : st_w As ≤ nL) (body : ∀ v : Evx, e_l v = l → Cx_ v g cc nL y.cls y.name rt rm → Fi_ v g rm r h' M' → At_ v g nL h M 0 0 0 (lv_a 0 As) []) : Mt_ l g y cc nL rt rm As h M r h' M' := by
  refine Met.ofW (cc := cc) (maxL := nL) (ret := rt) hy rfl ?_
  intro p e s m args below meth c s₁ B hml hv
  obtain ⟨rfl, h1, h2, h3, h4, h5⟩ := hv
  have hts := atoms_spec (ws := .code y cc nL rt :: lw_g) B.pre
  have hle := lv_entry (As.map (to_V g.2.2)) (n := nL) (by rw [lg_len]; exact hs)
  rw [lv_a_eq] at hle
  rw [lg_entry_eq]
  exact body (p, l, e, rm, s, m, (As.map (to_V g.2.2)).toArray, below, meth, c, MQ below (Qr_ g r h' M') (As.map (to_V g.2.2)).toArray s rm.cells rm.slots (fun q => g.2.2 ≤ q)) rfl ⟨B.exec, B.bytes, hml, findClass_of_methodNamed B.named, fun w hw => hts w (List.mem_cons_of_mem _ hw), h3, by rw [h1]; exact Nat.le_add_right _ _, rfl, B.returns, B.notSynchronized, (name_of_methodNamed B.named B.method).1, h4⟩ rfl s.heap [] _ ⟨h1, h2, va_S.rf, h5⟩ hle
end RW3
