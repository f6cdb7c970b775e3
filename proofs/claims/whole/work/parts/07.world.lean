/-! the class side's heap: kinds, lengths, size, ints, longs, references; the reference's state: its arrays by field -/
abbrev Hpx : Type := (Nat → Nat) × (Nat → Nat) × Nat × (Nat → Nat → Int32) × (Nat → Nat → Int64) × (Nat → Nat → Option Nat)
abbrev Msx : Type := (Nat → Nat → Int32) × (Nat → Nat → Int64)
abbrev Vlx : Type := Int32 ⊕ Int64 ⊕ Option Nat ⊕ Nat
abbrev v_I (x : Int32) : Vlx := .inl x
abbrev v_J (x : Int64) : Vlx := .inr (.inl x)
abbrev v_R (x : Option Nat) : Vlx := .inr (.inr (.inl x))
abbrev v_X (x : Nat) : Vlx := .inr (.inr (.inr x))
def to_V (b : Nat) : Vlx → Value
  | .inl x => .int x
  | .inr (.inl x) => .long x
  | .inr (.inr (.inl r)) => va_rf (r.map (b + ·))
  | .inr (.inr (.inr a)) => .ref a
def is_L : Vlx → Bool
  | .inr (.inl _) => true
  | _ => false
theorem to_V_cat (b : Nat) (x : Vlx) : (to_V b x).category = if is_L x then 2 else 1 := by
  rcases x with x | x | x | x
  · rfl
  · rfl
  · cases x <;> rfl
  · rfl
def h_k (h : Hpx) : Nat → Nat := h.1
def h_n (h : Hpx) : Nat → Nat := h.2.1
def h_z (h : Hpx) : Nat := h.2.2.1
def h_I (h : Hpx) : Nat → Nat → Int32 := h.2.2.2.1
def h_J (h : Hpx) : Nat → Nat → Int64 := h.2.2.2.2.1
def h_R (h : Hpx) : Nat → Nat → Option Nat := h.2.2.2.2.2
def s_I (h : Hpx) (a k : Nat) (x : Int32) : Hpx := (h_k h, h_n h, h_z h, va_up (h_I h) a (va_up (h_I h a) k x), h_J h, h_R h)
def s_J (h : Hpx) (a k : Nat) (x : Int64) : Hpx := (h_k h, h_n h, h_z h, h_I h, va_up (h_J h) a (va_up (h_J h a) k x), h_R h)
def s_R (h : Hpx) (a k : Nat) (x : Option Nat) : Hpx := (h_k h, h_n h, h_z h, h_I h, h_J h, va_up (h_R h) a (va_up (h_R h a) k x))
/-- longs of a from place sp on come to b from dp on, n of them -/
def c_J (h : Hpx) (a b sp dp n : Nat) : Hpx := (h_k h, h_n h, h_z h, h_I h, va_up (h_J h) b (va_cpy (h_J h a) (h_J h b) sp dp n), h_R h)
/-- a new cell of kind kd and length n -/
def h_new (h : Hpx) (kd n : Nat) : Hpx := (va_up (h_k h) (h_z h) kd, va_up (h_n h) (h_z h) n, h_z h + 1, va_up (h_I h) (h_z h) (fun _ => 0), va_up (h_J h) (h_z h) (fun _ => 0), va_up (h_R h) (h_z h) (fun _ => none))
def m_I (M : Msx) : Nat → Nat → Int32 := M.1
def m_J (M : Msx) : Nat → Nat → Int64 := M.2
def n_I (M : Msx) (k i : Nat) (x : Int32) : Msx := (va_up (m_I M) k (va_up (m_I M k) i x), m_J M)
def n_J (M : Msx) (k i : Nat) (x : Int64) : Msx := (m_I M, va_up (m_J M) k (va_up (m_J M k) i x))
def in_b (i : Int32) (n : Nat) : Bool := decide (0 ≤ i.toInt) && decide (i.toInt < n)
theorem in_b_in {i : Int32} {n : Nat} (h : in_b i n = true) : vp_in i n := by
  rw [vp_in_iff]
  simpa [in_b] using h
/-! tables of fields: 0 an int (or boolean), 1 a long, 2 a reference -/
def f_ty (ci k : Nat) : Nat := match ci with
  | 0 => (match k with | 0 => 2 | 3 => 1 | _ => 0)
  | 1 => (match k with | 1 => 2 | 2 => 2 | 3 => 2 | 4 => 2 | 5 => 2 | 6 => 2 | _ => 0)
  | 2 => (match k with | 2 => 2 | 4 => 1 | _ => 0)
  | 3 => (match k with | 0 => 2 | 1 => 2 | 2 => 2 | 3 => 2 | _ => 0)
  | _ => (match k with | 0 => 0 | 10 => 0 | 34 => 0 | 35 => 0 | 36 => 0 | 37 => 0 | 40 => 0 | _ => 2)
def f_N (ci : Nat) : Nat := match ci with
  | 0 => 7 | 1 => 15 | 2 => 7 | 3 => 12 | _ => 42
def f_C (ci : Nat) : String := match ci with
  | 0 => RX0 | 1 => RX1 | 2 => RX2 | 3 => RX3 | _ => RX4
def f_T (ci : Nat) : u_T := match ci with
  | 0 => TX0 | 1 => TX1 | 2 => TX2 | 3 => TX3 | _ => TX4
def f_t (ci : Nat) : Nat → FieldType := match ci with
  | 0 => tyX0 | 1 => tyX1 | 2 => tyX2 | 3 => tyX3 | _ => tyX4
abbrev cls_ : List vw_C := [(RX0, TX0, 7), (RX1, TX1, 15), (RX2, TX2, 7), (RX3, TX3, 12), (RX4, TX4, 42)]
theorem cls_at : ∀ ci, ci < 5 → cls_[ci]? = some (f_C ci, f_T ci, f_N ci)
  | 0, _ => rfl
  | 1, _ => rfl
  | 2, _ => rfl
  | 3, _ => rfl
  | 4, _ => rfl
  | n + 5, h => absurd h (by omega)
theorem cls_in : ∀ ci, ci < 5 → ∀ w ∈ u_ws (f_C ci) (f_T ci) (f_N ci), w ∈ lw_g
  | 0, _ => iX0
  | 1, _ => iX1
  | 2, _ => iX2
  | 3, _ => iX3
  | 4, _ => iX4
  | n + 5, h => absurd h (by omega)
theorem cls_ty : ∀ ci, ci < 5 → ∀ k, k < f_N ci → parseFieldDescriptor (f_T ci k).2.2.1 = some (f_t ci k)
  | 0, _ => tyX0_ok
  | 1, _ => tyX1_ok
  | 2, _ => tyX2_ok
  | 3, _ => tyX3_ok
  | 4, _ => tyX4_ok
  | n + 5, h => absurd h (by omega)
theorem cls_nm : ∀ ci, ci < 5 → ∀ a, a < f_N ci → ∀ b, b < f_N ci → a ≠ b → (f_T ci a).2.1 ≠ (f_T ci b).2.1
  | 0, _ => nmX0
  | 1, _ => nmX1
  | 2, _ => nmX2
  | 3, _ => nmX3
  | 4, _ => nmX4
  | n + 5, h => absurd h (by omega)
theorem cls_df : ∀ ci, ci < 5 → ∀ k, k < f_N ci → defaultValue (f_t ci k) = (if f_ty ci k = 0 then .int 0 else if f_ty ci k = 1 then .long 0 else .null) := by decide +kernel
/-! the reference's arrays -/
def m_at (k : Nat) : Nat := match k with
  | 1 => 6
  | 2 => 7
  | 3 => 8
  | 4 => 9
  | 5 => 10
  | 6 => 11
  | 7 => 12
  | 8 => 13
  | 9 => 14
  | 11 => 15
  | 12 => 16
  | 13 => 17
  | 14 => 18
  | 15 => 19
  | 16 => 20
  | 17 => 21
  | 18 => 22
  | 19 => 23
  | 20 => 24
  | 21 => 25
  | 22 => 26
  | 23 => 27
  | 24 => 28
  | 25 => 29
  | 26 => 30
  | 27 => 31
  | 28 => 32
  | 29 => 33
  | 30 => 34
  | 31 => 35
  | 32 => 36
  | 33 => 37
  | 38 => 38
  | 39 => 39
  | 41 => 40
  | _ => 0
def m_fd (a : Nat) : Nat := match a with
  | 6 => 1
  | 7 => 2
  | 8 => 3
  | 9 => 4
  | 10 => 5
  | 11 => 6
  | 12 => 7
  | 13 => 8
  | 14 => 9
  | 15 => 11
  | 16 => 12
  | 17 => 13
  | 18 => 14
  | 19 => 15
  | 20 => 16
  | 21 => 17
  | 22 => 18
  | 23 => 19
  | 24 => 20
  | 25 => 21
  | 26 => 22
  | 27 => 23
  | 28 => 24
  | 29 => 25
  | 30 => 26
  | 31 => 27
  | 32 => 28
  | 33 => 29
  | 34 => 30
  | 35 => 31
  | 36 => 32
  | 37 => 33
  | 38 => 38
  | 39 => 39
  | 40 => 41
  | _ => 99
def m_len (k : Nat) : Nat := match k with
  | 1 => 8
  | 2 => 8
  | 3 => 8
  | 4 => 8
  | 5 => 512
  | 6 => 512
  | 7 => 512
  | 8 => 512
  | 9 => 4096
  | 11 => 16
  | 12 => 64
  | 13 => 64
  | 14 => 16
  | 15 => 64
  | 16 => 16
  | 17 => 16
  | 18 => 16
  | 19 => 16
  | 20 => 16
  | 21 => 16
  | 22 => 16
  | 23 => 16
  | 24 => 16
  | 25 => 16
  | 26 => 16
  | 27 => 128
  | 28 => 16
  | 29 => 512
  | 30 => 512
  | 31 => 512
  | 32 => 512
  | 33 => 4096
  | 38 => 7
  | 39 => 20
  | 41 => 16
  | _ => 0
def m_kd (k : Nat) : Nat := match k with
  | 1 => 0
  | 2 => 0
  | 3 => 0
  | 4 => 1
  | 5 => 2
  | 6 => 1
  | 7 => 0
  | 8 => 0
  | 9 => 1
  | 11 => 0
  | 12 => 0
  | 13 => 0
  | 14 => 0
  | 15 => 0
  | 16 => 0
  | 17 => 0
  | 18 => 0
  | 19 => 0
  | 20 => 0
  | 21 => 0
  | 22 => 0
  | 23 => 0
  | 24 => 1
  | 25 => 0
  | 26 => 0
  | 27 => 1
  | 28 => 0
  | 29 => 0
  | 30 => 1
  | 31 => 0
  | 32 => 0
  | 33 => 1
  | 38 => 0
  | 39 => 0
  | 41 => 2
  | _ => 0
def f_val (b : Nat) (h : Hpx) (ci a k : Nat) : Value := if f_ty ci k = 0 then .int (h_I h a k) else if f_ty ci k = 1 then .long (h_J h a k) else va_rf ((h_R h a k).map (b + ·))
def f_fs (b : Nat) (h : Hpx) (ci a : Nat) : List Value := (List.range (f_N ci)).map (f_val b h ci a)
def m_val (b : Nat) (M : Msx) (k : Nat) : Value := if f_ty 4 k = 0 then .int (m_I M k 0) else .ref (b + m_at k)
def cell_m (b : Nat) (ac : Nat → ClassId) (M : Msx) (a : Nat) : va_E :=
  if a = 5 then .inr (4, (List.range 42).map (m_val b M))
  else if m_kd (m_fd a) = 1 then .inl (ac 1, m_len (m_fd a), .inr (.inl (m_J M (m_fd a))))
  else .inl (ac (m_kd (m_fd a)), m_len (m_fd a), .inl (m_I M (m_fd a)))
def cell_ (b : Nat) (ac : Nat → ClassId) (h : Hpx) (M : Msx) (a : Nat) : va_E :=
  if h_k h a = 0 then cell_m b ac M a
  else if h_k h a ≤ 5 then .inr (h_k h a - 1, f_fs b h (h_k h a - 1) a)
  else if h_k h a = 7 then .inl (ac 1, h_n h a, .inr (.inl (h_J h a)))
  else if h_k h a ≤ 8 then .inl (ac (h_k h a - 6), h_n h a, .inl (h_I h a))
  else .inl (ac (h_k h a - 6), h_n h a, .inr (.inr (.inr (.inr (fun i => (h_R h a i).map (b + ·))))))
theorem cell_obj {b : Nat} {ac : Nat → ClassId} {h : Hpx} {M : Msx} {a ci : Nat} (hk : h_k h a = ci + 1) (hc : ci < 5) : cell_ b ac h M a = .inr (ci, f_fs b h ci a) := by
  unfold cell_
  rw [if_neg (by omega), if_pos (by omega), hk]
  rfl
theorem cell_J {b : Nat} {ac : Nat → ClassId} {h : Hpx} {M : Msx} {a : Nat} (hk : h_k h a = 7) : cell_ b ac h M a = .inl (ac 1, h_n h a, .inr (.inl (h_J h a))) := by
  unfold cell_
  rw [if_neg (by omega), if_neg (by omega), if_pos (by omega)]
theorem cell_I {b : Nat} {ac : Nat → ClassId} {h : Hpx} {M : Msx} {a : Nat} (hk : h_k h a = 6) : cell_ b ac h M a = .inl (ac 0, h_n h a, .inl (h_I h a)) := by
  unfold cell_
  rw [if_neg (by omega), if_neg (by omega), if_neg (by omega), if_pos (by omega), hk]
theorem cell_Z {b : Nat} {ac : Nat → ClassId} {h : Hpx} {M : Msx} {a : Nat} (hk : h_k h a = 8) : cell_ b ac h M a = .inl (ac 2, h_n h a, .inl (h_I h a)) := by
  unfold cell_
  rw [if_neg (by omega), if_neg (by omega), if_neg (by omega), if_pos (by omega), hk]
theorem cell_R {b : Nat} {ac : Nat → ClassId} {h : Hpx} {M : Msx} {a t : Nat} (hk : h_k h a = t + 6) (ht : 3 ≤ t) : cell_ b ac h M a = .inl (ac t, h_n h a, .inr (.inr (.inr (.inr (fun i => (h_R h a i).map (b + ·)))))) := by
  unfold cell_
  rw [if_neg (by omega), if_neg (by omega), if_neg (by omega), if_neg (by omega), hk]
  rfl
def ws_ (b : Nat) (ac : Nat → ClassId) (h : Hpx) (M : Msx) : va_W := (List.range (h_z h)).map (fun a => (b + a, cell_ b ac h M a))
theorem ws_get {b : Nat} {ac : Nat → ClassId} {h : Hpx} {M : Msx} {a : Nat} {x : va_E} (ha : a < h_z h) (hx : cell_ b ac h M a = x) : (ws_ b ac h M)[a]? = some (b + a, x) := by
  subst hx
  simp [ws_, ha]
theorem ws_some {b : Nat} {ac : Nat → ClassId} {h : Hpx} {M : Msx} {k : Nat} {q : Nat × va_E} (hq : (ws_ b ac h M)[k]? = some q) : k < h_z h ∧ q = (b + k, cell_ b ac h M k) := by
  by_cases hk : k < h_z h
  · rw [ws_get hk rfl] at hq
    exact ⟨hk, (Option.some.inj hq).symm⟩
  · simp [ws_, hk] at hq
theorem ws_D {b : Nat} {ac : Nat → ClassId} {h : Hpx} {M : Msx} : va_D (fun q => b ≤ q) (ws_ b ac h M) := by
  refine ⟨fun i j p q hp hq e => ?_, fun k q hq => ?_⟩
  · have h1 := (ws_some hp).2
    have h2 := (ws_some hq).2
    rw [h1, h2] at e
    have e : b + i = b + j := e
    omega
  · rw [(ws_some hq).2]
    exact Nat.le_add_right b k
theorem ws_set {b : Nat} {ac : Nat → ClassId} {h h' : Hpx} {M M' : Msx} {a : Nat} {x : va_E} (ha : a < h_z h) (hz : h_z h' = h_z h) (hx : cell_ b ac h' M' a = x) (ho : ∀ c, c ≠ a → cell_ b ac h' M' c = cell_ b ac h M c) : (ws_ b ac h M).set a (b + a, x) = ws_ b ac h' M' := by
  apply List.ext_getElem?
  intro i
  by_cases hi : i < h_z h
  · rw [ws_get (by rw [hz]; exact hi) rfl]
    by_cases e : i = a
    · subst e
      rw [List.getElem?_set_self (by simp [ws_, ha]), hx]
    · rw [List.getElem?_set_ne (fun q => e q.symm), ws_get hi rfl, ho i e]
  · rw [List.getElem?_eq_none (by simp [ws_]; omega), List.getElem?_eq_none (by simp [ws_, hz]; omega)]
theorem ws_push {b : Nat} {ac : Nat → ClassId} {h h' : Hpx} {M : Msx} {x : va_E} (hz : h_z h' = h_z h + 1) (hx : cell_ b ac h' M (h_z h) = x) (ho : ∀ c, c < h_z h → cell_ b ac h' M c = cell_ b ac h M c) : ws_ b ac h M ++ [(b + h_z h, x)] = ws_ b ac h' M := by
  apply List.ext_getElem?
  intro i
  by_cases hi : i < h_z h
  · rw [ws_get (by omega) rfl, List.getElem?_append_left (by simp [ws_, hi]), ws_get hi rfl, ho i hi]
  · rw [List.getElem?_append_right (by simp [ws_]; omega)]
    by_cases e : i = h_z h
    · subst e
      rw [ws_get (by omega) rfl, hx]
      simp [ws_]
    · rw [List.getElem?_eq_none (by simp [ws_]; omega), List.getElem?_eq_none (by simp [ws_, hz]; omega)]
/-! what a write leaves: other cells -/
theorem fs_same {b : Nat} {h h' : Hpx} {a : Nat} (e1 : h_I h' a = h_I h a) (e2 : h_J h' a = h_J h a) (e3 : h_R h' a = h_R h a) (ci : Nat) : f_fs b h' ci a = f_fs b h ci a := by
  unfold f_fs f_val
  rw [e1, e2, e3]
theorem cell_same {b : Nat} {ac : Nat → ClassId} {h h' : Hpx} {M : Msx} {a : Nat} (e0 : h_k h' a = h_k h a) (e4 : h_n h' a = h_n h a) (e1 : h_I h' a = h_I h a) (e2 : h_J h' a = h_J h a) (e3 : h_R h' a = h_R h a) : cell_ b ac h' M a = cell_ b ac h M a := by
  unfold cell_
  rw [e0, e4, e1, e2, e3, fs_same e1 e2 e3]
theorem s_I_o {h : Hpx} {a k c : Nat} {x : Int32} (e : c ≠ a) : h_I (s_I h a k x) c = h_I h c := va_up_ne _ _ e
theorem s_J_o {h : Hpx} {a k c : Nat} {x : Int64} (e : c ≠ a) : h_J (s_J h a k x) c = h_J h c := va_up_ne _ _ e
theorem s_R_o {h : Hpx} {a k c : Nat} {x : Option Nat} (e : c ≠ a) : h_R (s_R h a k x) c = h_R h c := va_up_ne _ _ e
theorem c_J_o {h : Hpx} {a b sp dp n c : Nat} (e : c ≠ b) : h_J (c_J h a b sp dp n) c = h_J h c := va_up_ne _ _ e
theorem map_set {α : Type} {n k : Nat} {f g : Nat → α} {x : α} (hk : k < n) (hx : g k = x) (ho : ∀ j, j < n → j ≠ k → g j = f j) : ((List.range n).map f).set k x = (List.range n).map g := by
  apply List.ext_getElem?
  intro i
  by_cases e : i = k
  · subst e
    rw [List.getElem?_set_self (by simp [hk])]
    simp [hk, hx]
  · rw [List.getElem?_set_ne (fun q => e q.symm)]
    by_cases hi : i < n
    · simp [hi, ho i hi e]
    · simp [hi]
