/-! new cells -/
theorem nw_z {h : Hpx} {k n : Nat} : h_z (h_new h k n) = h_z h + 1 := rfl
theorem nw_k {h : Hpx} {k n a : Nat} : h_k (h_new h k n) a = if a = h_z h then k else h_k h a := by
  show va_up (h_k h) (h_z h) k a = _
  by_cases e : a = h_z h
  · rw [if_pos e, e, va_up_self]
  · rw [if_neg e, va_up_ne _ _ e]
theorem nw_n {h : Hpx} {k n a : Nat} : h_n (h_new h k n) a = if a = h_z h then n else h_n h a := by
  show va_up (h_n h) (h_z h) n a = _
  by_cases e : a = h_z h
  · rw [if_pos e, e, va_up_self]
  · rw [if_neg e, va_up_ne _ _ e]
theorem nw_I {h : Hpx} {k n a p : Nat} : h_I (h_new h k n) a p = if a = h_z h then 0 else h_I h a p := by
  show va_up (h_I h) (h_z h) (fun _ => 0) a p = _
  by_cases e : a = h_z h
  · rw [if_pos e, e, va_up_self]
  · rw [if_neg e, va_up_ne _ _ e]
theorem nw_J {h : Hpx} {k n a p : Nat} : h_J (h_new h k n) a p = if a = h_z h then 0 else h_J h a p := by
  show va_up (h_J h) (h_z h) (fun _ => 0) a p = _
  by_cases e : a = h_z h
  · rw [if_pos e, e, va_up_self]
  · rw [if_neg e, va_up_ne _ _ e]
theorem nw_R {h : Hpx} {k n a p : Nat} : h_R (h_new h k n) a p = if a = h_z h then none else h_R h a p := by
  show va_up (h_R h) (h_z h) (fun _ => none) a p = _
  by_cases e : a = h_z h
  · rw [if_pos e, e, va_up_self]
  · rw [if_neg e, va_up_ne _ _ e]
theorem sI_at {h : Hpx} {a p b q : Nat} {x : Int32} : h_I (s_I h a p x) b q = if b = a ∧ q = p then x else h_I h b q := by
  split
  · next e => rw [e.1, e.2, sI_s]
  · next e => rw [sI_n e]
theorem ksR {h : Hpx} {a p : Nat} {x : Option Nat} : h_k (s_R h a p x) = h_k h := rfl
theorem nsR {h : Hpx} {a p : Nat} {x : Option Nat} : h_n (s_R h a p x) = h_n h := rfl
theorem zsR {h : Hpx} {a p : Nat} {x : Option Nat} : h_z (s_R h a p x) = h_z h := rfl
theorem IsR {h : Hpx} {a p : Nat} {x : Option Nat} : h_I (s_R h a p x) = h_I h := rfl
theorem JsR {h : Hpx} {a p : Nat} {x : Option Nat} : h_J (s_R h a p x) = h_J h := rfl
/-- cells below z stand -/
def Old_ (z : Nat) (h h' : Hpx) : Prop := ∀ a, a < z → h_k h' a = h_k h a ∧ h_n h' a = h_n h a ∧ (∀ p, h_I h' a p = h_I h a p) ∧ (∀ p, h_J h' a p = h_J h a p) ∧ ∀ p, h_R h' a p = h_R h a p
theorem Old_rf {z : Nat} {h : Hpx} : Old_ z h h := fun _ _ => ⟨rfl, rfl, fun _ => rfl, fun _ => rfl, fun _ => rfl⟩
theorem Old_tr {z z' : Nat} {h h1 h2 : Hpx} (a : Old_ z h h1) (b : Old_ z' h1 h2) (hz : z ≤ z') : Old_ z h h2 := fun c hc => by
  obtain ⟨a1, a2, a3, a4, a5⟩ := a c hc
  obtain ⟨b1, b2, b3, b4, b5⟩ := b c (by omega)
  exact ⟨b1.trans a1, b2.trans a2, fun p => (b3 p).trans (a3 p), fun p => (b4 p).trans (a4 p), fun p => (b5 p).trans (a5 p)⟩
theorem Old_new {h : Hpx} {k n : Nat} : Old_ (h_z h) h (h_new h k n) := fun a ha => by
  have e : a ≠ h_z h := by omega
  exact ⟨by rw [nw_k, if_neg e], by rw [nw_n, if_neg e], fun p => by rw [nw_I, if_neg e], fun p => by rw [nw_J, if_neg e], fun p => by rw [nw_R, if_neg e]⟩
theorem Old_sI {h : Hpx} {z a p : Nat} {x : Int32} (hz : z ≤ a) : Old_ z h (s_I h a p x) := fun b hb => ⟨rfl, rfl, fun q => by rw [sI_n (by omega)], fun _ => rfl, fun _ => rfl⟩
theorem Old_sR {h : Hpx} {z a p : Nat} {x : Option Nat} (hz : z ≤ a) : Old_ z h (s_R h a p x) := fun b hb => ⟨rfl, rfl, fun _ => rfl, fun _ => rfl, fun q => by rw [sR_at, if_neg (by omega)]⟩
/-- a new message -/
def Ms_ (h : Hpx) (a : Nat) : Prop := h_k h a = 1 ∧ h_R h a 0 = some (a + 1) ∧ h_k h (a + 1) = 7 ∧ h_n h (a + 1) = 8 ∧ (∀ p, h_I h a p = if p = 2 then -1 else 0) ∧ h_J h a 3 = 0 ∧ ∀ i, h_J h (a + 1) i = 0
theorem Ms_o {h h' : Hpx} {z a : Nat} (m : Ms_ h a) (o : Old_ z h h') (ha : a + 1 < z) : Ms_ h' a := by
  obtain ⟨m1, m2, m3, m4, m5, m6, m7⟩ := m
  obtain ⟨a1, a2, a3, a4, a5⟩ := o a (by omega)
  obtain ⟨b1, b2, b3, b4, b5⟩ := o (a + 1) (by omega)
  exact ⟨a1.trans m1, (a5 0).trans m2, b1.trans m3, b2.trans m4, fun p => (a3 p).trans (m5 p), (a4 3).trans m6, fun i => (b4 i).trans (m7 i)⟩
theorem Ms_R {h : Hpx} {a b p : Nat} {x : Option Nat} (m : Ms_ h a) (hb : a ≠ b) : Ms_ (s_R h b p x) a := by
  obtain ⟨m1, m2, m3, m4, m5, m6, m7⟩ := m
  exact ⟨m1, by rw [sR_at, if_neg (fun z => hb z.1)]; exact m2, m3, m4, m5, m6, m7⟩
theorem mk_msg (h : Hpx) : ∃ h', f_X0_init (h_new h 1 0) (h_z h) = some h' ∧ h_z h' = h_z h + 2 ∧ Old_ (h_z h) h h' ∧ Ms_ h' (h_z h) := by
  refine ⟨s_I (s_R (h_new (h_new h 1 0) 7 8) (h_z h) 0 (some (h_z h + 1))) (h_z h) 2 (-1), ?_, rfl, ?_, ?_⟩
  · unfold f_X0_init
    simp only [b_d_eq, nw_z]
    rw [if_pos]
    rw [nw_k, nw_z, if_neg (by omega), nw_k, if_pos rfl]
  · have o1 : Old_ (h_z h) h (h_new h 1 0) := Old_new
    have o2 : Old_ (h_z h + 1) (h_new h 1 0) (h_new (h_new h 1 0) 7 8) := Old_new (h := h_new h 1 0)
    exact Old_tr (Old_tr o1 o2 (by omega)) (Old_tr (Old_sR (z := h_z h) (Nat.le_refl _)) (Old_sI (Nat.le_refl _)) (Nat.le_refl _)) (Nat.le_refl _)
  · refine ⟨?_, ?_, ?_, ?_, fun p => ?_, ?_, fun i => ?_⟩
    · rw [ksI, ksR, nw_k, nw_z, if_neg (by omega), nw_k, if_pos rfl]
    · rw [RsI, sR_at, if_pos ⟨rfl, rfl⟩]
    · rw [ksI, ksR, nw_k, nw_z, if_pos rfl]
    · rw [nsI, nsR, nw_n, nw_z, if_pos rfl]
    · have e0 : h_I (s_R (h_new (h_new h 1 0) 7 8) (h_z h) 0 (some (h_z h + 1))) (h_z h) p = 0 := by
        rw [IsR, nw_I, nw_z, if_neg (by omega), nw_I, if_pos rfl]
      rw [sI_at, e0]
      by_cases e : p = 2
      · rw [if_pos ⟨rfl, e⟩, if_pos e]
      · rw [if_neg (fun z => e z.2), if_neg e]
    · rw [JsI, JsR, nw_J, nw_z, if_neg (by omega), nw_J, if_pos rfl]
    · rw [JsI, JsR, nw_J, nw_z, if_pos rfl]
/-- a row of messages: the first t are made -/
def Rw_ (z s t : Nat) (h : Hpx) : Prop := h_k h (z + 1) = 9 ∧ h_n h (z + 1) = s ∧ (∀ k, k < t → h_R h (z + 1) k = some (z + 2 + 2 * k)) ∧ (∀ k, k < t → Ms_ h (z + 2 + 2 * k)) ∧ h_z h = z + 2 + 2 * t
theorem Rw_s {z s t : Nat} {h h1 : Hpx} (R : Rw_ z s t h) (e : h_z h1 = h_z h + 2) (o : Old_ (h_z h) h h1) (m : Ms_ h1 (h_z h)) : Rw_ z s (t + 1) (s_R h1 (z + 1) t (some (h_z h))) := by
  obtain ⟨r1, r2, r3, r4, r5⟩ := R
  obtain ⟨o1, o2, o3, o4, o5⟩ := o (z + 1) (by omega)
  refine ⟨o1.trans r1, o2.trans r2, fun k hk => ?_, fun k hk => ?_, ?_⟩
  · rw [sR_at]
    by_cases c : k = t
    · rw [if_pos ⟨rfl, c⟩, c, r5]
    · rw [if_neg (fun z => c z.2), o5, r3 k (by omega)]
  · refine Ms_R ?_ (by omega)
    by_cases c : k = t
    · rw [c, ← r5]
      exact m
    · exact Ms_o (r4 k (by omega)) o (by omega)
  · rw [zsR, e, r5]
    omega
theorem ri_loop {z s : Nat} (hs : s ≤ 64) (h0 : Hpx) (k3 : h_k h0 z = 3) (r2 : h_R h0 z 2 = some (z + 1)) : ∀ (m t fuel : Nat) (h : Hpx), t + m = s → m < fuel → Rw_ z s t h → Old_ (z + 1) h0 h → ∃ h', l_X2_init_24 z fuel h (nI s) (nI t) = some h' ∧ Rw_ z s s h' ∧ Old_ (z + 1) h0 h' := by
  intro m
  induction m with
  | zero =>
    intro t fuel h ht hf R o
    obtain ⟨f, rfl⟩ : ∃ f, fuel = f + 1 := ⟨fuel - 1, by omega⟩
    rw [u_X2_init_24]
    unfold j_X2_init_24
    rw [if_pos (by rw [nI_leI (by omega) (by omega)]; omega)]
    refine ⟨h, rfl, ?_, o⟩
    rw [show s = t by omega] at R ⊢
    exact R
  | succ m ih =>
    intro t fuel h ht hf R o
    obtain ⟨f, rfl⟩ : ∃ f, fuel = f + 1 := ⟨fuel - 1, by omega⟩
    obtain ⟨h1, e1, e2, e3, e4⟩ := mk_msg h
    have k3' : h_k h z = 3 := (o z (by omega)).1.trans k3
    have r2' : h_R h z 2 = some (z + 1) := ((o z (by omega)).2.2.2.2 2).trans r2
    have hz : h_z h = z + 2 + 2 * t := R.2.2.2.2
    have k9 : h_k h1 (z + 1) = 9 := (e3 (z + 1) (by omega)).1.trans R.1
    have n9 : h_n h1 (z + 1) = s := (e3 (z + 1) (by omega)).2.1.trans R.2.1
    rw [u_X2_init_24]
    unfold j_X2_init_24
    rw [if_neg (by rw [nI_leI (by omega) (by omega)]; omega), if_pos k3']
    simp only [b_d_eq, e1, Option.bind_some, r2', k9, n9, if_true, in_nI (show t < s by omega) (show s ≤ 65536 by omega), e4.1, cl_nI (show t < 2 ^ 31 by omega), nI_1]
    exact ih (t + 1) f _ (by omega) (by omega) (Rw_s R e2 e3 e4) (Old_tr (Old_tr o e3 (by omega)) (Old_sR (by omega)) (Nat.le_refl _))
/-- a new ring's cells -/
theorem ring_new {h : Hpx} {r s : Nat} (hs : s ≤ 64) : ∃ h', f_X2_init (h_new h 3 0) (h_z h) (nI r) (nI s) = some h' ∧ Old_ (h_z h) h h' ∧ h_k h' (h_z h) = 3 ∧ h_R h' (h_z h) 2 = some (h_z h + 1) ∧ (∀ p, h_I h' (h_z h) p = if p = 1 then nI s else if p = 0 then nI r else 0) ∧ h_J h' (h_z h) 4 = 0 ∧ Rw_ (h_z h) s s h' := by
  have k1 : h_k (h_new h 3 0) (h_z h) = 3 := by rw [nw_k, if_pos rfl]
  have z1 : h_z (s_I (s_I (h_new h 3 0) (h_z h) 0 (nI r)) (h_z h) 1 (nI s)) = h_z h + 1 := rfl
  have k2 : h_k (h_new (s_I (s_I (h_new h 3 0) (h_z h) 0 (nI r)) (h_z h) 1 (nI s)) 9 s) (h_z h) = 3 := by rw [nw_k, z1, if_neg (by omega)]; exact k1
  obtain ⟨h', e1, e2, e3⟩ := ri_loop hs (z := h_z h) (s_R (h_new (s_I (s_I (h_new h 3 0) (h_z h) 0 (nI r)) (h_z h) 1 (nI s)) 9 s) (h_z h) 2 (some (h_z h + 1))) k2 (by rw [sR_at, if_pos ⟨rfl, rfl⟩]) s 0 70 _ (by omega) (by omega) ⟨by rw [ksR, nw_k, z1, if_pos rfl], by rw [nsR, nw_n, z1, if_pos rfl], fun k hk => by omega, fun k hk => by omega, rfl⟩ Old_rf
  obtain ⟨q1, q2, q3, q4, q5⟩ := e3 (h_z h) (by omega)
  refine ⟨h', ?_, ?_, q1.trans k2, ?_, fun p => ?_, ?_, e2⟩
  · unfold f_X2_init
    rw [if_pos k1]
    simp only [b_d_eq, z1]
    rw [if_pos (in_nI (by omega) (by omega)), cl_nI (by omega), if_pos k2]
    exact e1
  · have o1 : Old_ (h_z h) h (s_I (s_I (h_new h 3 0) (h_z h) 0 (nI r)) (h_z h) 1 (nI s)) := Old_tr Old_new (Old_tr (Old_sI (z := h_z h) (by omega)) (Old_sI (by omega)) (Nat.le_refl _)) (Nat.le_refl _)
    have o2 : Old_ (h_z h + 1) (s_I (s_I (h_new h 3 0) (h_z h) 0 (nI r)) (h_z h) 1 (nI s)) (h_new (s_I (s_I (h_new h 3 0) (h_z h) 0 (nI r)) (h_z h) 1 (nI s)) 9 s) := Old_new (h := s_I (s_I (h_new h 3 0) (h_z h) 0 (nI r)) (h_z h) 1 (nI s))
    have o3 := Old_tr (Old_tr o1 o2 (by omega)) (Old_sR (z := h_z h) (a := h_z h) (p := 2) (x := some (h_z h + 1)) (Nat.le_refl _)) (Nat.le_refl _)
    exact Old_tr o3 e3 (by omega)
  · rw [q5, sR_at, if_pos ⟨rfl, rfl⟩]
  · have e0 : h_I (h_new h 3 0) (h_z h) p = 0 := by rw [nw_I, if_pos rfl]
    rw [q3, IsR, nw_I, z1, if_neg (by omega), sI_at, sI_at, e0]
    by_cases c1 : p = 1
    · rw [if_pos ⟨rfl, c1⟩, if_pos c1]
    · rw [if_neg (fun z => c1 z.2), if_neg c1]
      by_cases c0 : p = 0
      · rw [if_pos ⟨rfl, c0⟩, if_pos c0]
      · rw [if_neg (fun z => c0 z.2), if_neg c0]
  · rw [q4, JsR, nw_J, z1, if_neg (by omega), JsI, JsI, nw_J, if_pos rfl]
section AD
variable {n : Nat} {A B A' B' ow : Nat → Nat} {h : Hpx} {M : Msx}
theorem ad_ltI (O : Ow_ A B ow M) (S : Sh_ A B h M) {f i : Nat} (hok : okI M f i) : adI A B f i < h_z h := by
  obtain ⟨-, -, -, -, -, ⟨z41, -⟩, zA, zB⟩ := S
  have l6 : ∀ j, 6 ≤ lB M j := fun j => by unfold lB; split <;> omega
  unfold okI at hok
  split at hok
  case h_39 => exact absurd hok (fun z => z)
  all_goals simp only [adI]
  all_goals first
    | omega
    | (have := zA i hok; omega)
    | (have := zB i hok; have := l6 i; omega)
    | (have := zA _ hok.1; omega)
    | (have := zB _ hok; have := l6 (i / 4); omega)
    | (have := zB _ hok; have := l6 (i / 8); omega)
    | (have := zB _ hok.1; rw [lB4 hok.2] at this; omega)
    | (split <;> omega)
theorem ad_ltJ (O : Ow_ A B ow M) (S : Sh_ A B h M) {f i : Nat} (hok : okJ M f i) : adJ A B f i < h_z h := by
  obtain ⟨-, -, -, -, -, ⟨z41, -⟩, zA, zB⟩ := S
  have l6 : ∀ j, 6 ≤ lB M j := fun j => by unfold lB; split <;> omega
  unfold okJ at hok
  split at hok
  case h_8 => exact absurd hok (fun z => z)
  all_goals simp only [adJ]
  all_goals first
    | omega
    | (have := zA i hok; omega)
    | (have := zB i hok; have := l6 i; omega)
    | (have := zA _ hok.1; omega)
    | (have := zB _ hok; have := l6 (i / 8); omega)
    | (have := zB _ hok.1; rw [lB4 hok.2] at this; omega)
theorem adI_c (hA : ∀ q, q < nR M → A' q = A q) (hB : ∀ j, j < nD M → B' j = B j) {f i : Nat} (hok : okI M f i) : adI A' B' f i = adI A B f i := by
  unfold okI at hok
  split at hok
  case h_39 => exact absurd hok (fun z => z)
  all_goals simp only [adI]
  all_goals first
    | rw [hA _ hok]
    | rw [hA _ hok.1]
    | rw [hB _ hok]
    | rw [hB _ hok.1]
theorem adJ_c (hA : ∀ q, q < nR M → A' q = A q) (hB : ∀ j, j < nD M → B' j = B j) {f i : Nat} (hok : okJ M f i) : adJ A' B' f i = adJ A B f i := by
  unfold okJ at hok
  split at hok
  case h_8 => exact absurd hok (fun z => z)
  all_goals simp only [adJ]
  all_goals first
    | rw [hA _ hok]
    | rw [hA _ hok.1]
    | rw [hB _ hok]
    | rw [hB _ hok.1]
end AD
