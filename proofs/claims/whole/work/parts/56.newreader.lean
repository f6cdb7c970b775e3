/-! a new reader's cells -/
def fiH (v : Int32) (a : Nat) : Nat → Nat → Hpx → Hpx
  | 0, _, h => h
  | m + 1, i, h => fiH v a m (i + 1) (s_I h a i v)
theorem fiH_k {v : Int32} {a : Nat} : ∀ (m i : Nat) (h : Hpx), h_k (fiH v a m i h) = h_k h
  | 0, _, _ => rfl
  | m + 1, i, h => by rw [fiH, fiH_k m]; rfl
theorem fiH_n {v : Int32} {a : Nat} : ∀ (m i : Nat) (h : Hpx), h_n (fiH v a m i h) = h_n h
  | 0, _, _ => rfl
  | m + 1, i, h => by rw [fiH, fiH_n m]; rfl
theorem fiH_z {v : Int32} {a : Nat} : ∀ (m i : Nat) (h : Hpx), h_z (fiH v a m i h) = h_z h
  | 0, _, _ => rfl
  | m + 1, i, h => by rw [fiH, fiH_z m]; rfl
theorem fiH_J {v : Int32} {a : Nat} : ∀ (m i : Nat) (h : Hpx), h_J (fiH v a m i h) = h_J h
  | 0, _, _ => rfl
  | m + 1, i, h => by rw [fiH, fiH_J m]; rfl
theorem fiH_R {v : Int32} {a : Nat} : ∀ (m i : Nat) (h : Hpx), h_R (fiH v a m i h) = h_R h
  | 0, _, _ => rfl
  | m + 1, i, h => by rw [fiH, fiH_R m]; rfl
theorem fiH_I {v : Int32} {a : Nat} : ∀ (m i : Nat) (h : Hpx) (b q : Nat), h_I (fiH v a m i h) b q = if b = a ∧ i ≤ q ∧ q < i + m then v else h_I h b q
  | 0, i, h, b, q => by rw [fiH, if_neg (by omega)]
  | m + 1, i, h, b, q => by
    rw [fiH, fiH_I m (i + 1), sI_at]
    by_cases c : b = a ∧ i + 1 ≤ q ∧ q < i + 1 + m
    · rw [if_pos c, if_pos (by omega)]
    · rw [if_neg c]
      by_cases d : b = a ∧ q = i
      · rw [if_pos d, if_pos (by omega)]
      · rw [if_neg d, if_neg (by omega)]
theorem fill_6 {a : Nat} {v : Int32} : ∀ (m i fuel : Nat) (h : Hpx), i + m = 8 → m < fuel → h_k h a = 6 → h_n h a = 8 → l_J7_fill_53178_5 fuel h (some a) v (nI i) (nI 8) = some (fiH v a m i h) := by
  intro m
  induction m with
  | zero =>
    intro i fuel h hi hf hk hn
    obtain ⟨f, rfl⟩ : ∃ f, fuel = f + 1 := ⟨fuel - 1, by omega⟩
    rw [u_J7_fill_53178_5]
    unfold j_J7_fill_53178_5
    rw [if_pos (by rw [nI_leI (by omega) (by omega)]; omega)]
    rfl
  | succ m ih =>
    intro i fuel h hi hf hk hn
    obtain ⟨f, rfl⟩ : ∃ f, fuel = f + 1 := ⟨fuel - 1, by omega⟩
    rw [u_J7_fill_53178_5]
    unfold j_J7_fill_53178_5
    rw [if_neg (by rw [nI_leI (by omega) (by omega)]; omega)]
    simp only [Option.bind_some, hk, hn, if_true, in_nI (show i < 8 by omega) (show 8 ≤ 65536 by omega), cl_nI (show i < 2 ^ 31 by omega), b_d_eq]
    rw [nI_1, ih (i + 1) f (s_I h a i v) (by omega) (by omega) hk hn]
    rfl
theorem rl_loop {z N : Nat} (hN : N ≤ 32) (h0 : Hpx) (k2 : h_k h0 z = 2) (r6 : h_R h0 z 6 = some (z + 4 + 1)) : ∀ (m t fuel : Nat) (h : Hpx), t + m = N → m < fuel → Rw_ (z + 4) N t h → Old_ (z + 5) h0 h → ∃ h', l_X1_init_74 z fuel h (nI t) = some (s_I (s_I h' z 13 (-1)) z 14 (-1)) ∧ Rw_ (z + 4) N N h' ∧ Old_ (z + 5) h0 h' := by
  intro m
  induction m with
  | zero =>
    intro t fuel h ht hf R o
    obtain ⟨f, rfl⟩ : ∃ f, fuel = f + 1 := ⟨fuel - 1, by omega⟩
    have k2' : h_k h z = 2 := (o z (by omega)).1.trans k2
    have r6' : h_R h z 6 = some (z + 4 + 1) := ((o z (by omega)).2.2.2.2 6).trans r6
    rw [u_X1_init_74]
    unfold j_X1_init_74
    rw [if_pos k2', r6']
    simp only [Option.bind_some, R.1, if_true, R.2.1, b_d_eq]
    rw [if_pos (by rw [nI_leI (by omega) (by omega)]; omega)]
    refine ⟨h, rfl, ?_, o⟩
    rw [show N = t by omega] at R ⊢
    exact R
  | succ m ih =>
    intro t fuel h ht hf R o
    obtain ⟨f, rfl⟩ : ∃ f, fuel = f + 1 := ⟨fuel - 1, by omega⟩
    obtain ⟨h1, e1, e2, e3, e4⟩ := mk_msg h
    have k2' : h_k h z = 2 := (o z (by omega)).1.trans k2
    have r6' : h_R h z 6 = some (z + 4 + 1) := ((o z (by omega)).2.2.2.2 6).trans r6
    have hz : h_z h = z + 4 + 2 + 2 * t := R.2.2.2.2
    have k9 : h_k h1 (z + 4 + 1) = 9 := (e3 (z + 4 + 1) (by omega)).1.trans R.1
    have n9 : h_n h1 (z + 4 + 1) = N := (e3 (z + 4 + 1) (by omega)).2.1.trans R.2.1
    rw [u_X1_init_74]
    unfold j_X1_init_74
    rw [if_pos k2', r6']
    simp only [Option.bind_some, R.1, if_true, R.2.1, b_d_eq, e1, k9, n9, in_nI (show t < N by omega) (show N ≤ 65536 by omega), e4.1, cl_nI (show t < 2 ^ 31 by omega), nI_1]
    rw [if_neg (by rw [nI_leI (by omega) (by omega)]; omega)]
    exact ih (t + 1) f _ (by omega) (by omega) (Rw_s R e2 e3 e4) (Old_tr (Old_tr o e3 (by omega)) (Old_sR (by omega)) (Nat.le_refl _))
/-- what a new reader's cells hold -/
def Rn_ (z k : Nat) (ra tg : Option Nat) (N : Nat) (pl : Nat → Int32) (pc : Int32) (nm : Nat → Int32) (nc nb : Int32) (h0 h : Hpx) : Prop :=
  Old_ z h0 h ∧ (h_k h z = 2 ∧ h_R h z 1 = ra ∧ h_R h z 2 = tg ∧ h_R h z 3 = some (z + 1) ∧ h_R h z 4 = some (z + 3) ∧ h_R h z 5 = some (z + 4) ∧ h_R h z 6 = some (z + 5)) ∧ (∀ p, h_I h z p = if p = 0 then nI k else if p = 7 then pc else if p = 8 then nc else if p = 9 then nb else if p = 13 ∨ p = 14 then -1 else 0) ∧ Ms_ h (z + 1) ∧ (h_k h (z + 3) = 6 ∧ h_n h (z + 3) = 8 ∧ ∀ q, q < 8 → h_I h (z + 3) q = pl q) ∧ (h_k h (z + 4) = 6 ∧ h_n h (z + 4) = 4 ∧ ∀ q, q < 4 → h_I h (z + 4) q = nm q) ∧ Rw_ (z + 4) N N h
theorem Ms_I {h : Hpx} {a b p : Nat} {x : Int32} (m : Ms_ h a) (hb : a ≠ b) : Ms_ (s_I h b p x) a := by
  obtain ⟨m1, m2, m3, m4, m5, m6, m7⟩ := m
  exact ⟨m1, m2, m3, m4, fun q => by rw [sI_n (fun z => hb z.1)]; exact m5 q, m6, m7⟩
theorem Rw_I {h : Hpx} {z s t b p : Nat} {x : Int32} (R : Rw_ z s t h) (hb : b < z + 2) : Rw_ z s t (s_I h b p x) := ⟨R.1, R.2.1, R.2.2.1, fun k hk => Ms_I (R.2.2.2.1 k hk) (by omega), R.2.2.2.2⟩
theorem rd_new {h : Hpx} {k : Nat} {ra tg : Option Nat} (hk : k < 8) : ∃ h', f_X1_init (h_new h 2 0) (h_z h) (nI k) ra tg = some h' ∧ Rn_ (h_z h) k ra tg (if k = 4 then 32 else 0) (fun _ => -1) 0 (fun _ => 0) 0 0 h h' := by
  have hN : (if k = 4 then 32 else 0) ≤ 32 := by split <;> omega
  generalize hNe : (if k = 4 then 32 else 0) = N at hN
  generalize hz : h_z h = z
  -- the reader itself
  have a1 : h_k (h_new h 2 0) z = 2 := by rw [nw_k, hz, if_pos rfl]
  have z4 : h_z (s_R (s_R (s_I (h_new h 2 0) z 0 (nI k)) z 1 ra) z 2 tg) = z + 1 := by
    show h_z h + 1 = _
    rw [hz]
  have o4 : Old_ z h (s_R (s_R (s_I (h_new h 2 0) z 0 (nI k)) z 1 ra) z 2 tg) := by
    have o1 : Old_ z h (h_new h 2 0) := by rw [← hz]; exact Old_new
    exact Old_tr o1 (Old_tr (Old_sI (Nat.le_refl z)) (Old_tr (Old_sR (Nat.le_refl z)) (Old_sR (Nat.le_refl z)) (Nat.le_refl z)) (Nat.le_refl z)) (Nat.le_refl z)
  have k4 : h_k (s_R (s_R (s_I (h_new h 2 0) z 0 (nI k)) z 1 ra) z 2 tg) z = 2 := a1
  have i4 : ∀ p, h_I (s_R (s_R (s_I (h_new h 2 0) z 0 (nI k)) z 1 ra) z 2 tg) z p = if p = 0 then nI k else 0 := fun p => by
    have e0 : h_I (h_new h 2 0) z p = 0 := by rw [nw_I, hz, if_pos rfl]
    rw [IsR, IsR, sI_at, e0]
    by_cases c : p = 0
    · rw [if_pos ⟨rfl, c⟩, if_pos c]
    · rw [if_neg (fun y => c y.2), if_neg c]
  have r41 : h_R (s_R (s_R (s_I (h_new h 2 0) z 0 (nI k)) z 1 ra) z 2 tg) z 1 = ra := by rw [sR_at, if_neg (by omega), sR_at, if_pos ⟨rfl, rfl⟩]
  have r42 : h_R (s_R (s_R (s_I (h_new h 2 0) z 0 (nI k)) z 1 ra) z 2 tg) z 2 = tg := by rw [sR_at, if_pos ⟨rfl, rfl⟩]
  generalize hh4 : s_R (s_R (s_I (h_new h 2 0) z 0 (nI k)) z 1 ra) z 2 tg = h4 at z4 o4 k4 i4 r41 r42
  -- what it keeps
  obtain ⟨h5, e1, z5, o5, m5⟩ := mk_msg h4
  rw [z4] at e1 z5 o5 m5
  have k5 : h_k h5 z = 2 := (o5 z (by omega)).1.trans k4
  -- places
  have z6 : h_z (s_R h5 z 3 (some (z + 1))) = z + 3 := z5
  have k6 : h_k (h_new (s_R h5 z 3 (some (z + 1))) 6 8) z = 2 := by rw [nw_k, z6, if_neg (by omega)]; exact k5
  have k63 : h_k (s_R (h_new (s_R h5 z 3 (some (z + 1))) 6 8) z 4 (some (z + 3))) (z + 3) = 6 := by rw [ksR, nw_k, z6, if_pos rfl]
  have n63 : h_n (s_R (h_new (s_R h5 z 3 (some (z + 1))) 6 8) z 4 (some (z + 3))) (z + 3) = 8 := by rw [nsR, nw_n, z6, if_pos rfl]
  have r64 : h_R (s_R (h_new (s_R h5 z 3 (some (z + 1))) 6 8) z 4 (some (z + 3))) z 4 = some (z + 3) := by rw [sR_at, if_pos ⟨rfl, rfl⟩]
  have o6 : Old_ (z + 1) h5 (s_R h5 z 3 (some (z + 1))) → True := fun _ => trivial
  have z7 : h_z (s_R (h_new (s_R h5 z 3 (some (z + 1))) 6 8) z 4 (some (z + 3))) = z + 4 := by
    show h_z h5 + 1 = _
    omega
  have p7 : ∀ a, a ≠ z → a < z + 3 → h_k (s_R (h_new (s_R h5 z 3 (some (z + 1))) 6 8) z 4 (some (z + 3))) a = h_k h5 a ∧ h_n (s_R (h_new (s_R h5 z 3 (some (z + 1))) 6 8) z 4 (some (z + 3))) a = h_n h5 a ∧ (∀ p, h_I (s_R (h_new (s_R h5 z 3 (some (z + 1))) 6 8) z 4 (some (z + 3))) a p = h_I h5 a p) ∧ (∀ p, h_J (s_R (h_new (s_R h5 z 3 (some (z + 1))) 6 8) z 4 (some (z + 3))) a p = h_J h5 a p) ∧ ∀ p, h_R (s_R (h_new (s_R h5 z 3 (some (z + 1))) 6 8) z 4 (some (z + 3))) a p = h_R h5 a p := fun a ha hlt => by
    refine ⟨?_, ?_, fun p => ?_, fun p => ?_, fun p => ?_⟩
    · rw [ksR, nw_k, z6, if_neg (by omega)]; rfl
    · rw [nsR, nw_n, z6, if_neg (by omega)]; rfl
    · rw [IsR, nw_I, z6, if_neg (by omega)]; rfl
    · rw [JsR, nw_J, z6, if_neg (by omega)]; rfl
    · rw [sR_at, if_neg (fun y => ha y.1), nw_R, z6, if_neg (by omega), sR_at, if_neg (fun y => ha y.1)]
  have q7 : (∀ p, h_I (s_R (h_new (s_R h5 z 3 (some (z + 1))) 6 8) z 4 (some (z + 3))) z p = h_I h5 z p) ∧ (∀ p, p ≠ 3 → p ≠ 4 → h_R (s_R (h_new (s_R h5 z 3 (some (z + 1))) 6 8) z 4 (some (z + 3))) z p = h_R h5 z p) ∧ h_R (s_R (h_new (s_R h5 z 3 (some (z + 1))) 6 8) z 4 (some (z + 3))) z 3 = some (z + 1) := by
    refine ⟨fun p => ?_, fun p c3 c4 => ?_, ?_⟩
    · rw [IsR, nw_I, z6, if_neg (by omega)]; rfl
    · rw [sR_at, if_neg (fun y => c4 y.2), nw_R, z6, if_neg (by omega), sR_at, if_neg (fun y => c3 y.2)]
    · rw [sR_at, if_neg (by omega), nw_R, z6, if_neg (by omega), sR_at, if_pos ⟨rfl, rfl⟩]
  generalize hh7 : s_R (h_new (s_R h5 z 3 (some (z + 1))) 6 8) z 4 (some (z + 3)) = h7 at k63 n63 r64 z7 p7 q7
  have k7 : h_k h7 z = 2 := by rw [← hh7]; exact k6
  have f7 : f_J7_fill_53178 h7 (some (z + 3)) (-1) = some (fiH (-1) (z + 3) 8 0 h7) := by
    unfold f_J7_fill_53178
    simp only [Option.bind_some, k63, if_true, n63]
    exact fill_6 8 0 70 h7 (by omega) (by omega) k63 n63
  -- names
  have z8 : h_z (fiH (-1) (z + 3) 8 0 h7) = z + 4 := by rw [fiH_z]; exact z7
  have k9 : h_k (h_new (fiH (-1) (z + 3) 8 0 h7) 6 4) z = 2 := by rw [nw_k, z8, if_neg (by omega), fiH_k]; exact k7
  have z9 : h_z (s_R (h_new (fiH (-1) (z + 3) 8 0 h7) 6 4) z 5 (some (z + 4))) = z + 5 := by
    show h_z (fiH (-1) (z + 3) 8 0 h7) + 1 = _
    rw [z8]
  -- entries
  have k10 : h_k (h_new (s_R (h_new (fiH (-1) (z + 3) 8 0 h7) 6 4) z 5 (some (z + 4))) 9 N) z = 2 := by rw [nw_k, z9, if_neg (by omega)]; exact k9
  generalize hh10 : s_R (h_new (s_R (h_new (fiH (-1) (z + 3) 8 0 h7) 6 4) z 5 (some (z + 4))) 9 N) z 6 (some (z + 5)) = h10
  have R10 : Rw_ (z + 4) N 0 h10 := by
    rw [← hh10]
    refine ⟨?_, ?_, fun k hk => by omega, fun k hk => by omega, ?_⟩
    · rw [ksR, nw_k, z9, if_pos rfl]
    · rw [nsR, nw_n, z9, if_pos rfl]
    · show h_z (s_R (h_new (fiH (-1) (z + 3) 8 0 h7) 6 4) z 5 (some (z + 4))) + 1 = _
      rw [z9]
  have k10' : h_k h10 z = 2 := by rw [← hh10]; exact k10
  have r10 : h_R h10 z 6 = some (z + 4 + 1) := by rw [← hh10, sR_at, if_pos ⟨rfl, rfl⟩]
  obtain ⟨h11, l1, l2, l3⟩ := rl_loop hN h10 k10' r10 N 0 70 h10 (by omega) (by omega) R10 Old_rf
  -- cells of h10
  have g0 : ∀ a, a < z + 4 → (h_k h10 a = h_k h7 a ∧ h_n h10 a = h_n h7 a ∧ (∀ p, h_I h10 a p = if a = z + 3 ∧ p < 8 then -1 else h_I h7 a p) ∧ (∀ p, h_J h10 a p = h_J h7 a p) ∧ ∀ p, h_R h10 a p = if a = z ∧ p = 6 then some (z + 5) else if a = z ∧ p = 5 then some (z + 4) else h_R h7 a p) := fun a ha => by
    rw [← hh10]
    refine ⟨?_, ?_, fun p => ?_, fun p => ?_, fun p => ?_⟩
    · rw [ksR, nw_k, z9, if_neg (by omega), ksR, nw_k, z8, if_neg (by omega), fiH_k]
    · rw [nsR, nw_n, z9, if_neg (by omega), nsR, nw_n, z8, if_neg (by omega), fiH_n]
    · rw [IsR, nw_I, z9, if_neg (by omega), IsR, nw_I, z8, if_neg (by omega), fiH_I]
      by_cases c : a = z + 3 ∧ p < 8
      · rw [if_pos (by omega), if_pos c]
      · rw [if_neg (by omega), if_neg c]
    · rw [JsR, nw_J, z9, if_neg (by omega), JsR, nw_J, z8, if_neg (by omega), fiH_J]
    · rw [sR_at]
      by_cases c : a = z ∧ p = 6
      · rw [if_pos c, if_pos c]
      · rw [if_neg c, if_neg c, nw_R, z9, if_neg (by omega), sR_at]
        by_cases d : a = z ∧ p = 5
        · rw [if_pos d, if_pos d]
        · rw [if_neg d, if_neg d, nw_R, z8, if_neg (by omega), fiH_R]
  have g4 : h_k h10 (z + 4) = 6 ∧ h_n h10 (z + 4) = 4 ∧ ∀ p, h_I h10 (z + 4) p = 0 := by
    rw [← hh10]
    refine ⟨?_, ?_, fun p => ?_⟩
    · rw [ksR, nw_k, z9, if_neg (by omega), ksR, nw_k, z8, if_pos rfl]
    · rw [nsR, nw_n, z9, if_neg (by omega), nsR, nw_n, z8, if_pos rfl]
    · rw [IsR, nw_I, z9, if_neg (by omega), IsR, nw_I, z8, if_pos rfl]
  refine ⟨s_I (s_I h11 z 13 (-1)) z 14 (-1), ?_, ?_, ⟨?_, ?_, ?_, ?_, ?_, ?_, ?_⟩, fun p => ?_, ?_, ⟨?_, ?_, fun q hq => ?_⟩, ⟨?_, ?_, fun q hq => ?_⟩, ?_⟩
  · unfold f_X1_init j_X1_init_65
    simp only [a1, if_true, b_d_eq, hh4, z4, e1, Option.bind_some, k5, z6, k6, hh7, r64, f7, z8, k9, z9]
    have sel : ∀ y, y = nI N → (if in_b y 33 = true then if h_k (h_new (s_R (h_new (fiH (-1) (z + 3) 8 0 h7) 6 4) z 5 (some (z + 4))) 9 y.toNatClampNeg) z = 2 then l_X1_init_74 z 70 (s_R (h_new (s_R (h_new (fiH (-1) (z + 3) 8 0 h7) 6 4) z 5 (some (z + 4))) 9 y.toNatClampNeg) z 6 (some (z + 5))) 0 else none else none) = some (s_I (s_I h11 z 13 (-1)) z 14 (-1)) := fun y hy => by
      rw [hy, if_pos (in_nI (by omega) (by omega)), cl_nI (by omega), if_pos k10, hh10]
      exact l1
    by_cases c : k = 4
    · rw [if_pos (by rw [c]; rfl)]
      exact sel 32 (by rw [← hNe, if_pos c]; rfl)
    · rw [if_neg (by rw [eqlit (n := 4) rfl (by omega)]; exact c)]
      exact sel 0 (by rw [← hNe, if_neg c]; rfl)
  · refine Old_tr (z' := z) ?_ (Old_tr (Old_sI (Nat.le_refl z)) (Old_sI (Nat.le_refl z)) (Nat.le_refl z)) (Nat.le_refl z)
    intro a ha
    obtain ⟨x1, x2, x3, x4, x5⟩ := l3 a (by omega)
    obtain ⟨y1, y2, y3, y4, y5⟩ := g0 a (by omega)
    obtain ⟨u1, u2, u3, u4, u5⟩ := p7 a (by omega) (by omega)
    obtain ⟨v1, v2, v3, v4, v5⟩ := o5 a (by omega)
    obtain ⟨t1, t2, t3, t4, t5⟩ := o4 a ha
    refine ⟨by rw [x1, y1, u1, v1, t1], by rw [x2, y2, u2, v2, t2], fun p => ?_, fun p => by rw [x4, y4, u4, v4, t4], fun p => ?_⟩
    · rw [x3, y3, if_neg (by omega), u3, v3, t3]
    · rw [x5, y5, if_neg (by omega), if_neg (by omega), u5, v5, t5]
  · exact ((l3 z (by omega)).1).trans k10'
  · rw [RsI, RsI, (l3 z (by omega)).2.2.2.2, (g0 z (by omega)).2.2.2.2, if_neg (by omega), if_neg (by omega), q7.2.1 1 (by omega) (by omega), (o5 z (by omega)).2.2.2.2, r41]
  · rw [RsI, RsI, (l3 z (by omega)).2.2.2.2, (g0 z (by omega)).2.2.2.2, if_neg (by omega), if_neg (by omega), q7.2.1 2 (by omega) (by omega), (o5 z (by omega)).2.2.2.2, r42]
  · rw [RsI, RsI, (l3 z (by omega)).2.2.2.2, (g0 z (by omega)).2.2.2.2, if_neg (by omega), if_neg (by omega), q7.2.2]
  · rw [RsI, RsI, (l3 z (by omega)).2.2.2.2, (g0 z (by omega)).2.2.2.2, if_neg (by omega), if_neg (by omega), r64]
  · rw [RsI, RsI, (l3 z (by omega)).2.2.2.2, (g0 z (by omega)).2.2.2.2, if_neg (by omega), if_pos ⟨rfl, rfl⟩]
  · rw [RsI, RsI, (l3 z (by omega)).2.2.2.2, (g0 z (by omega)).2.2.2.2, if_pos ⟨rfl, rfl⟩]
  · have e0 : h_I h11 z p = if p = 0 then nI k else 0 := by
      rw [(l3 z (by omega)).2.2.1, (g0 z (by omega)).2.2.1, if_neg (by omega), q7.1, (o5 z (by omega)).2.2.1, i4]
    rw [sI_at, sI_at, e0]
    by_cases c14 : p = 14
    · rw [if_pos ⟨rfl, c14⟩, if_neg (by omega), if_neg (by omega), if_neg (by omega), if_neg (by omega), if_pos (Or.inr c14)]
    · rw [if_neg (fun y => c14 y.2)]
      by_cases c13 : p = 13
      · rw [if_pos ⟨rfl, c13⟩, if_neg (by omega), if_neg (by omega), if_neg (by omega), if_neg (by omega), if_pos (Or.inl c13)]
      · rw [if_neg (fun y => c13 y.2)]
        by_cases c0 : p = 0
        · rw [if_pos c0, if_pos c0]
        · rw [if_neg c0, if_neg c0, if_neg (show ¬ (p = 13 ∨ p = 14) by omega)]
          split
          · rfl
          · split
            · rfl
            · split <;> rfl
  · refine Ms_I (Ms_I ?_ (by omega)) (by omega)
    have a1 := l3 (z + 1) (by omega)
    have a2 := l3 (z + 1 + 1) (by omega)
    have b1 := g0 (z + 1) (by omega)
    have b2 := g0 (z + 1 + 1) (by omega)
    have c1 := p7 (z + 1) (by omega) (by omega)
    have c2 := p7 (z + 1 + 1) (by omega) (by omega)
    obtain ⟨m1, m2, m3, m4, m5, m6, m7⟩ := m5
    refine ⟨?_, ?_, ?_, ?_, fun p => ?_, ?_, fun i => ?_⟩
    · rw [a1.1, b1.1, c1.1, m1]
    · rw [a1.2.2.2.2, b1.2.2.2.2, if_neg (by omega), if_neg (by omega), c1.2.2.2.2, m2]
    · rw [a2.1, b2.1, c2.1, m3]
    · rw [a2.2.1, b2.2.1, c2.2.1, m4]
    · rw [a1.2.2.1, b1.2.2.1, if_neg (by omega), c1.2.2.1, m5]
    · rw [a1.2.2.2.1, b1.2.2.2.1, c1.2.2.2.1, m6]
    · rw [a2.2.2.2.1, b2.2.2.2.1, c2.2.2.2.1, m7]
  · exact (l3 (z + 3) (by omega)).1.trans ((g0 (z + 3) (by omega)).1.trans k63)
  · exact (l3 (z + 3) (by omega)).2.1.trans ((g0 (z + 3) (by omega)).2.1.trans n63)
  · rw [sI_n (by omega), sI_n (by omega), (l3 (z + 3) (by omega)).2.2.1, (g0 (z + 3) (by omega)).2.2.1, if_pos ⟨rfl, hq⟩]
  · exact (l3 (z + 4) (by omega)).1.trans g4.1
  · exact (l3 (z + 4) (by omega)).2.1.trans g4.2.1
  · rw [sI_n (by omega), sI_n (by omega), (l3 (z + 4) (by omega)).2.2.1, g4.2.2]
  · exact Rw_I (Rw_I l2 (by omega)) (by omega)
theorem Rn_stand {z k N r : Nat} {ra tg : Option Nat} {pl nm : Nat → Int32} {pc nc nb : Int32} {h0 h : Hpx} (R : Rn_ z k ra tg N pl pc nm nc nb h0 h) (hr : r < 8) : ∃ h', f_X1_standIn h z (nI r) = some h' ∧ Rn_ z k ra tg N (fun q => if q = r then 0 else pl q) (pc + 1) nm nc nb h0 h' := by
  obtain ⟨o, ⟨k1, r1, r2, r3, r4, r5, r6⟩, i1, m1, ⟨p1, p2, p3⟩, ⟨n1, n2, n3⟩, rw1⟩ := R
  refine ⟨s_I (s_I h (z + 3) r 0) z 7 (pc + 1), ?_, Old_tr o (Old_tr (Old_sI (by omega)) (Old_sI (Nat.le_refl z)) (Nat.le_refl z)) (Nat.le_refl z), ⟨k1, r1, r2, r3, r4, r5, r6⟩, fun p => ?_, Ms_I (Ms_I m1 (by omega)) (by omega), ⟨p1, p2, fun q hq => ?_⟩, ⟨n1, n2, fun q hq => ?_⟩, Rw_I (Rw_I rw1 (by omega)) (by omega)⟩
  · unfold f_X1_standIn
    rw [if_neg (nI_pos (by omega)), if_neg (by rw [litle (n := 8) rfl (by omega)]; omega), if_pos k1, r4]
    simp only [Option.bind_some, p1, p2, if_true, in_nI hr (show 8 ≤ 65536 by omega), cl_nI (show r < 2 ^ 31 by omega), b_d_eq]
    rw [sI_n (by omega), i1, if_neg (by omega), if_pos rfl]
  · rw [sI_at, sI_n (by omega), i1]
    by_cases c : p = 7
    · rw [if_pos ⟨rfl, c⟩, if_neg (by omega), if_pos c]
    · rw [if_neg (fun y => c y.2), if_neg c, if_neg c]
  · show _ = if q = r then 0 else pl q
    rw [sI_n (by omega), sI_at]
    by_cases c : q = r
    · rw [if_pos ⟨rfl, c⟩, if_pos c]
    · rw [if_neg (fun y => c y.2), if_neg c, p3 q hq]
  · rw [sI_n (by omega), sI_n (by omega), n3 q hq]
theorem Rn_name {z k N o : Nat} {ra tg : Option Nat} {pl nm : Nat → Int32} {pc nb : Int32} {h0 h : Hpx} (R : Rn_ z k ra tg N pl pc nm 0 nb h0 h) : ∃ h', f_X1_addName h z (nI o) = some h' ∧ Rn_ z k ra tg N pl pc (fun q => if q = 0 then nI o else nm q) 1 (nb ||| ((1 : Int32) <<< (nI o &&& 31))) h0 h' := by
  obtain ⟨od, ⟨k1, r1, r2, r3, r4, r5, r6⟩, i1, m1, ⟨p1, p2, p3⟩, ⟨n1, n2, n3⟩, rw1⟩ := R
  have i8 : h_I h z 8 = 0 := by rw [i1, if_neg (by omega), if_neg (by omega), if_pos rfl]
  refine ⟨s_I (s_I (s_I h (z + 4) 0 (nI o)) z 8 1) z 9 (nb ||| ((1 : Int32) <<< (nI o &&& 31))), ?_, Old_tr od (Old_tr (Old_sI (by omega)) (Old_tr (Old_sI (Nat.le_refl z)) (Old_sI (Nat.le_refl z)) (Nat.le_refl z)) (Nat.le_refl z)) (Nat.le_refl z), ⟨k1, r1, r2, r3, r4, r5, r6⟩, fun p => ?_, Ms_I (Ms_I (Ms_I m1 (by omega)) (by omega)) (by omega), ⟨p1, p2, fun q hq => ?_⟩, ⟨n1, n2, fun q hq => ?_⟩, Rw_I (Rw_I (Rw_I rw1 (by omega)) (by omega)) (by omega)⟩
  · unfold f_X1_addName
    rw [if_pos k1, i8, if_neg (by decide), r5]
    simp only [Option.bind_some, n1, n2, if_true, b_d_eq]
    rw [if_pos (show in_b (0 : Int32) 4 = true from in_nI (a := 0) (by omega) (by omega)), sb_cl0]
    have e8 : h_I (s_I h (z + 4) 0 (nI o)) z 8 = 0 := by rw [sI_n (by omega), i8]
    have e9 : h_I (s_I (s_I h (z + 4) 0 (nI o)) z 8 (0 + 1)) z 9 = nb := by rw [sI_n (by omega), sI_n (by omega), i1, if_neg (by omega), if_neg (by omega), if_neg (by omega), if_pos rfl]
    rw [e8, e9]
    rfl
  · rw [sI_at, sI_at, sI_n (by omega), i1]
    by_cases c9 : p = 9
    · rw [if_pos ⟨rfl, c9⟩, if_neg (by omega), if_neg (by omega), if_neg (by omega), if_pos c9]
    · rw [if_neg (fun y => c9 y.2)]
      by_cases c8 : p = 8
      · rw [if_pos ⟨rfl, c8⟩, if_neg (by omega), if_neg (by omega), if_pos c8]
      · rw [if_neg (fun y => c8 y.2), if_neg c8, if_neg c8, if_neg c9, if_neg c9]
  · rw [sI_n (by omega), sI_n (by omega), sI_n (by omega), p3 q hq]
  · show _ = if q = 0 then nI o else nm q
    rw [sI_n (by omega), sI_n (by omega), sI_at]
    by_cases c : q = 0
    · rw [if_pos ⟨rfl, c⟩, if_pos c]
    · rw [if_neg (fun y => c y.2), if_neg c, n3 q hq]
