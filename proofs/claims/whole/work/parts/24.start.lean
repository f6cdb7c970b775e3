/-! the law's start: the two new objects, then the loop -/
def h_0 : Hpx := (fun _ => 0, fun _ => 0, 0, fun _ _ => 0, fun _ _ => 0, fun _ _ => none)
def M_0 : Msx := (fun _ _ => 0, fun _ _ => 0)
def h_1 : Hpx := match f_X3_init (h_new h_0 4 0) 0 with
  | some h => h
  | none => h_0
def h_2 : Hpx := match f_X4_init (h_new h_1 5 0) 5 with
  | some h => h
  | none => h_0
def gh_ (h : Hpx) : Hpx := (fun a => if 5 ≤ a ∧ a < 41 then 0 else h_k h a, h_n h, h_z h, h_I h, h_J h, h_R h)
theorem gh_k (h : Hpx) (a : Nat) : h_k (gh_ h) a = if 5 ≤ a ∧ a < 41 then 0 else h_k h a := rfl
theorem gh_n (h : Hpx) : h_n (gh_ h) = h_n h := rfl
theorem gh_z (h : Hpx) : h_z (gh_ h) = h_z h := rfl
theorem gh_I (h : Hpx) : h_I (gh_ h) = h_I h := rfl
theorem gh_J (h : Hpx) : h_J (gh_ h) = h_J h := rfl
theorem gh_R (h : Hpx) : h_R (gh_ h) = h_R h := rfl
theorem cell_M {b : Nat} {ac : Nat → ClassId} {h : Hpx} {M M' : Msx} {a : Nat} (hk : h_k h a ≠ 0) : cell_ b ac h M a = cell_ b ac h M' a := by
  unfold cell_
  rw [if_neg hk, if_neg hk]
theorem gh_S {b : Nat} {ac : Nat → ClassId} {h : Hpx} {M M' : Msx} {a : Nat} (ha : a < 5) (hk : h_k h a ≠ 0) : cell_ b ac (gh_ h) M' a = cell_ b ac h M a := by
  have e3 : h_k (gh_ h) a = h_k h a := by rw [gh_k, if_neg (by omega)]
  rw [cell_same (M := M') e3 (by rw [gh_n]) (by rw [gh_I]) (by rw [gh_J]) (by rw [gh_R])]
  exact cell_M hk
def h_3 : Hpx := gh_ h_2
def M_1 : Msx := n_I M_0 36 0 (-1)
set_option maxRecDepth 100000 in
theorem h_1_eq : f_X3_init (h_new h_0 4 0) 0 = some h_1 := by rfl
set_option maxRecDepth 100000 in
theorem h_1_z : h_z h_1 = 5 := by rfl
set_option maxRecDepth 100000 in
theorem h_2_eq : f_X4_init (h_new h_1 5 0) 5 = some h_2 := by rfl
set_option maxRecDepth 100000 in
theorem h_2_z : h_z h_2 = 41 := by rfl
set_option maxRecDepth 100000 in
theorem h_2_kind : h_k h_2 = va_up (va_up (va_up (va_up (va_up (va_up (va_up (va_up (va_up (va_up (va_up (va_up (va_up (va_up (va_up (va_up (va_up (va_up (va_up (va_up (va_up (va_up (va_up (va_up (va_up (va_up (va_up (va_up (va_up (va_up (va_up (va_up (va_up (va_up (va_up (va_up (va_up (va_up (va_up (va_up (va_up (h_k h_0) 0 4) 1 10) 2 11) 3 6) 4 6) 5 5) 6 6) 7 6) 8 6) 9 7) 10 8) 11 7) 12 6) 13 6) 14 7) 15 6) 16 6) 17 6) 18 6) 19 6) 20 6) 21 6) 22 6) 23 6) 24 6) 25 6) 26 6) 27 6) 28 7) 29 6) 30 6) 31 7) 32 6) 33 6) 34 7) 35 6) 36 6) 37 7) 38 6) 39 6) 40 8 := rfl
theorem h_2_k0 : ∀ a, 41 ≤ a → h_k h_2 a = 0 := by
  intro a ha
  have hz : h_z h_2 = 41 := rfl
  show h_k h_2 a = 0
  rw [h_2_kind]
  have : ∀ z, z < 41 → a ≠ z := fun z hz => by omega
  simp [va_up, this, h_0, h_k]
theorem h_3_k0 : ∀ a, 41 ≤ a → h_k h_3 a = 0 := by
  intro a ha
  rw [h_3, gh_k, if_neg (by omega)]
  exact h_2_k0 a ha
theorem h_3_MR : MR_ h_3 := ⟨by rw [h_3, gh_z, h_2_z]; exact Nat.le_refl 41, fun a h1 h2 => by
  rw [h_3, gh_k, if_pos ⟨h1, h2⟩]⟩
set_option maxRecDepth 100000 in
theorem h_2_n : h_n h_2 = va_up (va_up (va_up (va_up (va_up (va_up (va_up (va_up (va_up (va_up (va_up (va_up (va_up (va_up (va_up (va_up (va_up (va_up (va_up (va_up (va_up (va_up (va_up (va_up (va_up (va_up (va_up (va_up (va_up (va_up (va_up (va_up (va_up (va_up (va_up (va_up (va_up (va_up (va_up (va_up (va_up (h_n h_0) 0 0) 1 8) 2 16) 3 7) 4 16) 5 0) 6 8) 7 8) 8 8) 9 8) 10 512) 11 512) 12 512) 13 512) 14 4096) 15 16) 16 64) 17 64) 18 16) 19 64) 20 16) 21 16) 22 16) 23 16) 24 16) 25 16) 26 16) 27 16) 28 16) 29 16) 30 16) 31 128) 32 16) 33 512) 34 512) 35 512) 36 512) 37 4096) 38 7) 39 20) 40 16 := rfl
set_option maxRecDepth 100000 in
theorem h_2_I : h_I h_2 = va_up (va_up (va_up (va_up (va_up (va_up (va_up (va_up (va_up (va_up (va_up (va_up (va_up (va_up (va_up (va_up (va_up (va_up (va_up (va_up (va_up (va_up (va_up (va_up (va_up (va_up (va_up (va_up (va_up (va_up (va_up (va_up (va_up (va_up (va_up (va_up (va_up (va_up (va_up (va_up (va_up (va_up (va_up (h_I h_0) 0 (fun _ => 0)) 1 (fun _ => 0)) 2 (fun _ => 0)) 3 (fun _ => 0)) 4 (fun _ => 0)) 0 (va_up (fun _ => 0) 10 (-1))) 5 (fun _ => 0)) 6 (fun _ => 0)) 7 (fun _ => 0)) 8 (fun _ => 0)) 9 (fun _ => 0)) 10 (fun _ => 0)) 11 (fun _ => 0)) 12 (fun _ => 0)) 13 (fun _ => 0)) 14 (fun _ => 0)) 15 (fun _ => 0)) 16 (fun _ => 0)) 17 (fun _ => 0)) 18 (fun _ => 0)) 19 (fun _ => 0)) 20 (fun _ => 0)) 21 (fun _ => 0)) 22 (fun _ => 0)) 23 (fun _ => 0)) 24 (fun _ => 0)) 25 (fun _ => 0)) 26 (fun _ => 0)) 27 (fun _ => 0)) 28 (fun _ => 0)) 29 (fun _ => 0)) 30 (fun _ => 0)) 31 (fun _ => 0)) 32 (fun _ => 0)) 33 (fun _ => 0)) 34 (fun _ => 0)) 35 (fun _ => 0)) 36 (fun _ => 0)) 37 (fun _ => 0)) 5 (va_up (fun _ => 0) 36 (-1))) 38 (fun _ => 0)) 39 (fun _ => 0)) 40 (fun _ => 0) := rfl
set_option maxRecDepth 100000 in
theorem h_2_J : h_J h_2 = va_up (va_up (va_up (va_up (va_up (va_up (va_up (va_up (va_up (va_up (va_up (va_up (va_up (va_up (va_up (va_up (va_up (va_up (va_up (va_up (va_up (va_up (va_up (va_up (va_up (va_up (va_up (va_up (va_up (va_up (va_up (va_up (va_up (va_up (va_up (va_up (va_up (va_up (va_up (va_up (va_up (h_J h_0) 0 (fun _ => 0)) 1 (fun _ => 0)) 2 (fun _ => 0)) 3 (fun _ => 0)) 4 (fun _ => 0)) 5 (fun _ => 0)) 6 (fun _ => 0)) 7 (fun _ => 0)) 8 (fun _ => 0)) 9 (fun _ => 0)) 10 (fun _ => 0)) 11 (fun _ => 0)) 12 (fun _ => 0)) 13 (fun _ => 0)) 14 (fun _ => 0)) 15 (fun _ => 0)) 16 (fun _ => 0)) 17 (fun _ => 0)) 18 (fun _ => 0)) 19 (fun _ => 0)) 20 (fun _ => 0)) 21 (fun _ => 0)) 22 (fun _ => 0)) 23 (fun _ => 0)) 24 (fun _ => 0)) 25 (fun _ => 0)) 26 (fun _ => 0)) 27 (fun _ => 0)) 28 (fun _ => 0)) 29 (fun _ => 0)) 30 (fun _ => 0)) 31 (fun _ => 0)) 32 (fun _ => 0)) 33 (fun _ => 0)) 34 (fun _ => 0)) 35 (fun _ => 0)) 36 (fun _ => 0)) 37 (fun _ => 0)) 38 (fun _ => 0)) 39 (fun _ => 0)) 40 (fun _ => 0) := rfl
set_option maxRecDepth 100000 in
theorem h_2_R : h_R h_2 = va_up (va_up (va_up (va_up (va_up (va_up (va_up (va_up (va_up (va_up (va_up (va_up (va_up (va_up (va_up (va_up (va_up (va_up (va_up (va_up (va_up (va_up (va_up (va_up (va_up (va_up (va_up (va_up (va_up (va_up (va_up (va_up (va_up (va_up (va_up (va_up (va_up (va_up (va_up (va_up (va_up (va_up (va_up (va_up (va_up (va_up (va_up (va_up (va_up (va_up (va_up (va_up (va_up (va_up (va_up (va_up (va_up (va_up (va_up (va_up (va_up (va_up (va_up (va_up (va_up (va_up (va_up (va_up (va_up (va_up (va_up (va_up (va_up (va_up (va_up (va_up (va_up (va_up (va_up (va_up (h_R h_0) 0 (fun _ => none)) 1 (fun _ => none)) 0 (va_up (fun _ => none) 0 (some 1))) 2 (fun _ => none)) 0 (va_up (va_up (fun _ => none) 0 (some 1)) 1 (some 2))) 3 (fun _ => none)) 0 (va_up (va_up (va_up (fun _ => none) 0 (some 1)) 1 (some 2)) 2 (some 3))) 4 (fun _ => none)) 0 (va_up (va_up (va_up (va_up (fun _ => none) 0 (some 1)) 1 (some 2)) 2 (some 3)) 3 (some 4))) 5 (fun _ => none)) 6 (fun _ => none)) 5 (va_up (fun _ => none) 1 (some 6))) 7 (fun _ => none)) 5 (va_up (va_up (fun _ => none) 1 (some 6)) 2 (some 7))) 8 (fun _ => none)) 5 (va_up (va_up (va_up (fun _ => none) 1 (some 6)) 2 (some 7)) 3 (some 8))) 9 (fun _ => none)) 5 (va_up (va_up (va_up (va_up (fun _ => none) 1 (some 6)) 2 (some 7)) 3 (some 8)) 4 (some 9))) 10 (fun _ => none)) 5 (va_up (va_up (va_up (va_up (va_up (fun _ => none) 1 (some 6)) 2 (some 7)) 3 (some 8)) 4 (some 9)) 5 (some 10))) 11 (fun _ => none)) 5 (va_up (va_up (va_up (va_up (va_up (va_up (fun _ => none) 1 (some 6)) 2 (some 7)) 3 (some 8)) 4 (some 9)) 5 (some 10)) 6 (some 11))) 12 (fun _ => none)) 5 (va_up (va_up (va_up (va_up (va_up (va_up (va_up (fun _ => none) 1 (some 6)) 2 (some 7)) 3 (some 8)) 4 (some 9)) 5 (some 10)) 6 (some 11)) 7 (some 12))) 13 (fun _ => none)) 5 (va_up (va_up (va_up (va_up (va_up (va_up (va_up (va_up (fun _ => none) 1 (some 6)) 2 (some 7)) 3 (some 8)) 4 (some 9)) 5 (some 10)) 6 (some 11)) 7 (some 12)) 8 (some 13))) 14 (fun _ => none)) 5 (va_up (va_up (va_up (va_up (va_up (va_up (va_up (va_up (va_up (fun _ => none) 1 (some 6)) 2 (some 7)) 3 (some 8)) 4 (some 9)) 5 (some 10)) 6 (some 11)) 7 (some 12)) 8 (some 13)) 9 (some 14))) 15 (fun _ => none)) 5 (va_up (va_up (va_up (va_up (va_up (va_up (va_up (va_up (va_up (va_up (fun _ => none) 1 (some 6)) 2 (some 7)) 3 (some 8)) 4 (some 9)) 5 (some 10)) 6 (some 11)) 7 (some 12)) 8 (some 13)) 9 (some 14)) 11 (some 15))) 16 (fun _ => none)) 5 (va_up (va_up (va_up (va_up (va_up (va_up (va_up (va_up (va_up (va_up (va_up (fun _ => none) 1 (some 6)) 2 (some 7)) 3 (some 8)) 4 (some 9)) 5 (some 10)) 6 (some 11)) 7 (some 12)) 8 (some 13)) 9 (some 14)) 11 (some 15)) 12 (some 16))) 17 (fun _ => none)) 5 (va_up (va_up (va_up (va_up (va_up (va_up (va_up (va_up (va_up (va_up (va_up (va_up (fun _ => none) 1 (some 6)) 2 (some 7)) 3 (some 8)) 4 (some 9)) 5 (some 10)) 6 (some 11)) 7 (some 12)) 8 (some 13)) 9 (some 14)) 11 (some 15)) 12 (some 16)) 13 (some 17))) 18 (fun _ => none)) 5 (va_up (va_up (va_up (va_up (va_up (va_up (va_up (va_up (va_up (va_up (va_up (va_up (va_up (fun _ => none) 1 (some 6)) 2 (some 7)) 3 (some 8)) 4 (some 9)) 5 (some 10)) 6 (some 11)) 7 (some 12)) 8 (some 13)) 9 (some 14)) 11 (some 15)) 12 (some 16)) 13 (some 17)) 14 (some 18))) 19 (fun _ => none)) 5 (va_up (va_up (va_up (va_up (va_up (va_up (va_up (va_up (va_up (va_up (va_up (va_up (va_up (va_up (fun _ => none) 1 (some 6)) 2 (some 7)) 3 (some 8)) 4 (some 9)) 5 (some 10)) 6 (some 11)) 7 (some 12)) 8 (some 13)) 9 (some 14)) 11 (some 15)) 12 (some 16)) 13 (some 17)) 14 (some 18)) 15 (some 19))) 20 (fun _ => none)) 5 (va_up (va_up (va_up (va_up (va_up (va_up (va_up (va_up (va_up (va_up (va_up (va_up (va_up (va_up (va_up (fun _ => none) 1 (some 6)) 2 (some 7)) 3 (some 8)) 4 (some 9)) 5 (some 10)) 6 (some 11)) 7 (some 12)) 8 (some 13)) 9 (some 14)) 11 (some 15)) 12 (some 16)) 13 (some 17)) 14 (some 18)) 15 (some 19)) 16 (some 20))) 21 (fun _ => none)) 5 (va_up (va_up (va_up (va_up (va_up (va_up (va_up (va_up (va_up (va_up (va_up (va_up (va_up (va_up (va_up (va_up (fun _ => none) 1 (some 6)) 2 (some 7)) 3 (some 8)) 4 (some 9)) 5 (some 10)) 6 (some 11)) 7 (some 12)) 8 (some 13)) 9 (some 14)) 11 (some 15)) 12 (some 16)) 13 (some 17)) 14 (some 18)) 15 (some 19)) 16 (some 20)) 17 (some 21))) 22 (fun _ => none)) 5 (va_up (va_up (va_up (va_up (va_up (va_up (va_up (va_up (va_up (va_up (va_up (va_up (va_up (va_up (va_up (va_up (va_up (fun _ => none) 1 (some 6)) 2 (some 7)) 3 (some 8)) 4 (some 9)) 5 (some 10)) 6 (some 11)) 7 (some 12)) 8 (some 13)) 9 (some 14)) 11 (some 15)) 12 (some 16)) 13 (some 17)) 14 (some 18)) 15 (some 19)) 16 (some 20)) 17 (some 21)) 18 (some 22))) 23 (fun _ => none)) 5 (va_up (va_up (va_up (va_up (va_up (va_up (va_up (va_up (va_up (va_up (va_up (va_up (va_up (va_up (va_up (va_up (va_up (va_up (fun _ => none) 1 (some 6)) 2 (some 7)) 3 (some 8)) 4 (some 9)) 5 (some 10)) 6 (some 11)) 7 (some 12)) 8 (some 13)) 9 (some 14)) 11 (some 15)) 12 (some 16)) 13 (some 17)) 14 (some 18)) 15 (some 19)) 16 (some 20)) 17 (some 21)) 18 (some 22)) 19 (some 23))) 24 (fun _ => none)) 5 (va_up (va_up (va_up (va_up (va_up (va_up (va_up (va_up (va_up (va_up (va_up (va_up (va_up (va_up (va_up (va_up (va_up (va_up (va_up (fun _ => none) 1 (some 6)) 2 (some 7)) 3 (some 8)) 4 (some 9)) 5 (some 10)) 6 (some 11)) 7 (some 12)) 8 (some 13)) 9 (some 14)) 11 (some 15)) 12 (some 16)) 13 (some 17)) 14 (some 18)) 15 (some 19)) 16 (some 20)) 17 (some 21)) 18 (some 22)) 19 (some 23)) 20 (some 24))) 25 (fun _ => none)) 5 (va_up (va_up (va_up (va_up (va_up (va_up (va_up (va_up (va_up (va_up (va_up (va_up (va_up (va_up (va_up (va_up (va_up (va_up (va_up (va_up (fun _ => none) 1 (some 6)) 2 (some 7)) 3 (some 8)) 4 (some 9)) 5 (some 10)) 6 (some 11)) 7 (some 12)) 8 (some 13)) 9 (some 14)) 11 (some 15)) 12 (some 16)) 13 (some 17)) 14 (some 18)) 15 (some 19)) 16 (some 20)) 17 (some 21)) 18 (some 22)) 19 (some 23)) 20 (some 24)) 21 (some 25))) 26 (fun _ => none)) 5 (va_up (va_up (va_up (va_up (va_up (va_up (va_up (va_up (va_up (va_up (va_up (va_up (va_up (va_up (va_up (va_up (va_up (va_up (va_up (va_up (va_up (fun _ => none) 1 (some 6)) 2 (some 7)) 3 (some 8)) 4 (some 9)) 5 (some 10)) 6 (some 11)) 7 (some 12)) 8 (some 13)) 9 (some 14)) 11 (some 15)) 12 (some 16)) 13 (some 17)) 14 (some 18)) 15 (some 19)) 16 (some 20)) 17 (some 21)) 18 (some 22)) 19 (some 23)) 20 (some 24)) 21 (some 25)) 22 (some 26))) 27 (fun _ => none)) 5 (va_up (va_up (va_up (va_up (va_up (va_up (va_up (va_up (va_up (va_up (va_up (va_up (va_up (va_up (va_up (va_up (va_up (va_up (va_up (va_up (va_up (va_up (fun _ => none) 1 (some 6)) 2 (some 7)) 3 (some 8)) 4 (some 9)) 5 (some 10)) 6 (some 11)) 7 (some 12)) 8 (some 13)) 9 (some 14)) 11 (some 15)) 12 (some 16)) 13 (some 17)) 14 (some 18)) 15 (some 19)) 16 (some 20)) 17 (some 21)) 18 (some 22)) 19 (some 23)) 20 (some 24)) 21 (some 25)) 22 (some 26)) 23 (some 27))) 28 (fun _ => none)) 5 (va_up (va_up (va_up (va_up (va_up (va_up (va_up (va_up (va_up (va_up (va_up (va_up (va_up (va_up (va_up (va_up (va_up (va_up (va_up (va_up (va_up (va_up (va_up (fun _ => none) 1 (some 6)) 2 (some 7)) 3 (some 8)) 4 (some 9)) 5 (some 10)) 6 (some 11)) 7 (some 12)) 8 (some 13)) 9 (some 14)) 11 (some 15)) 12 (some 16)) 13 (some 17)) 14 (some 18)) 15 (some 19)) 16 (some 20)) 17 (some 21)) 18 (some 22)) 19 (some 23)) 20 (some 24)) 21 (some 25)) 22 (some 26)) 23 (some 27)) 24 (some 28))) 29 (fun _ => none)) 5 (va_up (va_up (va_up (va_up (va_up (va_up (va_up (va_up (va_up (va_up (va_up (va_up (va_up (va_up (va_up (va_up (va_up (va_up (va_up (va_up (va_up (va_up (va_up (va_up (fun _ => none) 1 (some 6)) 2 (some 7)) 3 (some 8)) 4 (some 9)) 5 (some 10)) 6 (some 11)) 7 (some 12)) 8 (some 13)) 9 (some 14)) 11 (some 15)) 12 (some 16)) 13 (some 17)) 14 (some 18)) 15 (some 19)) 16 (some 20)) 17 (some 21)) 18 (some 22)) 19 (some 23)) 20 (some 24)) 21 (some 25)) 22 (some 26)) 23 (some 27)) 24 (some 28)) 25 (some 29))) 30 (fun _ => none)) 5 (va_up (va_up (va_up (va_up (va_up (va_up (va_up (va_up (va_up (va_up (va_up (va_up (va_up (va_up (va_up (va_up (va_up (va_up (va_up (va_up (va_up (va_up (va_up (va_up (va_up (fun _ => none) 1 (some 6)) 2 (some 7)) 3 (some 8)) 4 (some 9)) 5 (some 10)) 6 (some 11)) 7 (some 12)) 8 (some 13)) 9 (some 14)) 11 (some 15)) 12 (some 16)) 13 (some 17)) 14 (some 18)) 15 (some 19)) 16 (some 20)) 17 (some 21)) 18 (some 22)) 19 (some 23)) 20 (some 24)) 21 (some 25)) 22 (some 26)) 23 (some 27)) 24 (some 28)) 25 (some 29)) 26 (some 30))) 31 (fun _ => none)) 5 (va_up (va_up (va_up (va_up (va_up (va_up (va_up (va_up (va_up (va_up (va_up (va_up (va_up (va_up (va_up (va_up (va_up (va_up (va_up (va_up (va_up (va_up (va_up (va_up (va_up (va_up (fun _ => none) 1 (some 6)) 2 (some 7)) 3 (some 8)) 4 (some 9)) 5 (some 10)) 6 (some 11)) 7 (some 12)) 8 (some 13)) 9 (some 14)) 11 (some 15)) 12 (some 16)) 13 (some 17)) 14 (some 18)) 15 (some 19)) 16 (some 20)) 17 (some 21)) 18 (some 22)) 19 (some 23)) 20 (some 24)) 21 (some 25)) 22 (some 26)) 23 (some 27)) 24 (some 28)) 25 (some 29)) 26 (some 30)) 27 (some 31))) 32 (fun _ => none)) 5 (va_up (va_up (va_up (va_up (va_up (va_up (va_up (va_up (va_up (va_up (va_up (va_up (va_up (va_up (va_up (va_up (va_up (va_up (va_up (va_up (va_up (va_up (va_up (va_up (va_up (va_up (va_up (fun _ => none) 1 (some 6)) 2 (some 7)) 3 (some 8)) 4 (some 9)) 5 (some 10)) 6 (some 11)) 7 (some 12)) 8 (some 13)) 9 (some 14)) 11 (some 15)) 12 (some 16)) 13 (some 17)) 14 (some 18)) 15 (some 19)) 16 (some 20)) 17 (some 21)) 18 (some 22)) 19 (some 23)) 20 (some 24)) 21 (some 25)) 22 (some 26)) 23 (some 27)) 24 (some 28)) 25 (some 29)) 26 (some 30)) 27 (some 31)) 28 (some 32))) 33 (fun _ => none)) 5 (va_up (va_up (va_up (va_up (va_up (va_up (va_up (va_up (va_up (va_up (va_up (va_up (va_up (va_up (va_up (va_up (va_up (va_up (va_up (va_up (va_up (va_up (va_up (va_up (va_up (va_up (va_up (va_up (fun _ => none) 1 (some 6)) 2 (some 7)) 3 (some 8)) 4 (some 9)) 5 (some 10)) 6 (some 11)) 7 (some 12)) 8 (some 13)) 9 (some 14)) 11 (some 15)) 12 (some 16)) 13 (some 17)) 14 (some 18)) 15 (some 19)) 16 (some 20)) 17 (some 21)) 18 (some 22)) 19 (some 23)) 20 (some 24)) 21 (some 25)) 22 (some 26)) 23 (some 27)) 24 (some 28)) 25 (some 29)) 26 (some 30)) 27 (some 31)) 28 (some 32)) 29 (some 33))) 34 (fun _ => none)) 5 (va_up (va_up (va_up (va_up (va_up (va_up (va_up (va_up (va_up (va_up (va_up (va_up (va_up (va_up (va_up (va_up (va_up (va_up (va_up (va_up (va_up (va_up (va_up (va_up (va_up (va_up (va_up (va_up (va_up (fun _ => none) 1 (some 6)) 2 (some 7)) 3 (some 8)) 4 (some 9)) 5 (some 10)) 6 (some 11)) 7 (some 12)) 8 (some 13)) 9 (some 14)) 11 (some 15)) 12 (some 16)) 13 (some 17)) 14 (some 18)) 15 (some 19)) 16 (some 20)) 17 (some 21)) 18 (some 22)) 19 (some 23)) 20 (some 24)) 21 (some 25)) 22 (some 26)) 23 (some 27)) 24 (some 28)) 25 (some 29)) 26 (some 30)) 27 (some 31)) 28 (some 32)) 29 (some 33)) 30 (some 34))) 35 (fun _ => none)) 5 (va_up (va_up (va_up (va_up (va_up (va_up (va_up (va_up (va_up (va_up (va_up (va_up (va_up (va_up (va_up (va_up (va_up (va_up (va_up (va_up (va_up (va_up (va_up (va_up (va_up (va_up (va_up (va_up (va_up (va_up (fun _ => none) 1 (some 6)) 2 (some 7)) 3 (some 8)) 4 (some 9)) 5 (some 10)) 6 (some 11)) 7 (some 12)) 8 (some 13)) 9 (some 14)) 11 (some 15)) 12 (some 16)) 13 (some 17)) 14 (some 18)) 15 (some 19)) 16 (some 20)) 17 (some 21)) 18 (some 22)) 19 (some 23)) 20 (some 24)) 21 (some 25)) 22 (some 26)) 23 (some 27)) 24 (some 28)) 25 (some 29)) 26 (some 30)) 27 (some 31)) 28 (some 32)) 29 (some 33)) 30 (some 34)) 31 (some 35))) 36 (fun _ => none)) 5 (va_up (va_up (va_up (va_up (va_up (va_up (va_up (va_up (va_up (va_up (va_up (va_up (va_up (va_up (va_up (va_up (va_up (va_up (va_up (va_up (va_up (va_up (va_up (va_up (va_up (va_up (va_up (va_up (va_up (va_up (va_up (fun _ => none) 1 (some 6)) 2 (some 7)) 3 (some 8)) 4 (some 9)) 5 (some 10)) 6 (some 11)) 7 (some 12)) 8 (some 13)) 9 (some 14)) 11 (some 15)) 12 (some 16)) 13 (some 17)) 14 (some 18)) 15 (some 19)) 16 (some 20)) 17 (some 21)) 18 (some 22)) 19 (some 23)) 20 (some 24)) 21 (some 25)) 22 (some 26)) 23 (some 27)) 24 (some 28)) 25 (some 29)) 26 (some 30)) 27 (some 31)) 28 (some 32)) 29 (some 33)) 30 (some 34)) 31 (some 35)) 32 (some 36))) 37 (fun _ => none)) 5 (va_up (va_up (va_up (va_up (va_up (va_up (va_up (va_up (va_up (va_up (va_up (va_up (va_up (va_up (va_up (va_up (va_up (va_up (va_up (va_up (va_up (va_up (va_up (va_up (va_up (va_up (va_up (va_up (va_up (va_up (va_up (va_up (fun _ => none) 1 (some 6)) 2 (some 7)) 3 (some 8)) 4 (some 9)) 5 (some 10)) 6 (some 11)) 7 (some 12)) 8 (some 13)) 9 (some 14)) 11 (some 15)) 12 (some 16)) 13 (some 17)) 14 (some 18)) 15 (some 19)) 16 (some 20)) 17 (some 21)) 18 (some 22)) 19 (some 23)) 20 (some 24)) 21 (some 25)) 22 (some 26)) 23 (some 27)) 24 (some 28)) 25 (some 29)) 26 (some 30)) 27 (some 31)) 28 (some 32)) 29 (some 33)) 30 (some 34)) 31 (some 35)) 32 (some 36)) 33 (some 37))) 38 (fun _ => none)) 5 (va_up (va_up (va_up (va_up (va_up (va_up (va_up (va_up (va_up (va_up (va_up (va_up (va_up (va_up (va_up (va_up (va_up (va_up (va_up (va_up (va_up (va_up (va_up (va_up (va_up (va_up (va_up (va_up (va_up (va_up (va_up (va_up (va_up (fun _ => none) 1 (some 6)) 2 (some 7)) 3 (some 8)) 4 (some 9)) 5 (some 10)) 6 (some 11)) 7 (some 12)) 8 (some 13)) 9 (some 14)) 11 (some 15)) 12 (some 16)) 13 (some 17)) 14 (some 18)) 15 (some 19)) 16 (some 20)) 17 (some 21)) 18 (some 22)) 19 (some 23)) 20 (some 24)) 21 (some 25)) 22 (some 26)) 23 (some 27)) 24 (some 28)) 25 (some 29)) 26 (some 30)) 27 (some 31)) 28 (some 32)) 29 (some 33)) 30 (some 34)) 31 (some 35)) 32 (some 36)) 33 (some 37)) 38 (some 38))) 39 (fun _ => none)) 5 (va_up (va_up (va_up (va_up (va_up (va_up (va_up (va_up (va_up (va_up (va_up (va_up (va_up (va_up (va_up (va_up (va_up (va_up (va_up (va_up (va_up (va_up (va_up (va_up (va_up (va_up (va_up (va_up (va_up (va_up (va_up (va_up (va_up (va_up (fun _ => none) 1 (some 6)) 2 (some 7)) 3 (some 8)) 4 (some 9)) 5 (some 10)) 6 (some 11)) 7 (some 12)) 8 (some 13)) 9 (some 14)) 11 (some 15)) 12 (some 16)) 13 (some 17)) 14 (some 18)) 15 (some 19)) 16 (some 20)) 17 (some 21)) 18 (some 22)) 19 (some 23)) 20 (some 24)) 21 (some 25)) 22 (some 26)) 23 (some 27)) 24 (some 28)) 25 (some 29)) 26 (some 30)) 27 (some 31)) 28 (some 32)) 29 (some 33)) 30 (some 34)) 31 (some 35)) 32 (some 36)) 33 (some 37)) 38 (some 38)) 39 (some 39))) 40 (fun _ => none)) 5 (va_up (va_up (va_up (va_up (va_up (va_up (va_up (va_up (va_up (va_up (va_up (va_up (va_up (va_up (va_up (va_up (va_up (va_up (va_up (va_up (va_up (va_up (va_up (va_up (va_up (va_up (va_up (va_up (va_up (va_up (va_up (va_up (va_up (va_up (va_up (fun _ => none) 1 (some 6)) 2 (some 7)) 3 (some 8)) 4 (some 9)) 5 (some 10)) 6 (some 11)) 7 (some 12)) 8 (some 13)) 9 (some 14)) 11 (some 15)) 12 (some 16)) 13 (some 17)) 14 (some 18)) 15 (some 19)) 16 (some 20)) 17 (some 21)) 18 (some 22)) 19 (some 23)) 20 (some 24)) 21 (some 25)) 22 (some 26)) 23 (some 27)) 24 (some 28)) 25 (some 29)) 26 (some 30)) 27 (some 31)) 28 (some 32)) 29 (some 33)) 30 (some 34)) 31 (some 35)) 32 (some 36)) 33 (some 37)) 38 (some 38)) 39 (some 39)) 41 (some 40)) := rfl
theorem c3I {b : Nat} {ac : Nat → ClassId} {a kf t : Nat} (hk2 : h_k h_2 a = t + 6) (ht : t = 0 ∨ t = 2) (hn2 : h_n h_2 a = m_len kf) (hI2 : h_I h_2 a = m_I M_1 kf) (ha : 6 ≤ a ∧ a < 41) (hf : m_fd a = kf) (hkd : m_kd kf = t) : cell_ b ac h_3 M_1 a = cell_ b ac h_2 M_0 a := by
  have e3 : h_k h_3 a = 0 := h_3_MR.2 a (by omega) ha.2
  have e1 : cell_ b ac h_3 M_1 a = .inl (ac t, m_len kf, .inl (m_I M_1 kf)) := by
    unfold cell_ cell_m
    rw [if_pos e3, if_neg (by omega), hf, hkd, if_neg (by omega)]
  rw [e1]
  rcases ht with rfl | rfl
  · rw [cell_I hk2, hn2, hI2]
  · rw [cell_Z hk2, hn2, hI2]
theorem c3J {b : Nat} {ac : Nat → ClassId} {a kf : Nat} (hk2 : h_k h_2 a = 7) (hn2 : h_n h_2 a = m_len kf) (hI2 : h_J h_2 a = m_J M_1 kf) (ha : 6 ≤ a ∧ a < 41) (hf : m_fd a = kf) (hkd : m_kd kf = 1) : cell_ b ac h_3 M_1 a = cell_ b ac h_2 M_0 a := by
  have e3 : h_k h_3 a = 0 := h_3_MR.2 a (by omega) ha.2
  have e1 : cell_ b ac h_3 M_1 a = .inl (ac 1, m_len kf, .inr (.inl (m_J M_1 kf))) := by
    unfold cell_ cell_m
    rw [if_pos e3, if_neg (by omega), hf, hkd, if_pos rfl]
  rw [e1, cell_J hk2, hn2, hI2]
set_option maxRecDepth 100000 in
theorem c3M {b : Nat} : ∀ k, k < 42 → m_val b M_1 k = f_val b h_2 4 5 k := by
  intro k hk
  unfold f_val
  rw [h_2_I, h_2_J, h_2_R]
  match k, hk with
  | 0, _ => rfl
  | 1, _ => rfl
  | 2, _ => rfl
  | 3, _ => rfl
  | 4, _ => rfl
  | 5, _ => rfl
  | 6, _ => rfl
  | 7, _ => rfl
  | 8, _ => rfl
  | 9, _ => rfl
  | 10, _ => rfl
  | 11, _ => rfl
  | 12, _ => rfl
  | 13, _ => rfl
  | 14, _ => rfl
  | 15, _ => rfl
  | 16, _ => rfl
  | 17, _ => rfl
  | 18, _ => rfl
  | 19, _ => rfl
  | 20, _ => rfl
  | 21, _ => rfl
  | 22, _ => rfl
  | 23, _ => rfl
  | 24, _ => rfl
  | 25, _ => rfl
  | 26, _ => rfl
  | 27, _ => rfl
  | 28, _ => rfl
  | 29, _ => rfl
  | 30, _ => rfl
  | 31, _ => rfl
  | 32, _ => rfl
  | 33, _ => rfl
  | 34, _ => rfl
  | 35, _ => rfl
  | 36, _ => rfl
  | 37, _ => rfl
  | 38, _ => rfl
  | 39, _ => rfl
  | 40, _ => rfl
  | 41, _ => rfl
  | n + 42, h => exact absurd h (by omega)
theorem c35 {b : Nat} {ac : Nat → ClassId} : cell_ b ac h_3 M_1 5 = cell_ b ac h_2 M_0 5 := by
  rw [cell_mo h_3_MR, cell_obj (ci := 4) (h := h_2) (by rw [h_2_kind]; rfl) (by decide)]
  rw [show (List.range 42).map (m_val b M_1) = f_fs b h_2 4 5 from List.map_congr_left fun k hk => c3M k (List.mem_range.mp hk)]
set_option maxRecDepth 100000 in
set_option maxHeartbeats 4000000 in
theorem h_3_cell {b : Nat} {ac : Nat → ClassId} : ∀ a, a < 41 → cell_ b ac h_3 M_1 a = cell_ b ac h_2 M_0 a := by
  intro a ha
  match a, ha with
  | 0, _ => exact gh_S (by decide) (by rw [h_2_kind]; decide)
  | 1, _ => exact gh_S (by decide) (by rw [h_2_kind]; decide)
  | 2, _ => exact gh_S (by decide) (by rw [h_2_kind]; decide)
  | 3, _ => exact gh_S (by decide) (by rw [h_2_kind]; decide)
  | 4, _ => exact gh_S (by decide) (by rw [h_2_kind]; decide)
  | 5, _ => exact c35
  | 6, _ => exact c3I (kf := 1) (t := 0) (by rw [h_2_kind]; rfl) (by decide) (by rw [h_2_n]; rfl) (by rw [h_2_I]; rfl) (by decide) rfl rfl
  | 7, _ => exact c3I (kf := 2) (t := 0) (by rw [h_2_kind]; rfl) (by decide) (by rw [h_2_n]; rfl) (by rw [h_2_I]; rfl) (by decide) rfl rfl
  | 8, _ => exact c3I (kf := 3) (t := 0) (by rw [h_2_kind]; rfl) (by decide) (by rw [h_2_n]; rfl) (by rw [h_2_I]; rfl) (by decide) rfl rfl
  | 9, _ => exact c3J (kf := 4) (by rw [h_2_kind]; rfl) (by rw [h_2_n]; rfl) (by rw [h_2_J]; rfl) (by decide) rfl rfl
  | 10, _ => exact c3I (kf := 5) (t := 2) (by rw [h_2_kind]; rfl) (by decide) (by rw [h_2_n]; rfl) (by rw [h_2_I]; rfl) (by decide) rfl rfl
  | 11, _ => exact c3J (kf := 6) (by rw [h_2_kind]; rfl) (by rw [h_2_n]; rfl) (by rw [h_2_J]; rfl) (by decide) rfl rfl
  | 12, _ => exact c3I (kf := 7) (t := 0) (by rw [h_2_kind]; rfl) (by decide) (by rw [h_2_n]; rfl) (by rw [h_2_I]; rfl) (by decide) rfl rfl
  | 13, _ => exact c3I (kf := 8) (t := 0) (by rw [h_2_kind]; rfl) (by decide) (by rw [h_2_n]; rfl) (by rw [h_2_I]; rfl) (by decide) rfl rfl
  | 14, _ => exact c3J (kf := 9) (by rw [h_2_kind]; rfl) (by rw [h_2_n]; rfl) (by rw [h_2_J]; rfl) (by decide) rfl rfl
  | 15, _ => exact c3I (kf := 11) (t := 0) (by rw [h_2_kind]; rfl) (by decide) (by rw [h_2_n]; rfl) (by rw [h_2_I]; rfl) (by decide) rfl rfl
  | 16, _ => exact c3I (kf := 12) (t := 0) (by rw [h_2_kind]; rfl) (by decide) (by rw [h_2_n]; rfl) (by rw [h_2_I]; rfl) (by decide) rfl rfl
  | 17, _ => exact c3I (kf := 13) (t := 0) (by rw [h_2_kind]; rfl) (by decide) (by rw [h_2_n]; rfl) (by rw [h_2_I]; rfl) (by decide) rfl rfl
  | 18, _ => exact c3I (kf := 14) (t := 0) (by rw [h_2_kind]; rfl) (by decide) (by rw [h_2_n]; rfl) (by rw [h_2_I]; rfl) (by decide) rfl rfl
  | 19, _ => exact c3I (kf := 15) (t := 0) (by rw [h_2_kind]; rfl) (by decide) (by rw [h_2_n]; rfl) (by rw [h_2_I]; rfl) (by decide) rfl rfl
  | 20, _ => exact c3I (kf := 16) (t := 0) (by rw [h_2_kind]; rfl) (by decide) (by rw [h_2_n]; rfl) (by rw [h_2_I]; rfl) (by decide) rfl rfl
  | 21, _ => exact c3I (kf := 17) (t := 0) (by rw [h_2_kind]; rfl) (by decide) (by rw [h_2_n]; rfl) (by rw [h_2_I]; rfl) (by decide) rfl rfl
  | 22, _ => exact c3I (kf := 18) (t := 0) (by rw [h_2_kind]; rfl) (by decide) (by rw [h_2_n]; rfl) (by rw [h_2_I]; rfl) (by decide) rfl rfl
  | 23, _ => exact c3I (kf := 19) (t := 0) (by rw [h_2_kind]; rfl) (by decide) (by rw [h_2_n]; rfl) (by rw [h_2_I]; rfl) (by decide) rfl rfl
  | 24, _ => exact c3I (kf := 20) (t := 0) (by rw [h_2_kind]; rfl) (by decide) (by rw [h_2_n]; rfl) (by rw [h_2_I]; rfl) (by decide) rfl rfl
  | 25, _ => exact c3I (kf := 21) (t := 0) (by rw [h_2_kind]; rfl) (by decide) (by rw [h_2_n]; rfl) (by rw [h_2_I]; rfl) (by decide) rfl rfl
  | 26, _ => exact c3I (kf := 22) (t := 0) (by rw [h_2_kind]; rfl) (by decide) (by rw [h_2_n]; rfl) (by rw [h_2_I]; rfl) (by decide) rfl rfl
  | 27, _ => exact c3I (kf := 23) (t := 0) (by rw [h_2_kind]; rfl) (by decide) (by rw [h_2_n]; rfl) (by rw [h_2_I]; rfl) (by decide) rfl rfl
  | 28, _ => exact c3J (kf := 24) (by rw [h_2_kind]; rfl) (by rw [h_2_n]; rfl) (by rw [h_2_J]; rfl) (by decide) rfl rfl
  | 29, _ => exact c3I (kf := 25) (t := 0) (by rw [h_2_kind]; rfl) (by decide) (by rw [h_2_n]; rfl) (by rw [h_2_I]; rfl) (by decide) rfl rfl
  | 30, _ => exact c3I (kf := 26) (t := 0) (by rw [h_2_kind]; rfl) (by decide) (by rw [h_2_n]; rfl) (by rw [h_2_I]; rfl) (by decide) rfl rfl
  | 31, _ => exact c3J (kf := 27) (by rw [h_2_kind]; rfl) (by rw [h_2_n]; rfl) (by rw [h_2_J]; rfl) (by decide) rfl rfl
  | 32, _ => exact c3I (kf := 28) (t := 0) (by rw [h_2_kind]; rfl) (by decide) (by rw [h_2_n]; rfl) (by rw [h_2_I]; rfl) (by decide) rfl rfl
  | 33, _ => exact c3I (kf := 29) (t := 0) (by rw [h_2_kind]; rfl) (by decide) (by rw [h_2_n]; rfl) (by rw [h_2_I]; rfl) (by decide) rfl rfl
  | 34, _ => exact c3J (kf := 30) (by rw [h_2_kind]; rfl) (by rw [h_2_n]; rfl) (by rw [h_2_J]; rfl) (by decide) rfl rfl
  | 35, _ => exact c3I (kf := 31) (t := 0) (by rw [h_2_kind]; rfl) (by decide) (by rw [h_2_n]; rfl) (by rw [h_2_I]; rfl) (by decide) rfl rfl
  | 36, _ => exact c3I (kf := 32) (t := 0) (by rw [h_2_kind]; rfl) (by decide) (by rw [h_2_n]; rfl) (by rw [h_2_I]; rfl) (by decide) rfl rfl
  | 37, _ => exact c3J (kf := 33) (by rw [h_2_kind]; rfl) (by rw [h_2_n]; rfl) (by rw [h_2_J]; rfl) (by decide) rfl rfl
  | 38, _ => exact c3I (kf := 38) (t := 0) (by rw [h_2_kind]; rfl) (by decide) (by rw [h_2_n]; rfl) (by rw [h_2_I]; rfl) (by decide) rfl rfl
  | 39, _ => exact c3I (kf := 39) (t := 0) (by rw [h_2_kind]; rfl) (by decide) (by rw [h_2_n]; rfl) (by rw [h_2_I]; rfl) (by decide) rfl rfl
  | 40, _ => exact c3I (kf := 41) (t := 2) (by rw [h_2_kind]; rfl) (by decide) (by rw [h_2_n]; rfl) (by rw [h_2_I]; rfl) (by decide) rfl rfl
  | n + 41, h => exact absurd h (by omega)
theorem a_ghost {v : Evx} {g : Gvx} {nL : Nat} {h h' : Hpx} {M M' : Msx} {k n pc : Nat} {lv : List (Nat × Vlx)} {st : List Vlx} (hz : h_z h' = h_z h) (hc : ∀ a, a < h_z h → cell_ g.2.2 g.2.1 h' M' a = cell_ g.2.2 g.2.1 h M a) (hk : ∀ a, h_z h' ≤ a → h_k h' a = 0) (kk : At_ v g nL h' M' k n pc lv st) : At_ v g nL h M k n pc lv st := fun H locs ls w hl => by
  refine kk H locs ls ⟨by rw [hz]; exact w.1, ?_, w.2.2.1, hk⟩ hl
  intro i q hq
  have h1 := ws_some hq
  rw [hz] at h1
  rw [h1.2, hc i h1.1]
  exact w.2.1 i _ (ws_get h1.1 rfl)
theorem arr_of {ty : FieldType} {s : State} {args : Array Value} (hp : ∀ C, ty ≠ .object C) (h : (Cond.arrayClass ty).before args s = true) : ∃ c : ClassId, ArrOfT s c ty ∧ va_RA s c ty := by
  obtain ⟨c, k, comp, h1, h2, h3⟩ := Cond.arrayClass_spec h
  refine ⟨c, fun n z => ⟨(fun k h => by cases h), k, h2, comp, h3⟩, ?_⟩
  cases ty with
  | object C => exact absurd rfl (hp C)
  | _ => exact h1
theorem arr_ofR {C : String} {s : State} {args : Array Value} (h : (Cond.arrayOver (.object C)).before args s = true) : ∃ c : ClassId, ArrOfT s c (.object C) ∧ va_RA s c (.object C) := by
  obtain ⟨comp, c, k, h1, h2, h3, h4, h5⟩ := Cond.arrayOver_spec h
  exact ⟨c, fun n z => ⟨(fun k h => by cases h), k, h3, comp, h4⟩, k, comp, h3, h4, h1, h5⟩
set_option maxHeartbeats 4000000 in
theorem whole_of (Inv : Nat → Hpx → Msx → Prop) (hI0 : ∀ n h M, Inv n h M → MR_ h ∧ h_k h 0 = 4) (hmo : ∀ n h M, Inv n h M → Inv (n + 1) h M) (oks : Oks_ Inv) (hi : Inv 0 h_3 M_1) {p : Program} {e : Env} {s : State} {m : MethodId} {below : List Frame} {meth : Method} {c : Code} (l : Launch) {b L : Nat} {xs : Nat → Int32} (hL : L ≤ 3072) (C0 : lw_At p s m meth c b L xs) : W p l e room_1 s m #[Value.ref b] below meth c s.heap [] 0 0 (lw_Z below #[Value.ref b] s) (entryFrame m ([Value.ref b] : List Value).toArray 4) := by
  obtain ⟨hx, hb, hr, hml, hown, hts0, hX, hbl, hlocks, hgv⟩ := id C0
  have hts : ∀ w ∈ lw_g, w.before #[Value.ref b] s = true := fun w hw => hts0 w (List.mem_filter.mp hw).1
  obtain ⟨c0, iS0, hKn0⟩ := u_known (C := RX0) (T := TX0) (N := 7) (n := 7) hts iX0 (hts _ ib_X0)
  obtain ⟨c1, iS1, hKn1⟩ := u_known (C := RX1) (T := TX1) (N := 15) (n := 15) hts iX1 (hts _ ib_X1)
  obtain ⟨c2, iS2, hKn2⟩ := u_known (C := RX2) (T := TX2) (N := 7) (n := 7) hts iX2 (hts _ ib_X2)
  obtain ⟨c3, iS3, hKn3⟩ := u_known (C := RX3) (T := TX3) (N := 12) (n := 12) hts iX3 (hts _ ib_X3)
  obtain ⟨c4, iS4, hKn4⟩ := u_known (C := RX4) (T := TX4) (N := 42) (n := 42) hts iX4 (hts _ ib_X4)
  obtain ⟨a0, hA0⟩ := arr_of (ty := .int) (fun C h => by cases h) (hts _ arc_Jvm_ClassFile_FieldType_int)
  obtain ⟨a1, hA1⟩ := arr_of (ty := .long) (fun C h => by cases h) (hts _ arc_Jvm_ClassFile_FieldType_long)
  obtain ⟨a2, hA2⟩ := arr_of (ty := .boolean) (fun C h => by cases h) (hts _ arc_Jvm_ClassFile_FieldType_boolean)
  obtain ⟨a3, hA3⟩ := arr_ofR (hts0 _ aro_Jvm_ClassFile_FieldType_object_RingPost_Message)
  obtain ⟨a4, hA4⟩ := arr_ofR (hts0 _ aro_Jvm_ClassFile_FieldType_object_RingPost_Ring)
  obtain ⟨a5, hA5⟩ := arr_ofR (hts0 _ aro_Jvm_ClassFile_FieldType_object_RingPost_Reader)
  obtain ⟨D, hKc⟩ : ∃ D : va_G, ∀ (k : Nat) (q : vw_C), cls_[k]? = some q → u_Kn s q.1 q.2.1 q.2.2 (D.1 k) (D.2 k) := by
    refine ⟨(fun k => match k with | 0 => c0 | 1 => c1 | 2 => c2 | 3 => c3 | _ => c4, fun k => match k with | 0 => iS0 | 1 => iS1 | 2 => iS2 | 3 => iS3 | _ => iS4), ?_⟩
    intro k q hq
    match k, hq with
    | 0, hq => cases hq; exact hKn0
    | 1, hq => cases hq; exact hKn1
    | 2, hq => cases hq; exact hKn2
    | 3, hq => cases hq; exact hKn3
    | 4, hq => cases hq; exact hKn4
    | k + 5, hq => simp [cls_] at hq
  obtain ⟨ac, hac⟩ : ∃ ac : Nat → ClassId, ∀ (k : Nat) (q : ClassId × FieldType), (tys_ ac)[k]? = some q → ArrOfT s q.1 q.2 ∧ va_RA s q.1 q.2 := by
    refine ⟨fun k => match k with | 0 => a0 | 1 => a1 | 2 => a2 | 3 => a3 | 4 => a4 | _ => a5, ?_⟩
    intro k q hq
    match k, hq with
    | 0, hq => cases hq; exact hA0
    | 1, hq => cases hq; exact hA1
    | 2, hq => cases hq; exact hA2
    | 3, hq => cases hq; exact hA3
    | 4, hq => cases hq; exact hA4
    | 5, hq => cases hq; exact hA5
    | k + 6, hq => simp [tys_] at hq
  have X : Cx_ (p, l, e, room_1, s, m, #[Value.ref b], below, meth, c, lw_Z below #[Value.ref b] s) (D, ac, s.heap.size) code 4 RL meth.name ret room_1 := ⟨hx, hb, hml, hown, hts, ⟨hKc, hac⟩, Nat.le_refl _, rfl, hr, hlocks, rfl, va_AO.of (hts0 _ aro_Jvm_ClassFile_FieldType_object_RingPost_Message), va_AO.of (hts0 _ aro_Jvm_ClassFile_FieldType_object_RingPost_Reader), va_AO.of (hts0 _ aro_Jvm_ClassFile_FieldType_object_RingPost_Ring)⟩
  generalize hv : ((p, l, e, room_1, s, m, #[Value.ref b], below, meth, c, lw_Z below #[Value.ref b] s) : Evx) = v at X
  generalize hg : ((D, ac, s.heap.size) : Gvx) = g at X
  have hXv : va_X b L xs (e_s v) (e_s v).heap := by rw [← hv]; exact hX
  have hblv : b < (e_s v).heap.size := by rw [← hv]; exact hbl
  have hbav : ¬ g.2.2 ≤ b := by rw [← hg]; exact Nat.not_le.mpr hbl
  have hQ : ∀ (h : Hpx) (M : Msx) (k n : Nat), k ≤ 1196082 → n ≤ 5514002 → At_ v g 4 h M k n 1165 [] [v_I 1] := by
    intro h M k n h1 h2 H locs ls w hl
    subst hv
    subst hg
    refine va_forget (fun q hq => w.2.2.1.2.2 q hq) ?_
    refine W.widen (k := 1196082) (n := 5514002) h1 h2 ?_
    exact lw_ret hx hb hr hlocks dL_law_1165
  have K : At_ v g 4 h_0 M_0 0 0 0 [(0, v_X b)] [] := by
    refine a_new (k' := 1) (n' := 12) X 3 (by decide) cl_L_7 ib_X3 ini_X3 (by decide) rfl rfl dL_law_0 ?_
    refine a_dup X dL_law_3 rfl ?_
    refine a_callI (k' := 5) (n' := 59) (st := [v_R (some 0)]) X (c_X3_init h_1_eq) yi_X3_init ml_L_9 rfl ⟨by decide, by decide, by decide, by decide, Nat.le_of_ble_eq_true rfl⟩ rfl rfl dL_law_4 rfl ?_
    refine a_astore_n (lv' := [(0, v_X b), (1, v_R (some 0))]) X dL_law_7 (by decide) rfl ?_
    refine a_new (k' := 5 + 1) (n' := 59 + 42) X 4 (by decide) cl_L_10 ib_X4 ini_X4 (by decide) rfl rfl dL_law_8 ?_
    rw [h_1_z]
    refine a_dup X dL_law_11 rfl ?_
    refine a_callI (k' := 41) (n' := 13008) (st := [v_R (some 5)]) X (c_X4_init h_2_eq) yi_X4_init ml_L_12 rfl ⟨by decide, by decide, by decide, by decide, Nat.le_of_ble_eq_true rfl⟩ rfl rfl dL_law_12 rfl ?_
    refine a_astore_n (lv' := [(0, v_X b), (1, v_R (some 0)), (2, v_R (some 5))]) X dL_law_15 (by decide) rfl ?_
    refine a_iconst (x := 0) X dL_law_16 (by decide) ?_
    refine a_istore_n (lv' := [(0, v_X b), (1, v_R (some 0)), (2, v_R (some 5)), (3, v_I (0 : Int32))]) X dL_law_17 (by decide) rfl ?_
    refine a_ghost (h' := h_3) (M' := M_1) (gh_z h_2) (fun a ha => h_3_cell a (by rw [h_2_z] at ha; exact ha)) (fun a ha => h_3_k0 a (by rw [h_3, gh_z, h_2_z] at ha; exact ha)) ?_
    exact lw_loop X hXv hblv hbav hL hI0 hmo oks hQ (L + 1) 0 h_3 M_1 _ _ (by omega) (by omega) hi (by omega) (by omega)
  have hl := lv_entry ([.ref b]) (n := 4) (Nat.le_of_ble_eq_true rfl)
  rw [lg_entry_eq]
  generalize (lg_sl ([.ref b]) ++ List.replicate (4 - (lg_sl ([.ref b])).length) Slot.unset).toArray = ls at hl ⊢
  have w : Wd_ v g h_0 M_0 s.heap [] := by
    subst hv
    subst hg
    exact ⟨rfl, fun k q h => by simp [ws_, h_0, h_z] at h, va_S.rf, fun _ _ => rfl⟩
  have K1 := K s.heap [] ls w hl
  subst hv
  subst hg
  exact K1
