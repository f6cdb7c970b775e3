/-! names for the walks: a value is bound, a loop with a bound on its rounds -/
def b_d {α β : Type} (x : α) (f : α → Option β) : Option β := f x
theorem i_d {α ρ : Type} {res : ρ} {x : α} {F : α → Option ρ} (hm : b_d x F = some res) : ∃ y, y = x ∧ F y = some res := ⟨x, rfl, hm⟩
def lp_ {α : Type} (F : α → α) (z : α) : Nat → α
  | 0 => z
  | n + 1 => F (lp_ F z n)
theorem kk_I {h h' : Hpx} {a k b c : Nat} {x : Int32} (e : h' = s_I h a k x) (q : h_k h b = c) : h_k h' b = c := by rw [e]; exact q
theorem kk_J {h h' : Hpx} {a k b c : Nat} {x : Int64} (e : h' = s_J h a k x) (q : h_k h b = c) : h_k h' b = c := by rw [e]; exact q
theorem kk_R {h h' : Hpx} {a k b c : Nat} {x : Option Nat} (e : h' = s_R h a k x) (q : h_k h b = c) : h_k h' b = c := by rw [e]; exact q
theorem kk_C {h h' : Hpx} {a k b c s d n : Nat} (e : h' = c_J h a k s d n) (q : h_k h b = c) : h_k h' b = c := by rw [e]; exact q
theorem nn_I {h h' : Hpx} {a k b : Nat} {x i : Int32} (e : h' = s_I h a k x) (q : in_b i (h_n h b) = true) : in_b i (h_n h' b) = true := by rw [e]; exact q
theorem nn_J {h h' : Hpx} {a k b : Nat} {i : Int32} {x : Int64} (e : h' = s_J h a k x) (q : in_b i (h_n h b) = true) : in_b i (h_n h' b) = true := by rw [e]; exact q
theorem nn_R {h h' : Hpx} {a k b : Nat} {i : Int32} {x : Option Nat} (e : h' = s_R h a k x) (q : in_b i (h_n h b) = true) : in_b i (h_n h' b) = true := by rw [e]; exact q
theorem nn_C {h h' : Hpx} {a k b s d n : Nat} {i : Int32} (e : h' = c_J h a k s d n) (q : in_b i (h_n h b) = true) : in_b i (h_n h' b) = true := by rw [e]; exact q
theorem mr5_ {h : Hpx} (hm : MR_ h) : 5 = 5 ∧ 4 = 4 ∧ h_k h 5 = 0 ∧ 5 < h_z h := ⟨rfl, rfl, hm.2 5 (by omega) (by omega), by have := hm.1; omega⟩
