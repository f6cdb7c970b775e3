/-! the law's start: the two new objects, then the loop -/
def h_0 : Hpx := (fun _ => 0, fun _ => 0, 0, fun _ _ => 0, fun _ _ => 0, fun _ _ => none)
def M_0 : Msx := (fun _ _ => 0, fun _ _ => 0)
def h_1 : Hpx := match f_X3_init (h_new h_0 4 0) 0 with
  | some h => h
  | none => h_0
def h_2 : Hpx := match f_X4_init (h_new h_1 5 0) 5 with
  | some h => h
  | none => h_0
def h_3 : Hpx := (fun a => if 5 ≤ a ∧ a < 41 then 0 else h_k h_2 a, h_n h_2, h_z h_2, h_I h_2, h_J h_2, h_R h_2)
def M_1 : Msx := n_I M_0 36 0 (-1)
set_option maxRecDepth 100000 in
theorem h_1_eq : f_X3_init (h_new h_0 4 0) 0 = some h_1 := by rfl
set_option maxRecDepth 100000 in
theorem h_1_z : h_z h_1 = 5 := by rfl
set_option maxRecDepth 100000 in
theorem h_2_eq : f_X4_init (h_new h_1 5 0) 5 = some h_2 := by rfl
set_option maxRecDepth 100000 in
theorem h_2_z : h_z h_2 = 41 := by rfl
