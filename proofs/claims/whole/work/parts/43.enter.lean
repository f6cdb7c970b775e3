/-! a slot's message becomes another's -/
def bcH (h : Hpx) (a b wa wb : Nat) : Hpx := c_J (s_I (s_I (s_J (s_I (s_I h a 1 (h_I h b 1)) a 2 (h_I h b 2)) a 3 (h_J h b 3)) a 4 (h_I h b 4)) a 5 (h_I h b 5)) wb wa 0 0 8
theorem become_c {h : Hpx} {a b wa wb : Nat} (hab : b ≠ a) (ka : h_k h a = 1) (kb : h_k h b = 1) (ra : h_R h a 0 = some wa) (rb : h_R h b 0 = some wb) (kwa : h_k h wa = 7) (kwb : h_k h wb = 7) (na : h_n h wa = 8) (nb : h_n h wb = 8) : f_X0_become h a (some b) = some (bcH h a b wa wb) := by
  unfold f_X0_become bcH
  have e2 : h_I (s_I h a 1 (h_I h b 1)) b 2 = h_I h b 2 := sI_n (by omega)
  have e3 : h_J (s_I (s_I h a 1 (h_I h b 1)) a 2 (h_I h b 2)) b 3 = h_J h b 3 := rfl
  have e4 : h_I (s_J (s_I (s_I h a 1 (h_I h b 1)) a 2 (h_I h b 2)) a 3 (h_J h b 3)) b 4 = h_I h b 4 := by rw [IsJ, sI_n (by omega), sI_n (by omega)]
  have e5 : h_I (s_I (s_J (s_I (s_I h a 1 (h_I h b 1)) a 2 (h_I h b 2)) a 3 (h_J h b 3)) a 4 (h_I h b 4)) b 5 = h_I h b 5 := by rw [sI_n (by omega), IsJ, sI_n (by omega), sI_n (by omega)]
  simp only [Option.bind_some, ka, kb, if_true, b_d_eq, e2, e3, e4, e5, RsI, RsJ, ra, rb, ksI, ksJ, nsI, nsJ, kwa, kwb, na, nb]
  rw [if_pos (by decide)]
  rfl
theorem nI_id {M : Msx} {f i : Nat} {x : Int32} (e : m_I M f i = x) : n_I M f i x = M := Ms_ext (fun a b => by
  rw [nI_at]
  by_cases z : a = f ∧ b = i
  · rw [if_pos z, z.1, z.2, e]
  · rw [if_neg z]) (fun _ _ => rfl)
/-- the reference's entry: q0 the claim's number, t the slot, u the entry -/
def emM (t u : Nat) (q0 : Int32) (M : Msx) : Msx := cpM 33 (8 * u) (fun i => m_J M 9 (8 * t + i)) 8 (n_I (n_I (n_J (n_I M 29 u q0) 30 u (m_J M 6 t)) 31 u (m_I M 7 t)) 32 u (m_I M 8 t))
/-- what the class has of it, at the entry's cell v -/
def egM (t v : Nat) (M X : Msx) : Msx := cpM 65 (8 * v) (fun i => m_J M 9 (8 * t + i)) 8 (n_I (n_I (n_J (n_I (n_I X 57 v (m_I M 52 t)) 61 v (m_I M 53 t)) 64 v (m_J M 6 t)) 62 v (m_I M 7 t)) 63 v (m_I M 8 t))
def enM (t u v : Nat) (q0 : Int32) (M : Msx) : Msx := egM t v M (emM t u q0 M)
/-- a reader's numbers, where places, what is kept, or entries change -/
theorem Wd_x {n n' : Nat} {M M' : Msx} {j : Nat} (w : Wd_n n M j) (e : ∀ g, g = 11 ∨ g = 14 ∨ g = 16 ∨ g = 17 ∨ g = 56 → m_I M' g j = m_I M g j) (e4 : ∀ g, g = 12 ∨ g = 15 → ∀ k, k < 4 → m_I M' g (4 * j + k) = m_I M g (4 * j + k))
    (hpl : ∀ k, k < rM M j → m_I M' 13 (4 * j + k) = nI (pL M' j k) ∧ pL M' j k ≤ cL M' (rG M j k))
    (h5 : kD M j ≠ 1 → kD M j ≠ 4 → (∀ k, k < rM M j → m_I M' 54 (8 * j + rG M j k) = m_I M' 13 (4 * j + k)) ∧ (∀ q, q < 8 → (∀ k, k < rM M j → rG M j k ≠ q) → m_I M' 54 (8 * j + q) = -1) ∧ m_I M' 55 j = m_I M 14 j)
    (h6 : kD M j = 1 ∨ kD M j = 4 → ∀ q, q < 8 → m_I M' 54 (8 * j + q) = -1)
    (h11 : (∃ y, y ≤ n' ∧ m_I M' 21 j = nI y ∧ (y = 0 → m_I M' 58 j = -1) ∧ (y ≠ 0 → m_I M' 58 j = m_I M' 23 j ∧ ¬ m_I M' 23 j < 0)) ∧ ∃ y, y < 32 ∧ m_I M' 25 j = nI y)
    (h12 : m_I M' 28 j = nI (eM M' j) ∧ eM M' j ≤ 32 ∧ (kD M j ≠ 4 → eM M' j = 0)) (h13 : kD M j = 4 → We_ M' j) (hR : nR M ≤ nR M') (hD : nD M ≤ nD M') : Wd_n n' M' j := by
  have k1 : kD M' j = kD M j := by unfold kD; rw [e 11 (by omega)]
  have k2 : rM M' j = rM M j := by unfold rM; rw [e 14 (by omega)]
  have k3 : nM M' j = nM M j := by unfold nM; rw [e 16 (by omega)]
  have k4 : tG M' j = tG M j := by unfold tG; rw [e 17 (by omega)]
  have k6 : ∀ k, k < 4 → rG M' j k = rG M j k := fun k hk => by unfold rG; rw [e4 12 (by omega) k hk]
  have k8 : ∀ k, k < 4 → nA M' j k = nA M j k := fun k hk => by unfold nA; rw [e4 15 (by omega) k hk]
  obtain ⟨w1, w2, w3, w4, w5, w6, w7, w8, w9, w10, w11, w12, w13⟩ := w
  unfold Wd_n
  rw [k1, k2, k3, k4, k6 0 (by omega), e 11 (by omega), e 14 (by omega), e 16 (by omega), e 17 (by omega), e 56 (by omega)]
  refine ⟨w1, w2, fun k hk => ?_, fun a b ha hb q => ?_, fun a1 a4 => ?_, h6, w7, fun k hk => ?_, fun i hi => ?_, fun a => ?_, h11, h12, h13⟩
  · have hk4 : k < 4 := by omega
    rw [k6 k hk4, e4 12 (by omega) k hk4]
    obtain ⟨b1, b2, b3, b4⟩ := w3 k hk
    obtain ⟨c1, c2⟩ := hpl k hk
    exact ⟨b1, by omega, c1, c2⟩
  · rw [k6 a (by omega), k6 b (by omega)] at q
    exact w4 a b ha hb q
  · obtain ⟨b1, b2, b3⟩ := h5 a1 a4
    refine ⟨fun k hk => ?_, fun q hq hno => ?_, b3⟩
    · rw [k6 k (by omega)]
      exact b1 k hk
    · exact b2 q hq fun k hk z => hno k hk (by rw [k6 k (by omega)]; exact z)
  · have hk4 : k < 4 := by omega
    rw [k8 k hk4, e4 15 (by omega) k hk4]
    obtain ⟨b1, b2⟩ := w8 k hk
    exact ⟨b1, by omega⟩
  · rw [w9 i hi]
    constructor
    · intro z k hk
      rw [k8 k (by omega)]
      exact z k hk
    · intro z k hk
      have := z k hk
      rw [k8 k (by omega)] at this
      exact this
  · obtain ⟨b1, b2, b3⟩ := w10 a
    exact ⟨b1, by omega, b3⟩
/-- places that stand -/
theorem pl_keep {n : Nat} {M M' : Msx} {j : Nat} (w : Wd_n n M j) (h8 : nR M ≤ 8) (e13 : ∀ k, k < 4 → m_I M' 13 (4 * j + k) = m_I M 13 (4 * j + k)) (e54 : ∀ q, q < 8 → m_I M' 54 (8 * j + q) = m_I M 54 (8 * j + q)) (e55 : m_I M' 55 j = m_I M 55 j) (hc : ∀ q, q < nR M → cL M q ≤ cL M' q) :
    (∀ k, k < rM M j → m_I M' 13 (4 * j + k) = nI (pL M' j k) ∧ pL M' j k ≤ cL M' (rG M j k)) ∧ (kD M j ≠ 1 → kD M j ≠ 4 → (∀ k, k < rM M j → m_I M' 54 (8 * j + rG M j k) = m_I M' 13 (4 * j + k)) ∧ (∀ q, q < 8 → (∀ k, k < rM M j → rG M j k ≠ q) → m_I M' 54 (8 * j + q) = -1) ∧ m_I M' 55 j = m_I M 14 j) ∧ (kD M j = 1 ∨ kD M j = 4 → ∀ q, q < 8 → m_I M' 54 (8 * j + q) = -1) := by
  obtain ⟨w1, w2, w3, w4, w5, w6, -⟩ := w
  refine ⟨fun k hk => ?_, fun a b => ?_, fun a q hq => ?_⟩
  · have hk4 : k < 4 := by omega
    have ep : pL M' j k = pL M j k := by unfold pL; rw [e13 k hk4]
    obtain ⟨b1, b2, b3, b4⟩ := w3 k hk
    rw [ep, e13 k hk4]
    exact ⟨b3, Nat.le_trans b4 (hc _ b2)⟩
  · obtain ⟨b1, b2, b3⟩ := w5 a b
    refine ⟨fun k hk => ?_, fun q hq hno => ?_, by rw [e55]; exact b3⟩
    · have hr := (w3 k hk).2.1
      rw [e54 _ (by omega), e13 k (by omega)]
      exact b1 k hk
    · rw [e54 q hq]
      exact b2 q hq hno
  · rw [e54 q hq]
    exact w6 a q hq
section EN
variable {n : Nat} {A B ow : Nat → Nat} {h : Hpx} {M Mm : Msx}
theorem em_ag {t u : Nat} {q0 : Int32} (a : Ag_ Mm M) : Ag_ (emM t u q0 Mm) (emM t u q0 M) := by
  unfold emM
  rw [show (fun i => m_J Mm 9 (8 * t + i)) = (fun i => m_J M 9 (8 * t + i)) by rw [(a 9 (by omega)).2], ← (a 6 (by omega)).2, ← (a 7 (by omega)).1, ← (a 8 (by omega)).1]
  exact cpM_ag (ag_cI (ag_cI (ag_cJ (ag_cI a)))) 8
theorem eg_ag {t v : Nat} {X : Msx} (a : Ag_ Mm X) : Ag_ Mm (egM t v M X) := by
  unfold egM
  exact cpM_agg (ag_g (ag_g (ag_gJ (ag_g (ag_g a (by omega) (by omega)) (by omega) (by omega)) (by omega) (by omega)) (by omega) (by omega)) (by omega) (by omega)) (by omega) (by omega) 8
theorem en_I {t u v : Nat} {q0 : Int32} (g q : Nat) : m_I (enM t u v q0 M) g q = if g = 63 ∧ q = v then m_I M 8 t else if g = 62 ∧ q = v then m_I M 7 t else if g = 61 ∧ q = v then m_I M 53 t else if g = 57 ∧ q = v then m_I M 52 t else if g = 32 ∧ q = u then m_I M 8 t else if g = 31 ∧ q = u then m_I M 7 t else if g = 29 ∧ q = u then q0 else m_I M g q := by
  unfold enM egM emM
  rw [cpM_I, nI_at, nI_at, nJ_I, nI_at, nI_at, cpM_I, nI_at, nI_at, nJ_I, nI_at]
theorem en_o {t u v : Nat} {q0 : Int32} {g : Nat} (h1 : g ≠ 63) (h2 : g ≠ 62) (h3 : g ≠ 61) (h4 : g ≠ 57) (h5 : g ≠ 32) (h6 : g ≠ 31) (h7 : g ≠ 29) : m_I (enM t u v q0 M) g = m_I M g := by
  funext q
  rw [en_I, if_neg (by omega), if_neg (by omega), if_neg (by omega), if_neg (by omega), if_neg (by omega), if_neg (by omega), if_neg (by omega)]
theorem en_Jo {t u v : Nat} {q0 : Int32} {g : Nat} (h1 : g ≠ 30) (h2 : g ≠ 33) (h3 : g ≠ 64) (h4 : g ≠ 65) : m_J (enM t u v q0 M) g = m_J M g := by
  unfold enM egM emM
  rw [cpM_o h4, nI_J, nI_J, n_J_o h3, nI_J, nI_J, cpM_o h2, nI_J, nI_J, n_J_o h1, nI_J]
theorem en_J30 {t u v q : Nat} {q0 : Int32} : m_J (enM t u v q0 M) 30 q = if q = u then m_J M 6 t else m_J M 30 q := by
  unfold enM egM emM
  rw [cpM_o (by omega), nI_J, nI_J, n_J_o (by omega), nI_J, nI_J, cpM_o (by omega), nI_J, nI_J, nJ_at, nI_J]
  by_cases e : q = u
  · rw [if_pos ⟨rfl, e⟩, if_pos e]
  · rw [if_neg (fun z => e z.2), if_neg e]
theorem en_J64 {t u v q : Nat} {q0 : Int32} : m_J (enM t u v q0 M) 64 q = if q = v then m_J M 6 t else m_J M 64 q := by
  unfold enM egM emM
  rw [cpM_o (by omega), nI_J, nI_J, nJ_at, nI_J, nI_J, cpM_o (by omega), nI_J, nI_J, n_J_o (by omega), nI_J]
  by_cases e : q = v
  · rw [if_pos ⟨rfl, e⟩, if_pos e]
  · rw [if_neg (fun z => e z.2), if_neg e]
theorem en_J33i {t u v i : Nat} {q0 : Int32} (hi : i < 8) : m_J (enM t u v q0 M) 33 (8 * u + i) = m_J M 9 (8 * t + i) := by
  unfold enM egM emM
  rw [cpM_o (by omega), nI_J, nI_J, n_J_o (by omega), nI_J, nI_J, cpM_in 8 hi]
theorem en_J33o {t u v q : Nat} {q0 : Int32} (hq : q < 8 * u ∨ 8 * u + 8 ≤ q) : m_J (enM t u v q0 M) 33 q = m_J M 33 q := by
  unfold enM egM emM
  rw [cpM_o (by omega), nI_J, nI_J, n_J_o (by omega), nI_J, nI_J, cpM_out 8 hq, nI_J, nI_J, n_J_o (by omega), nI_J]
theorem en_J65i {t u v i : Nat} {q0 : Int32} (hi : i < 8) : m_J (enM t u v q0 M) 65 (8 * v + i) = m_J M 9 (8 * t + i) := by
  unfold enM egM
  rw [cpM_in 8 hi]
theorem en_J65o {t u v q : Nat} {q0 : Int32} (hq : q < 8 * v ∨ 8 * v + 8 ≤ q) : m_J (enM t u v q0 M) 65 q = m_J M 65 q := by
  unfold enM egM emM
  rw [cpM_out 8 hq, nI_J, nI_J, n_J_o (by omega), nI_J, nI_J, cpM_o (by omega), nI_J, nI_J, n_J_o (by omega), nI_J]
theorem okJ65 {j p i : Nat} (hj : j < nD M) (h4 : kD M j = 4) (hp : p < 32) (hi : i < 8) : okJ M 65 (8 * (32 * j + p) + i) ∧ adJ A B 65 (8 * (32 * j + p) + i) = B j + 7 + 2 * p ∧ plJ 65 (8 * (32 * j + p) + i) = i := by
  have e1 : (8 * (32 * j + p) + i) / 256 = j := by omega
  have e2 : (8 * (32 * j + p) + i) / 8 % 32 = p := by omega
  have e3 : (8 * (32 * j + p) + i) % 8 = i := by omega
  refine ⟨by show _ / 256 < _ ∧ kD M (_ / 256) = 4; rw [e1]; exact ⟨hj, h4⟩, ?_, ?_⟩
  · simp only [adJ, e1, e2]
  · simp only [plJ, e3]
theorem Pn_enI {j p : Nat} (P : Pn_ A B ow h M) (hj : j < nD M) (h4 : kD M j = 4) (hp : p < 32) {f l : Nat} (x : Int32) (hf : (f = 57 ∧ l = 1) ∨ (f = 61 ∧ l = 2) ∨ (f = 62 ∧ l = 4) ∨ (f = 63 ∧ l = 5)) : Pn_ A B ow (s_I h (B j + 6 + 2 * p) l x) (n_I M f (32 * j + p) x) := by
  have e1 : (32 * j + p) / 32 = j := by omega
  have e2 : (32 * j + p) % 32 = p := by omega
  rcases hf with ⟨rfl, rfl⟩ | ⟨rfl, rfl⟩ | ⟨rfl, rfl⟩ | ⟨rfl, rfl⟩
  · have P1 := Pn_wI P (f := 57) (i := 32 * j + p) (by show _ / 32 < _ ∧ kD M (_ / 32) = 4; rw [e1]; exact ⟨hj, h4⟩) x (by omega) (by omega) (by omega) (by omega) (by omega) (by omega) (by omega)
    simp only [adI, plI, e1, e2] at P1
    exact P1
  · have P1 := Pn_wI P (f := 61) (i := 32 * j + p) (by show _ / 32 < _ ∧ kD M (_ / 32) = 4; rw [e1]; exact ⟨hj, h4⟩) x (by omega) (by omega) (by omega) (by omega) (by omega) (by omega) (by omega)
    simp only [adI, plI, e1, e2] at P1
    exact P1
  · have P1 := Pn_wI P (f := 62) (i := 32 * j + p) (by show _ / 32 < _ ∧ kD M (_ / 32) = 4; rw [e1]; exact ⟨hj, h4⟩) x (by omega) (by omega) (by omega) (by omega) (by omega) (by omega) (by omega)
    simp only [adI, plI, e1, e2] at P1
    exact P1
  · have P1 := Pn_wI P (f := 63) (i := 32 * j + p) (by show _ / 32 < _ ∧ kD M (_ / 32) = 4; rw [e1]; exact ⟨hj, h4⟩) x (by omega) (by omega) (by omega) (by omega) (by omega) (by omega) (by omega)
    simp only [adI, plI, e1, e2] at P1
    exact P1
theorem Pn_enJ {j p : Nat} (P : Pn_ A B ow h M) (hj : j < nD M) (h4 : kD M j = 4) (hp : p < 32) (x : Int64) : Pn_ A B ow (s_J h (B j + 6 + 2 * p) 3 x) (n_J M 64 (32 * j + p) x) := by
  have e1 : (32 * j + p) / 32 = j := by omega
  have e2 : (32 * j + p) % 32 = p := by omega
  have P1 := Pn_wJ P (f := 64) (i := 32 * j + p) (by show _ / 32 < _ ∧ kD M (_ / 32) = 4; rw [e1]; exact ⟨hj, h4⟩) x
  simp only [adJ, plJ, e1, e2] at P1
  exact P1
theorem Dm_tr {M1 M2 M3 : Msx} (a : Dm_ M1 M2) (b : Dm_ M2 M3) : Dm_ M1 M3 := ⟨b.1.trans a.1, b.2.1.trans a.2.1, fun q => (b.2.2.1 q).trans (a.2.2.1 q), fun q => (b.2.2.2 q).trans (a.2.2.2 q)⟩
theorem Dm_I {f i : Nat} {x : Int32} (h0 : f ≠ 0) (h10 : f ≠ 10) (h1 : f ≠ 1) (h11 : f ≠ 11) : Dm_ M (n_I M f i x) := nI_ne_dm h0 h10 h1 h11
theorem Dm_J {f i : Nat} {x : Int64} : Dm_ M (n_J M f i x) := ⟨rfl, rfl, fun _ => rfl, fun _ => rfl⟩
theorem em_P {t u : Nat} {q0 : Int32} (P : Pn_ A B ow h M) : Pn_ A B ow h (emM t u q0 M) := by
  unfold emM
  exact Pn_cpm (Pn_mI (Pn_mI (Pn_mJ (Pn_mI P (f := 29) (fun z => z) (by omega) (by omega) (by omega) (by omega) (by omega) (by omega) (by omega)) (f := 30) (fun z => z)) (f := 31) (fun z => z) (by omega) (by omega) (by omega) (by omega) (by omega) (by omega) (by omega)) (f := 32) (fun z => z) (by omega) (by omega) (by omega) (by omega) (by omega) (by omega) (by omega)) (f := 33) (fun M i z => z) 8
theorem Dm_em {t u : Nat} {q0 : Int32} : Dm_ M (emM t u q0 M) := by
  unfold emM
  exact Dm_tr (Dm_tr (Dm_tr (Dm_tr (Dm_I (by omega) (by omega) (by omega) (by omega)) Dm_J) (Dm_I (by omega) (by omega) (by omega) (by omega))) (Dm_I (by omega) (by omega) (by omega) (by omega))) Dm_cp
/-- the class's side of an entry -/
theorem eg_P {j p t a wa : Nat} {X : Msx} (P : Pn_ A B ow h X) (hj : j < nD X) (h4 : kD X j = 4) (hp : p < 32) (f1 : h_I h a 1 = m_I M 52 t) (f2 : h_I h a 2 = m_I M 53 t) (f3 : h_J h a 3 = m_J M 6 t) (f4 : h_I h a 4 = m_I M 7 t) (f5 : h_I h a 5 = m_I M 8 t) (hw : wa ≠ B j + 6 + 2 * p) (f6 : ∀ i, i < 8 → h_J h wa i = m_J M 9 (8 * t + i)) : Pn_ A B ow (bcH h (B j + 6 + 2 * p) a (B j + 7 + 2 * p) wa) (egM t (32 * j + p) M X) := by
  unfold bcH egM
  rw [f1, f2, f3, f4, f5]
  have P1 := Pn_enI P hj h4 hp (f := 57) (l := 1) (m_I M 52 t) (by omega)
  have d1 : Dm_ X (n_I X 57 (32 * j + p) (m_I M 52 t)) := Dm_I (by omega) (by omega) (by omega) (by omega)
  have P2 := Pn_enI P1 (j := j) (p := p) (by rw [d1.2.1]; exact hj) (by rw [d1.2.2.2]; exact h4) hp (f := 61) (l := 2) (m_I M 53 t) (by omega)
  have d2 := Dm_tr d1 (Dm_I (M := n_I X 57 (32 * j + p) (m_I M 52 t)) (f := 61) (i := 32 * j + p) (x := m_I M 53 t) (by omega) (by omega) (by omega) (by omega))
  have P3 := Pn_enJ P2 (j := j) (p := p) (by rw [d2.2.1]; exact hj) (by rw [d2.2.2.2]; exact h4) hp (m_J M 6 t)
  have d3 := Dm_tr d2 (Dm_J (f := 64) (i := 32 * j + p) (x := m_J M 6 t))
  have P4 := Pn_enI P3 (j := j) (p := p) (by rw [d3.2.1]; exact hj) (by rw [d3.2.2.2]; exact h4) hp (f := 62) (l := 4) (m_I M 7 t) (by omega)
  have d4 := Dm_tr d3 (Dm_I (f := 62) (i := 32 * j + p) (x := m_I M 7 t) (by omega) (by omega) (by omega) (by omega))
  have P5 := Pn_enI P4 (j := j) (p := p) (by rw [d4.2.1]; exact hj) (by rw [d4.2.2.2]; exact h4) hp (f := 63) (l := 5) (m_I M 8 t) (by omega)
  have d5 := Dm_tr d4 (Dm_I (f := 63) (i := 32 * j + p) (x := m_I M 8 t) (by omega) (by omega) (by omega) (by omega))
  refine Pn_cp P5 (Nat.le_refl 8) (fun i hi => okJ65 (by rw [d5.2.1]; exact hj) (by rw [d5.2.2.2]; exact h4) hp hi) (fun i hi => ?_) 8 (Nat.le_refl 8)
  rw [Nat.zero_add, JsI, JsI, sJ_n (by omega), JsI, JsI]
  exact f6 i hi
theorem enter_8 {t u : Nat} {M : Msx} (ht : t < 512) (hu : u < 512) : ∀ (k i fuel : Nat), i + k = 8 → k < fuel → l_X4_enter_71 fuel (cpM 33 (8 * u) (fun i => m_J M 9 (8 * t + i)) i M) (nI u) (nI t) (nI i) = some (cpM 33 (8 * u) (fun i => m_J M 9 (8 * t + i)) 8 M) := by
  intro k
  induction k with
  | zero =>
    intro i fuel hi hf
    obtain ⟨f, rfl⟩ : ∃ f, fuel = f + 1 := ⟨fuel - 1, by omega⟩
    rw [u_X4_enter_71]
    unfold j_X4_enter_71
    rw [if_pos (by rw [litle (n := 8) rfl (by omega)]; omega), show i = 8 by omega]
  | succ k ih =>
    intro i fuel hi hf
    obtain ⟨f, rfl⟩ : ∃ f, fuel = f + 1 := ⟨fuel - 1, by omega⟩
    rw [u_X4_enter_71]
    unfold j_X4_enter_71
    simp only [eight_t, b_d_eq, nI_1]
    rw [if_neg (by rw [litle (n := 8) rfl (by omega)]; omega), if_pos (in_nI (by omega) (by omega)), if_pos (in_nI (by omega) (by omega)), cl_nI (by omega), cl_nI (by omega), cpM_o (by omega)]
    have := ih (i + 1) f (by omega) (by omega)
    rw [cpM] at this
    exact this
theorem tt_j (j e : Nat) : ((32 : Int32) * nI j) + nI e = nI (32 * j + e) := by rw [show (32 : Int32) = nI 32 from rfl, pk_mul, nI_add]
theorem enter_c (W : Wf_ n M) (a : Ag_ Mm M) {r q j e : Nat} (hr : r < nR M) (hq : q < 2 ^ 30) (hj : j < 16) (he : e < 32) : f_X4_enter Mm (nI j) (nI e) (nI r) (nI q) = some (emM (64 * r + q % sL M r) (32 * j + e) (nI q) Mm) := by
  have h8 : r < 8 := by have := W.1.2.1; omega
  have hm := sl_mod (q := q) (W.2.1 r hr)
  unfold f_X4_enter
  rw [← g_f_X4_slot a, slot_nI W hr hq]
  simp only [Option.bind_some, tt_j, in_nI (show 32 * j + e < 512 by omega) (show 512 ≤ 65536 by omega), in_nI (show 64 * r + q % sL M r < 512 by omega) (show 512 ≤ 65536 by omega), if_true, cl_nI (show 32 * j + e < 2 ^ 31 by omega), cl_nI (show 64 * r + q % sL M r < 2 ^ 31 by omega), b_d_eq]
  generalize ht : 64 * r + q % sL M r = t
  generalize hu : 32 * j + e = u
  have x1 : m_J (n_I Mm 29 u (nI q)) 6 t = m_J Mm 6 t := rfl
  have x2 : m_I (n_J (n_I Mm 29 u (nI q)) 30 u (m_J Mm 6 t)) 7 t = m_I Mm 7 t := by rw [nJ_I, n_I_o (by omega)]
  have x3 : m_I (n_I (n_J (n_I Mm 29 u (nI q)) 30 u (m_J Mm 6 t)) 31 u (m_I Mm 7 t)) 8 t = m_I Mm 8 t := by rw [n_I_o (by omega), nJ_I, n_I_o (by omega)]
  rw [x1, x2, x3]
  have lp := enter_8 (t := t) (u := u) (M := n_I (n_I (n_J (n_I Mm 29 u (nI q)) 30 u (m_J Mm 6 t)) 31 u (m_I Mm 7 t)) 32 u (m_I Mm 8 t)) (by omega) (by omega) 8 0 70 (by omega) (by omega)
  rw [cpM] at lp
  rw [show (0 : Int32) = nI 0 from rfl, lp]
  unfold emM
  rw [cpM_v 8 (w := fun i => m_J Mm 9 (8 * t + i))]
  intro i hi
  show m_J (n_I (n_I (n_J (n_I Mm 29 u (nI q)) 30 u (m_J Mm 6 t)) 31 u (m_I Mm 7 t)) 32 u (m_I Mm 8 t)) 9 (8 * t + i) = _
  rw [nI_J, nI_J, n_J_o (by omega), nI_J]
/-- numbers of a reader whose entry e is new, or renewed -/
theorem en_We {j e E t : Nat} {q0 : Nat} {y : Nat} (w : We_ M j) (he : e < 32) (hE : (E = eM M j ∧ e < eM M j) ∨ (E = eM M j + 1 ∧ e = eM M j)) (hE32 : E ≤ 32) (hy : y < 32) (h7 : m_I M 7 t = nI y) (h53 : m_I M 53 t = nI q0) (hq : q0 < 2 ^ 30) (h52 : m_I M 52 t = m_I M 12 (4 * j)) (hk : ∀ e', e' < E → e' ≠ e → m_I M 31 (32 * j + e') ≠ nI y) : We_ (n_I (enM t (32 * j + e) (32 * j + sG M j e) (nI q0) M) 28 j (nI E)) j := by
  obtain ⟨w1, w2, w3, w4⟩ := w
  have hp := (w1 e he).2
  have es : ∀ k, sG (n_I (enM t (32 * j + e) (32 * j + sG M j e) (nI q0) M) 28 j (nI E)) j k = sG M j k := fun k => by
    unfold sG
    rw [n_I_o (by omega), en_o (by omega) (by omega) (by omega) (by omega) (by omega) (by omega) (by omega)]
  have eE : eM (n_I (enM t (32 * j + e) (32 * j + sG M j e) (nI q0) M) 28 j (nI E)) j = E := by
    unfold eM
    rw [nI_s, cl_nI (by omega)]
  have o : ∀ g, g ≠ 28 → m_I (n_I (enM t (32 * j + e) (32 * j + sG M j e) (nI q0) M) 28 j (nI E)) g = m_I (enM t (32 * j + e) (32 * j + sG M j e) (nI q0) M) g := fun g hg => n_I_o hg
  refine ⟨fun k hk => ?_, fun a b ha hb z => ?_, fun k hk => ?_, fun a b ha hb z => ?_⟩
  · rw [es, o 66 (by omega), en_o (by omega) (by omega) (by omega) (by omega) (by omega) (by omega) (by omega)]
    exact w1 k hk
  · rw [es, es] at z
    exact w2 a b ha hb z
  · rw [eE] at hk
    rw [es, o 29 (by omega), o 61 (by omega), o 31 (by omega), o 62 (by omega), o 32 (by omega), o 63 (by omega), o 57 (by omega), o 12 (by omega), nI_J]
    by_cases c : k = e
    · subst c
      refine ⟨?_, ?_, ?_, ?_, fun i hi => ?_, ?_, ⟨y, hy, ?_⟩, ?_⟩
      · rw [en_I, if_neg (by omega), if_neg (by omega), if_neg (by omega), if_neg (by omega), if_neg (by omega), if_neg (by omega), if_pos ⟨rfl, rfl⟩, en_I, if_neg (by omega), if_neg (by omega), if_pos ⟨rfl, rfl⟩, h53]
      · rw [en_I, if_neg (by omega), if_neg (by omega), if_neg (by omega), if_neg (by omega), if_neg (by omega), if_pos ⟨rfl, rfl⟩, en_I, if_neg (by omega), if_pos ⟨rfl, rfl⟩]
      · rw [en_I, if_neg (by omega), if_neg (by omega), if_neg (by omega), if_neg (by omega), if_pos ⟨rfl, rfl⟩, en_I, if_pos ⟨rfl, rfl⟩]
      · rw [en_J30, if_pos rfl, en_J64, if_pos rfl]
      · rw [en_J33i hi, en_J65i hi]
      · rw [en_I, if_neg (by omega), if_neg (by omega), if_neg (by omega), if_pos ⟨rfl, rfl⟩, h52, en_o (by omega) (by omega) (by omega) (by omega) (by omega) (by omega) (by omega)]
      · rw [en_I, if_neg (by omega), if_neg (by omega), if_neg (by omega), if_neg (by omega), if_neg (by omega), if_pos ⟨rfl, rfl⟩, h7]
      · rw [en_I, if_neg (by omega), if_neg (by omega), if_neg (by omega), if_neg (by omega), if_neg (by omega), if_neg (by omega), if_pos ⟨rfl, rfl⟩]
        exact nI_pos (by omega)
    · have hk2 : k < eM M j := by omega
      have hk3 : k < 32 := by omega
      have hs : sG M j k ≠ sG M j e := fun z => c (w2 k e hk3 he z)
      have hsk := (w1 k hk3).2
      obtain ⟨v1, v2, v3, v4, v5, v6, v7, v8⟩ := w3 k hk2
      have f1 : ∀ g, g = 29 ∨ g = 31 ∨ g = 32 → m_I (enM t (32 * j + e) (32 * j + sG M j e) (nI q0) M) g (32 * j + k) = m_I M g (32 * j + k) := fun g hg => by
        rw [en_I, if_neg (by omega), if_neg (by omega), if_neg (by omega), if_neg (by omega), if_neg (by omega), if_neg (by omega), if_neg (by omega)]
      have f2 : ∀ g, g = 57 ∨ g = 61 ∨ g = 62 ∨ g = 63 → m_I (enM t (32 * j + e) (32 * j + sG M j e) (nI q0) M) g (32 * j + sG M j k) = m_I M g (32 * j + sG M j k) := fun g hg => by
        rw [en_I, if_neg (by omega), if_neg (by omega), if_neg (by omega), if_neg (by omega), if_neg (by omega), if_neg (by omega), if_neg (by omega)]
      rw [f1 29 (by omega), f1 31 (by omega), f1 32 (by omega), f2 57 (by omega), f2 61 (by omega), f2 62 (by omega), f2 63 (by omega), en_o (g := 12) (by omega) (by omega) (by omega) (by omega) (by omega) (by omega) (by omega), en_J30, if_neg (by omega), en_J64, if_neg (by omega)]
      refine ⟨v1, v2, v3, v4, fun i hi => ?_, v6, v7, v8⟩
      rw [en_J33o (by omega), en_J65o (by omega)]
      exact v5 i hi
  · rw [eE] at ha hb
    rw [o 31 (by omega)] at z
    by_cases ca : a = e
    · by_cases cb : b = e
      · rw [ca, cb]
      · exfalso
        rw [ca, en_I, if_neg (by omega), if_neg (by omega), if_neg (by omega), if_neg (by omega), if_neg (by omega), if_pos ⟨rfl, rfl⟩, en_I, if_neg (by omega), if_neg (by omega), if_neg (by omega), if_neg (by omega), if_neg (by omega), if_neg (by omega), if_neg (by omega), h7] at z
        exact hk b hb cb z.symm
    · by_cases cb : b = e
      · exfalso
        rw [cb, en_I, if_neg (by omega), if_neg (by omega), if_neg (by omega), if_neg (by omega), if_neg (by omega), if_neg (by omega), if_neg (by omega), en_I, if_neg (by omega), if_neg (by omega), if_neg (by omega), if_neg (by omega), if_neg (by omega), if_pos ⟨rfl, rfl⟩, h7] at z
        exact hk a ha ca z
      · rw [en_I, if_neg (by omega), if_neg (by omega), if_neg (by omega), if_neg (by omega), if_neg (by omega), if_neg (by omega), if_neg (by omega), en_I, if_neg (by omega), if_neg (by omega), if_neg (by omega), if_neg (by omega), if_neg (by omega), if_neg (by omega), if_neg (by omega)] at z
        exact w4 a b (by omega) (by omega) z
theorem en_W (W : Wf_ n M) {j e E t : Nat} {q0 : Nat} {y : Nat} (hj : j < nD M) (h4 : kD M j = 4) (he : e < 32) (hE : (E = eM M j ∧ e < eM M j) ∨ (E = eM M j + 1 ∧ e = eM M j)) (hE32 : E ≤ 32) (hy : y < 32) (h7 : m_I M 7 t = nI y) (h53 : m_I M 53 t = nI q0) (hq : q0 < 2 ^ 30) (h52 : m_I M 52 t = m_I M 12 (4 * j)) (hk : ∀ e', e' < E → e' ≠ e → m_I M 31 (32 * j + e') ≠ nI y) : Wf_ n (n_I (enM t (32 * j + e) (32 * j + sG M j e) (nI q0) M) 28 j (nI E)) := by
  have w := W.2.2.1 j hj
  have hp := ((w.2.2.2.2.2.2.2.2.2.2.2.2 h4).1 e he).2
  have wE := en_We (w.2.2.2.2.2.2.2.2.2.2.2.2 h4) he hE hE32 hy h7 h53 hq h52 hk
  have o : ∀ g, g ≠ 28 → g ≠ 63 → g ≠ 62 → g ≠ 61 → g ≠ 57 → g ≠ 32 → g ≠ 31 → g ≠ 29 → m_I (n_I (enM t (32 * j + e) (32 * j + sG M j e) (nI q0) M) 28 j (nI E)) g = m_I M g := fun g g1 g2 g3 g4 g5 g6 g7 g8 => by rw [n_I_o g1, en_o g2 g3 g4 g5 g6 g7 g8]
  refine Wf_d W (Nat.le_refl n) (j := j) (fun g hg _ _ _ _ => o g (by omega) (by omega) (by omega) (by omega) (by omega) (by omega) (by omega) (by omega)) (fun g hg q hq => ?_) (fun g hg i hi => by rw [o g (by omega) (by omega) (by omega) (by omega) (by omega) (by omega) (by omega) (by omega)]) (fun i hi => by rw [o 54 (by omega) (by omega) (by omega) (by omega) (by omega) (by omega) (by omega) (by omega)]) (fun g hg i hi => ?_) (fun g hg i hi => ?_) (fun g hg i hi => ?_) ?_ (Nm_d (o 10 (by omega) (by omega) (by omega) (by omega) (by omega) (by omega) (by omega) (by omega)) (o 16 (by omega) (by omega) (by omega) (by omega) (by omega) (by omega) (by omega) (by omega)) (o 15 (by omega) (by omega) (by omega) (by omega) (by omega) (by omega) (by omega) (by omega)) W) (fun a1 a3 a4 k hk => absurd (show kD (n_I (enM t (32 * j + e) (32 * j + sG M j e) (nI q0) M) 28 j (nI E)) j = 4 by unfold kD; rw [o 11 (by omega) (by omega) (by omega) (by omega) (by omega) (by omega) (by omega) (by omega)]; exact h4) a4)
  · by_cases c : g = 28
    · subst c
      rw [nI_n (by omega), en_o (by omega) (by omega) (by omega) (by omega) (by omega) (by omega) (by omega)]
    · rw [o g c (by omega) (by omega) (by omega) (by omega) (by omega) (by omega) (by omega)]
  · rw [n_I_o (by omega), en_I, if_neg (by omega), if_neg (by omega), if_neg (by omega), if_neg (by omega), if_neg (by omega), if_neg (by omega), if_neg (by omega)]
  · rw [nI_J]
    rcases hg with rfl | rfl
    · rw [en_J30, if_neg (by omega)]
    · rw [en_J64, if_neg (by omega)]
  · rw [nI_J]
    rcases hg with rfl | rfl
    · rw [en_J33o (by omega)]
    · rw [en_J65o (by omega)]
  · have k5 : eM (n_I (enM t (32 * j + e) (32 * j + sG M j e) (nI q0) M) 28 j (nI E)) j = E := by
      unfold eM
      rw [nI_s, cl_nI (by omega)]
    have r0 : ∀ g, g = 11 ∨ g = 14 ∨ g = 16 ∨ g = 17 ∨ g = 21 ∨ g = 23 ∨ g = 25 ∨ g = 55 ∨ g = 56 ∨ g = 58 ∨ g = 12 ∨ g = 13 ∨ g = 15 ∨ g = 54 ∨ g = 0 ∨ g = 2 ∨ g = 10 → m_I (n_I (enM t (32 * j + e) (32 * j + sG M j e) (nI q0) M) 28 j (nI E)) g = m_I M g := fun g hg => o g (by omega) (by omega) (by omega) (by omega) (by omega) (by omega) (by omega) (by omega)
    obtain ⟨p1, p2, p3⟩ := pl_keep (M' := n_I (enM t (32 * j + e) (32 * j + sG M j e) (nI q0) M) 28 j (nI E)) w W.1.2.1 (fun k hk => by rw [r0 13 (by omega)]) (fun q hq => by rw [r0 54 (by omega)]) (by rw [r0 55 (by omega)]) (fun q hq => by unfold cL; rw [r0 2 (by omega)]; exact Nat.le_refl _)
    refine Wd_x w (fun g hg => by rw [r0 g (by omega)]) (fun g hg k hk => by rw [r0 g (by omega)]) p1 p2 p3 ?_ ?_ (fun _ => wE) (by unfold nR; rw [r0 0 (by omega)]; exact Nat.le_refl _) (by unfold nD; rw [r0 10 (by omega)]; exact Nat.le_refl _)
    · rw [r0 21 (by omega), r0 58 (by omega), r0 23 (by omega), r0 25 (by omega)]
      exact w.2.2.2.2.2.2.2.2.2.2.1
    · rw [k5, nI_s]
      exact ⟨rfl, hE32, fun z => absurd h4 z⟩
end EN
