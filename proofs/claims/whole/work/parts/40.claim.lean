/-! a new claim -/
theorem ksI {h : Hpx} {a p : Nat} {x : Int32} : h_k (s_I h a p x) = h_k h := rfl
theorem nsI {h : Hpx} {a p : Nat} {x : Int32} : h_n (s_I h a p x) = h_n h := rfl
theorem zsI {h : Hpx} {a p : Nat} {x : Int32} : h_z (s_I h a p x) = h_z h := rfl
theorem JsI {h : Hpx} {a p : Nat} {x : Int32} : h_J (s_I h a p x) = h_J h := rfl
theorem RsI {h : Hpx} {a p : Nat} {x : Int32} : h_R (s_I h a p x) = h_R h := rfl
theorem ksJ {h : Hpx} {a p : Nat} {x : Int64} : h_k (s_J h a p x) = h_k h := rfl
theorem nsJ {h : Hpx} {a p : Nat} {x : Int64} : h_n (s_J h a p x) = h_n h := rfl
theorem zsJ {h : Hpx} {a p : Nat} {x : Int64} : h_z (s_J h a p x) = h_z h := rfl
theorem IsJ {h : Hpx} {a p : Nat} {x : Int64} : h_I (s_J h a p x) = h_I h := rfl
theorem RsJ {h : Hpx} {a p : Nat} {x : Int64} : h_R (s_J h a p x) = h_R h := rfl
def zH (v : Int64) (a : Nat) : Nat → Nat → Hpx → Hpx
  | 0, _, h => h
  | m + 1, i, h => zH v a m (i + 1) (s_J h a i v)
def zM (b : Nat) : Nat → Nat → Msx → Msx
  | 0, _, M => M
  | m + 1, i, M => zM b m (i + 1) (n_J M 9 (b + i) 0)
theorem zH_k {v : Int64} {a : Nat} : ∀ (m i : Nat) (h : Hpx), h_k (zH v a m i h) = h_k h
  | 0, _, _ => rfl
  | m + 1, i, h => by rw [zH, zH_k m]; rfl
theorem zH_n {v : Int64} {a : Nat} : ∀ (m i : Nat) (h : Hpx), h_n (zH v a m i h) = h_n h
  | 0, _, _ => rfl
  | m + 1, i, h => by rw [zH, zH_n m]; rfl
theorem zH_I {v : Int64} {a : Nat} : ∀ (m i : Nat) (h : Hpx), h_I (zH v a m i h) = h_I h
  | 0, _, _ => rfl
  | m + 1, i, h => by rw [zH, zH_I m]; rfl
theorem zH_R {v : Int64} {a : Nat} : ∀ (m i : Nat) (h : Hpx), h_R (zH v a m i h) = h_R h
  | 0, _, _ => rfl
  | m + 1, i, h => by rw [zH, zH_R m]; rfl
theorem zM_I {b : Nat} : ∀ (m i : Nat) (M : Msx), m_I (zM b m i M) = m_I M
  | 0, _, _ => rfl
  | m + 1, i, M => by rw [zM, zM_I m]; rfl
theorem zM_o {b g : Nat} (hg : g ≠ 9) : ∀ (m i : Nat) (M : Msx), m_J (zM b m i M) g = m_J M g
  | 0, _, _ => rfl
  | m + 1, i, M => by rw [zM, zM_o hg m, n_J_o hg]
theorem zM_ag {b : Nat} : ∀ (m i : Nat) (M M2 : Msx), Ag_ M M2 → Ag_ (zM b m i M) (zM b m i M2)
  | 0, _, _, _, a => a
  | m + 1, i, M, M2, a => by rw [zM, zM]; exact zM_ag m (i + 1) _ _ (ag_cJ a)
theorem fill_7 {a : Nat} {v : Int64} : ∀ (m i fuel : Nat) (h : Hpx), i + m = 8 → m < fuel → h_k h a = 7 → h_n h a = 8 → l_J7_fill_d0a16_6 fuel h (some a) v (nI i) (nI 8) = some (zH v a m i h) := by
  intro m
  induction m with
  | zero =>
    intro i fuel h hi hf hk hn
    obtain ⟨f, rfl⟩ : ∃ f, fuel = f + 1 := ⟨fuel - 1, by omega⟩
    rw [u_J7_fill_d0a16_6]
    unfold j_J7_fill_d0a16_6
    rw [if_pos (by rw [nI_leI (by omega) (by omega)]; omega)]
    rfl
  | succ m ih =>
    intro i fuel h hi hf hk hn
    obtain ⟨f, rfl⟩ : ∃ f, fuel = f + 1 := ⟨fuel - 1, by omega⟩
    rw [u_J7_fill_d0a16_6]
    unfold j_J7_fill_d0a16_6
    rw [if_neg (by rw [nI_leI (by omega) (by omega)]; omega)]
    simp only [Option.bind_some, hk, hn, if_true, in_nI (show i < 8 by omega) (show 8 ≤ 65536 by omega), cl_nI (show i < 2 ^ 31 by omega), b_d_eq]
    rw [show nI i + 1 = nI (i + 1) from nI_1 i, ih (i + 1) f (s_J h a i v) (by omega) (by omega) hk hn]
    rfl
theorem make_8 {t r c : Nat} {x : Int64} (ht : t < 512) (h8 : r < 8) : ∀ (m i fuel : Nat) (M : Msx), i + m = 8 → m < fuel → m_I M 2 r = nI c → l_X4_make_48 fuel M (nI r) x (nI t) (nI i) = some (n_J (n_I (zM (8 * t) m i M) 2 r (nI (c + 1))) 4 r x) := by
  intro m
  induction m with
  | zero =>
    intro i fuel M hi hf hc
    obtain ⟨f, rfl⟩ : ∃ f, fuel = f + 1 := ⟨fuel - 1, by omega⟩
    rw [u_X4_make_48]
    unfold j_X4_make_48
    rw [if_pos (by rw [litle (n := 8) rfl (by omega)]; omega)]
    simp only [in_nI h8 (show 8 ≤ 65536 by omega), if_true, cl_nI (show r < 2 ^ 31 by omega), b_d_eq, hc, show nI c + 1 = nI (c + 1) from nI_1 c]
    rfl
  | succ m ih =>
    intro i fuel M hi hf hc
    obtain ⟨f, rfl⟩ : ∃ f, fuel = f + 1 := ⟨fuel - 1, by omega⟩
    rw [u_X4_make_48]
    unfold j_X4_make_48
    have e8 : ((8 : Int32) * nI t) + nI i = nI (8 * t + i) := by rw [show (8 : Int32) = nI 8 from rfl, pk_mul, nI_add]
    rw [if_neg (by rw [litle (n := 8) rfl (by omega)]; omega), e8]
    simp only [in_nI (show 8 * t + i < 4096 by omega) (show 4096 ≤ 65536 by omega), if_true, cl_nI (show 8 * t + i < 2 ^ 31 by omega), b_d_eq]
    rw [show nI i + 1 = nI (i + 1) from nI_1 i, ih (i + 1) f (n_J M 9 (8 * t + i) 0) (by omega) (by omega) hc]
    rfl
theorem mod_ne {q c s : Nat} (h1 : q < c) (h2 : c < q + s) : q % s ≠ c % s := by
  intro e
  have := Nat.sub_mod_eq_zero_of_mod_eq e.symm
  rw [Nat.mod_eq_of_lt (by omega)] at this
  omega
section CL
variable {n : Nat} {A B ow : Nat → Nat} {h : Hpx} {M Mm : Msx}
theorem Pn_z {r k : Nat} (hr : r < nR M) (hk : k < sL M r) (h64 : k < 64) : ∀ (m i : Nat) (h : Hpx) (M' : Msx), i + m = 8 → Dm_ M M' → Pn_ A B ow h M' → Pn_ A B ow (zH 0 (A r + 3 + 2 * k) m i h) (zM (8 * (64 * r + k)) m i M')
  | 0, _, _, _, _, _, P => P
  | m + 1, i, h, M', hi, d, P => by
    rw [zH, zM]
    refine Pn_z hr hk h64 m (i + 1) _ _ (by omega) ⟨d.1, d.2.1, d.2.2.1, d.2.2.2⟩ ?_
    have e1 : (8 * (64 * r + k) + i) / 512 = r := by omega
    have e2 : (8 * (64 * r + k) + i) / 8 % 64 = k := by omega
    have e3 : (8 * (64 * r + k) + i) % 8 = i := by omega
    have P1 := Pn_wJ P (f := 9) (i := 8 * (64 * r + k) + i) (by show _ / 512 < _ ∧ _ / 8 % 64 < _; rw [e1, e2, d.1, d.2.2.1]; exact ⟨hr, hk⟩) 0
    simp only [adJ, plJ, e1, e2, e3] at P1
    exact P1
/-- writing a slot's field on both sides -/
theorem Pn_slI {r k : Nat} (P : Pn_ A B ow h M) (hr : r < nR M) (hk : k < sL M r) (h64 : k < 64) {f p : Nat} (x : Int32) (hf : (f = 5 ∧ p = 6) ∨ (f = 7 ∧ p = 4) ∨ (f = 8 ∧ p = 5) ∨ (f = 52 ∧ p = 1) ∨ (f = 53 ∧ p = 2)) : Pn_ A B ow (s_I h (A r + 2 + 2 * k) p x) (n_I M f (64 * r + k) x) := by
  have e1 : (64 * r + k) / 64 = r := by omega
  have e2 : (64 * r + k) % 64 = k := by omega
  rcases hf with ⟨rfl, rfl⟩ | ⟨rfl, rfl⟩ | ⟨rfl, rfl⟩ | ⟨rfl, rfl⟩ | ⟨rfl, rfl⟩
  · have P1 := Pn_wI P (f := 5) (i := 64 * r + k) (by show _ / 64 < _ ∧ _ % 64 < _; rw [e1, e2]; exact ⟨hr, hk⟩) x (by omega) (by omega) (by omega) (by omega) (by omega) (by omega) (by omega)
    simp only [adI, plI, e1, e2] at P1
    exact P1
  · have P1 := Pn_wI P (f := 7) (i := 64 * r + k) (by show _ / 64 < _ ∧ _ % 64 < _; rw [e1, e2]; exact ⟨hr, hk⟩) x (by omega) (by omega) (by omega) (by omega) (by omega) (by omega) (by omega)
    simp only [adI, plI, e1, e2] at P1
    exact P1
  · have P1 := Pn_wI P (f := 8) (i := 64 * r + k) (by show _ / 64 < _ ∧ _ % 64 < _; rw [e1, e2]; exact ⟨hr, hk⟩) x (by omega) (by omega) (by omega) (by omega) (by omega) (by omega) (by omega)
    simp only [adI, plI, e1, e2] at P1
    exact P1
  · have P1 := Pn_wI P (f := 52) (i := 64 * r + k) (by show _ / 64 < _ ∧ _ % 64 < _; rw [e1, e2]; exact ⟨hr, hk⟩) x (by omega) (by omega) (by omega) (by omega) (by omega) (by omega) (by omega)
    simp only [adI, plI, e1, e2] at P1
    exact P1
  · have P1 := Pn_wI P (f := 53) (i := 64 * r + k) (by show _ / 64 < _ ∧ _ % 64 < _; rw [e1, e2]; exact ⟨hr, hk⟩) x (by omega) (by omega) (by omega) (by omega) (by omega) (by omega) (by omega)
    simp only [adI, plI, e1, e2] at P1
    exact P1
theorem Pn_slJ {r k : Nat} (P : Pn_ A B ow h M) (hr : r < nR M) (hk : k < sL M r) (h64 : k < 64) (x : Int64) : Pn_ A B ow (s_J h (A r + 2 + 2 * k) 3 x) (n_J M 6 (64 * r + k) x) := by
  have e1 : (64 * r + k) / 64 = r := by omega
  have e2 : (64 * r + k) % 64 = k := by omega
  have P1 := Pn_wJ P (f := 6) (i := 64 * r + k) (by show _ / 64 < _ ∧ _ % 64 < _; rw [e1, e2]; exact ⟨hr, hk⟩) x
  simp only [adJ, plJ, e1, e2] at P1
  exact P1
def clH (A : Nat → Nat) (r c k : Nat) (x : Int64) (h : Hpx) : Hpx := s_J (s_I (zH 0 (A r + 3 + 2 * k) 8 0 (s_I (s_I (s_I (s_J (s_I (s_I h (A r + 2 + 2 * k) 1 (nI r)) (A r + 2 + 2 * k) 2 (nI c)) (A r + 2 + 2 * k) 3 x) (A r + 2 + 2 * k) 4 0) (A r + 2 + 2 * k) 5 0) (A r + 2 + 2 * k) 6 1)) (A r) 3 (nI (c + 1))) (A r) 4 x
def clS (r c k : Nat) (x : Int64) (M : Msx) : Msx := n_I (n_I (n_I (n_J (n_I (n_I M 52 (64 * r + k) (nI r)) 53 (64 * r + k) (nI c)) 6 (64 * r + k) x) 7 (64 * r + k) 0) 8 (64 * r + k) 0) 5 (64 * r + k) 1
def clM (r c k : Nat) (x : Int64) (M : Msx) : Msx := n_J (n_I (zM (8 * (64 * r + k)) 8 0 (clS r c k x M)) 2 r (nI (c + 1))) 4 r x
def cmM (r c k : Nat) (x : Int64) (M : Msx) : Msx := n_J (n_I (zM (8 * (64 * r + k)) 8 0 (n_I (n_I (n_J (n_I M 5 (64 * r + k) 1) 6 (64 * r + k) x) 7 (64 * r + k) 0) 8 (64 * r + k) 0)) 2 r (nI (c + 1))) 4 r x
theorem cl_ag {r c k : Nat} {x : Int64} (a : Ag_ Mm M) : Ag_ (cmM r c k x Mm) (clM r c k x M) := by
  unfold cmM clM clS
  refine ag_cJ (ag_cI (zM_ag _ _ _ _ ?_))
  have e : n_I (n_I (n_J (n_I Mm 5 (64 * r + k) 1) 6 (64 * r + k) x) 7 (64 * r + k) 0) 8 (64 * r + k) 0 = n_I (n_I (n_I (n_J Mm 6 (64 * r + k) x) 7 (64 * r + k) 0) 8 (64 * r + k) 0) 5 (64 * r + k) 1 := by
    rw [nI_comm (f := 8) (g := 5) (by omega), nI_comm (f := 7) (g := 5) (by omega)]
    rfl
  rw [e]
  exact ag_cI (ag_cI (ag_cI (ag_cJ (ag_g (ag_g a (by omega) (by omega)) (by omega) (by omega)))))
theorem Dm_clS {r c k : Nat} {x : Int64} : Dm_ M (clS r c k x M) := by
  unfold clS
  refine ⟨?_, ?_, fun q => ?_, fun q => ?_⟩
  · unfold nR; rw [n_I_o (by omega), n_I_o (by omega), n_I_o (by omega), nJ_I, n_I_o (by omega), n_I_o (by omega)]
  · unfold nD; rw [n_I_o (by omega), n_I_o (by omega), n_I_o (by omega), nJ_I, n_I_o (by omega), n_I_o (by omega)]
  · unfold sL; rw [n_I_o (by omega), n_I_o (by omega), n_I_o (by omega), nJ_I, n_I_o (by omega), n_I_o (by omega)]
  · unfold kD; rw [n_I_o (by omega), n_I_o (by omega), n_I_o (by omega), nJ_I, n_I_o (by omega), n_I_o (by omega)]
theorem cl_I {r c k : Nat} {x : Int64} (g q : Nat) : m_I (clM r c k x M) g q = if g = 2 ∧ q = r then nI (c + 1) else if g = 5 ∧ q = 64 * r + k then 1 else if g = 8 ∧ q = 64 * r + k then 0 else if g = 7 ∧ q = 64 * r + k then 0 else if g = 53 ∧ q = 64 * r + k then nI c else if g = 52 ∧ q = 64 * r + k then nI r else m_I M g q := by
  unfold clM
  rw [nJ_I, nI_at, zM_I]
  unfold clS
  rw [nI_at, nI_at, nI_at, nJ_I, nI_at, nI_at]
theorem cl_o {r c k : Nat} {x : Int64} {g : Nat} (h2 : g ≠ 2) (h5 : g ≠ 5) (h8 : g ≠ 8) (h7 : g ≠ 7) (h53 : g ≠ 53) (h52 : g ≠ 52) : m_I (clM r c k x M) g = m_I M g := by
  funext q
  rw [cl_I, if_neg (by omega), if_neg (by omega), if_neg (by omega), if_neg (by omega), if_neg (by omega), if_neg (by omega)]
theorem cl_Jo {r c k : Nat} {x : Int64} {g : Nat} (h4 : g ≠ 4) (h9 : g ≠ 9) (h6 : g ≠ 6) : m_J (clM r c k x M) g = m_J M g := by
  unfold clM
  rw [n_J_o h4, nI_J, zM_o h9]
  unfold clS
  rw [nI_J, nI_J, nI_J, n_J_o h6]
  rfl
theorem cl_c {r : Nat} {x : Int64} {k : Nat} (hc : cL M r < 2 ^ 30) : cL (clM r (cL M r) k x M) r = cL M r + 1 := by
  show (m_I (clM r (cL M r) k x M) 2 r).toNatClampNeg = _
  rw [cl_I, if_pos ⟨rfl, rfl⟩, cl_nI (by omega)]
theorem cl_W (W : Wf_ n M) {r : Nat} {x : Int64} (hr : r < nR M) (hc : cL M r < 64 * n) (hn : n ≤ 513) (h2 : m_I M 3 r ≠ 2) (hB : m_I M 34 0 ≠ 0) (hH : ∀ j, j < nD M → kD M j ≠ 1 → kD M j ≠ 3 → kD M j ≠ 4 → ∀ k, k < rM M j → rG M j k = r → cL M r + 1 ≤ pL M j k + sL M r) : Wf_ n (clM r (cL M r) (cL M r % sL M r) x M) := by
  have w := W.2.1 r hr
  have hs := sl_b w
  have hm := sl_mod (q := cL M r) w
  obtain ⟨w1, w2, w3, w4, w5, w6, w7, w8⟩ := w
  have ec := cl_c (r := r) (x := x) (k := cL M r % sL M r) (M := M) (by omega)
  have es : sL (clM r (cL M r) (cL M r % sL M r) x M) r = sL M r := by unfold sL; rw [cl_o (by omega) (by omega) (by omega) (by omega) (by omega) (by omega)]
  have eo : ∀ g, g = 1 ∨ g = 3 ∨ g = 50 ∨ g = 51 ∨ g = 60 → m_I (clM r (cL M r) (cL M r % sL M r) x M) g r = m_I M g r := fun g hg => by rw [cl_o (by omega) (by omega) (by omega) (by omega) (by omega) (by omega)]
  refine Wf_r W (Nat.le_refl n) (r := r) (fun g hg => by unfold Fr_ at hg; exact cl_o (by omega) (by omega) (by omega) (by omega) (by omega) (by omega)) (fun g hg q hq => by rw [cl_I, if_neg (by omega), if_neg (by omega), if_neg (by omega), if_neg (by omega), if_neg (by omega), if_neg (by omega)]) (fun g hg i hi => by rw [cl_I, if_neg (by omega), if_neg (by omega), if_neg (by omega), if_neg (by omega), if_neg (by omega), if_neg (by omega)]) (fun g hg => cl_Jo (by omega) (by omega) (by omega)) ?_ (by rw [ec]; omega) (Or.inr ⟨hB, fun j hj a1 a3 a4 k hk e => by rw [ec]; exact hH j hj a1 a3 a4 k hk e⟩)
  unfold Wr_
  rw [ec, es, eo 1 (by omega), eo 3 (by omega), eo 50 (by omega), eo 51 (by omega), eo 60 (by omega)]
  refine ⟨w1, w2, ?_, by omega, w5, w6, fun k hk => ?_, fun q h1 h2 => ?_⟩
  · rw [cl_I, if_pos ⟨rfl, rfl⟩]
  · obtain ⟨u1, u2, u3, u4, u5⟩ := w7 k hk
    by_cases e : k = cL M r % sL M r
    · subst e
      have hle : cL M r % sL M r ≤ cL M r := Nat.mod_le _ _
      refine ⟨Or.inr ?_, fun z => by omega, fun z => absurd z h2, fun _ => ?_, 0, by omega, ?_⟩
      · rw [cl_I, if_neg (by omega), if_pos (by omega)]
      · rw [cl_I, if_neg (by omega), if_neg (by omega), if_neg (by omega), if_neg (by omega), if_neg (by omega), if_pos (by omega)]
      · rw [cl_I, if_neg (by omega), if_neg (by omega), if_neg (by omega), if_pos (by omega)]
        rfl
    · have hcl : ∀ g, g = 5 ∨ g = 7 ∨ g = 52 → m_I (clM r (cL M r) (cL M r % sL M r) x M) g (64 * r + k) = m_I M g (64 * r + k) := fun g hg => by
        rw [cl_I, if_neg (by omega), if_neg (by omega), if_neg (by omega), if_neg (by omega), if_neg (by omega), if_neg (by omega)]
      rw [hcl 5 (by omega), hcl 7 (by omega), hcl 52 (by omega)]
      refine ⟨u1, fun z => u2 (by omega), u3, fun z => u4 ?_, u5⟩
      by_cases e2 : k = cL M r
      · exfalso
        apply e
        rw [← e2, Nat.mod_eq_of_lt hk]
      · omega
  · have hqm := Nat.mod_lt q (show sL M r > 0 by omega)
    by_cases e : q = cL M r
    · subst e
      rw [cl_I, if_neg (by omega), if_neg (by omega), if_neg (by omega), if_neg (by omega), if_pos (by omega)]
    · have := mod_ne (q := q) (c := cL M r) (s := sL M r) (by omega) (by omega)
      rw [cl_I, if_neg (by omega), if_neg (by omega), if_neg (by omega), if_neg (by omega), if_neg (by omega), if_neg (by omega)]
      exact w8 q (by omega) (by omega)
theorem cl_P {r k : Nat} {x : Int64} (P : Pn_ A B ow h M) (hr : r < nR M) (hk : k < sL M r) (h64 : k < 64) (c : Nat) : Pn_ A B ow (clH A r c k x h) (clM r c k x M) := by
  have d := Dm_clS (M := M) (r := r) (c := c) (k := k) (x := x)
  have Ps : Pn_ A B ow (s_I (s_I (s_I (s_J (s_I (s_I h (A r + 2 + 2 * k) 1 (nI r)) (A r + 2 + 2 * k) 2 (nI c)) (A r + 2 + 2 * k) 3 x) (A r + 2 + 2 * k) 4 0) (A r + 2 + 2 * k) 5 0) (A r + 2 + 2 * k) 6 1) (clS r c k x M) := by
    unfold clS
    have d1 : Dm_ M (n_I M 52 (64 * r + k) (nI r)) := nI_ne_dm (by omega) (by omega) (by omega) (by omega)
    have P1 := Pn_slI P hr hk h64 (f := 52) (p := 1) (nI r) (by omega)
    have P2 := Pn_slI P1 (r := r) (k := k) (by rw [d1.1]; exact hr) (by rw [d1.2.2.1]; exact hk) h64 (f := 53) (p := 2) (nI c) (by omega)
    have d2 : Dm_ M (n_I (n_I M 52 (64 * r + k) (nI r)) 53 (64 * r + k) (nI c)) := by
      have := nI_ne_dm (M := n_I M 52 (64 * r + k) (nI r)) (f := 53) (i := 64 * r + k) (x := nI c) (by omega) (by omega) (by omega) (by omega)
      exact ⟨this.1.trans d1.1, this.2.1.trans d1.2.1, fun q => (this.2.2.1 q).trans (d1.2.2.1 q), fun q => (this.2.2.2 q).trans (d1.2.2.2 q)⟩
    have P3 := Pn_slJ P2 (r := r) (k := k) (by rw [d2.1]; exact hr) (by rw [d2.2.2.1]; exact hk) h64 x
    have d3 : Dm_ M (n_J (n_I (n_I M 52 (64 * r + k) (nI r)) 53 (64 * r + k) (nI c)) 6 (64 * r + k) x) := d2
    have P4 := Pn_slI P3 (r := r) (k := k) (by rw [d3.1]; exact hr) (by rw [d3.2.2.1]; exact hk) h64 (f := 7) (p := 4) 0 (by omega)
    have d4 : Dm_ M (n_I (n_J (n_I (n_I M 52 (64 * r + k) (nI r)) 53 (64 * r + k) (nI c)) 6 (64 * r + k) x) 7 (64 * r + k) 0) := by
      have := nI_ne_dm (M := n_J (n_I (n_I M 52 (64 * r + k) (nI r)) 53 (64 * r + k) (nI c)) 6 (64 * r + k) x) (f := 7) (i := 64 * r + k) (x := 0) (by omega) (by omega) (by omega) (by omega)
      exact ⟨this.1.trans d3.1, this.2.1.trans d3.2.1, fun q => (this.2.2.1 q).trans (d3.2.2.1 q), fun q => (this.2.2.2 q).trans (d3.2.2.2 q)⟩
    have P5 := Pn_slI P4 (r := r) (k := k) (by rw [d4.1]; exact hr) (by rw [d4.2.2.1]; exact hk) h64 (f := 8) (p := 5) 0 (by omega)
    have d5 : Dm_ M (n_I (n_I (n_J (n_I (n_I M 52 (64 * r + k) (nI r)) 53 (64 * r + k) (nI c)) 6 (64 * r + k) x) 7 (64 * r + k) 0) 8 (64 * r + k) 0) := by
      have := nI_ne_dm (M := n_I (n_J (n_I (n_I M 52 (64 * r + k) (nI r)) 53 (64 * r + k) (nI c)) 6 (64 * r + k) x) 7 (64 * r + k) 0) (f := 8) (i := 64 * r + k) (x := 0) (by omega) (by omega) (by omega) (by omega)
      exact ⟨this.1.trans d4.1, this.2.1.trans d4.2.1, fun q => (this.2.2.1 q).trans (d4.2.2.1 q), fun q => (this.2.2.2 q).trans (d4.2.2.2 q)⟩
    exact Pn_slI P5 (r := r) (k := k) (by rw [d5.1]; exact hr) (by rw [d5.2.2.1]; exact hk) h64 (f := 5) (p := 6) 1 (by omega)
  have Pz := Pn_z (M := M) hr hk h64 8 0 _ _ (by omega) d Ps
  unfold clH clM
  have hz : nR (zM (8 * (64 * r + k)) 8 0 (clS r c k x M)) = nR M := by
    unfold nR
    rw [zM_I]
    exact d.1
  have P6 := Pn_wI Pz (f := 2) (i := r) (show r < nR _ by rw [hz]; exact hr) (nI (c + 1)) (by omega) (by omega) (by omega) (by omega) (by omega) (by omega) (by omega)
  have hz2 : nR (n_I (zM (8 * (64 * r + k)) 8 0 (clS r c k x M)) 2 r (nI (c + 1))) = nR M := by
    unfold nR
    rw [n_I_o (by omega)]
    exact hz
  exact Pn_wJ P6 (f := 4) (i := r) (show r < nR _ by rw [hz2]; exact hr) x
theorem newClaim_c (C : Cn_ n A B ow h M) {r : Nat} (hr : r < nR M) (hn : n ≤ 513) (x : Int64) : f_X2_newClaim h (A r) x = some (clH A r (cL M r) (cL M r % sL M r) x h, some (A r + 2 + 2 * (cL M r % sL M r))) := by
  obtain ⟨s1, s2, s3, s4, s5⟩ := C.2.1.2.2.2.1 r hr
  have w := C.2.2.2.2.2.1 r hr
  have hs := sl_b w
  have hm := sl_mod (q := cL M r) w
  obtain ⟨t1, t2, t3, t4, t5⟩ := s5 _ hm.1
  obtain ⟨w1, ⟨t, ht, et⟩, w3, w4, -, w6, -⟩ := w
  have e1 : h_I h (A r) 1 = nI (sL M r) := by rw [rI_1 C hr, w1]
  have e2 : h_I h (A r) 3 = nI (cL M r) := by rw [rI_2 C hr, w3]
  have e0 : h_I h (A r) 0 = nI r := by rw [rI_60 C hr, w6]
  unfold f_X2_newClaim
  rw [if_pos s1, s2, e1, e2, e0, and_pw (by omega) ht et]
  unfold f_X0_startOver f_J7_fill_d0a16
  simp only [Option.bind_some, s3, s4, if_true, in_nI hm.1 (show sL M r ≤ 65536 by omega), cl_nI (show cL M r % sL M r < 2 ^ 31 by omega), t1, t2, b_d_eq, ksI, nsI, JsI, RsI, ksJ, nsJ, RsJ, t3, t4, t5]
  rw [show (0 : Int32) = nI 0 from rfl, fill_7 8 0 70 _ (by omega) (by omega) (by exact t4) (by exact t5)]
  simp only [Option.bind_some, zH_k, ksI, ksJ, s1, if_true, zH_I]
  have e3 : h_I (s_I (s_I (s_I (s_J (s_I (s_I h (A r + 2 + 2 * (cL M r % sL M r)) 1 (nI r)) (A r + 2 + 2 * (cL M r % sL M r)) 2 (nI (cL M r))) (A r + 2 + 2 * (cL M r % sL M r)) 3 x) (A r + 2 + 2 * (cL M r % sL M r)) 4 (nI 0)) (A r + 2 + 2 * (cL M r % sL M r)) 5 (nI 0)) (A r + 2 + 2 * (cL M r % sL M r)) 6 1) (A r) 3 = nI (cL M r) := by
    rw [sI_n (by omega), sI_n (by omega), sI_n (by omega), IsJ, sI_n (by omega), sI_n (by omega), e2]
  rw [e3, nI_1]
  rfl
theorem make_c (W : Wf_ n M) (a : Ag_ Mm M) {r : Nat} (hr : r < nR M) (hn : n ≤ 513) (x : Int64) : f_X4_make Mm (nI r) x = some (cmM r (cL M r) (cL M r % sL M r) x Mm) := by
  have h8 : r < 8 := by have := W.1.2.1; omega
  have w := W.2.1 r hr
  have hs := sl_b w
  have hm := sl_mod (q := cL M r) w
  have hc := w.2.2.2.1
  unfold f_X4_make
  rw [if_pos (in_nI h8 (by omega)), cl_nI (by omega), ← (a 2 (by omega)).1, w.2.2.1, ← g_f_X4_slot a, slot_nI W hr (by omega)]
  simp only [Option.bind_some, in_nI (show 64 * r + cL M r % sL M r < 512 by omega) (show 512 ≤ 65536 by omega), if_true, cl_nI (show 64 * r + cL M r % sL M r < 2 ^ 31 by omega), b_d_eq]
  rw [show (0 : Int32) = nI 0 from rfl, make_8 (c := cL M r) (by omega) h8 8 0 70 _ (by omega) (by omega)]
  · rfl
  · rw [n_I_o (by omega), n_I_o (by omega), nJ_I, n_I_o (by omega), ← (a 2 (by omega)).1, w.2.2.1]
end CL
