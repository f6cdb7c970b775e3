/-! the law's own rows -/
section LWR
variable {v : Evx} {g : Gvx} {cc : ByteArray} {nL : Nat} {own nm : String} {rt : Option FieldType} {rm : Room} {h : Hpx} {M : Msx} {k n pc : Nat} {lv lv' : List (Nat × Vlx)} {st : List Vlx}
theorem a_lshl (X : Cx_ v g cc nL own nm rt rm) {x : Int64} {y : Int32} (hd : decode cc pc = .ok (.lshl, 1)) (kk : At_ v g nL h M k n (pc + 1) lv (v_J (x <<< (y.toInt64 &&& 63)) :: st)) : At_ v g nL h M k n pc lv (v_I y :: v_J x :: st) := fun H locs ls w hl => lv_lshl X.1 X.2.1 hd rfl (kk H locs ls w hl)
theorem a_sld (X : Cx_ v g cc nL own nm rt rm) {b L jn : Nat} {xs : Nat → Int32} {j : Int32} (hX : va_X b L xs (e_s v) (e_s v).heap) (hbl : b < (e_s v).heap.size) (hba : ¬ g.2.2 ≤ b) (hL : L < 2 ^ 31) (hj : j = nI jn) (hlt : jn < L) (hd : decode cc pc = .ok (.iaload, 1)) (kk : At_ v g nL h M k n (pc + 1) lv (v_I (xs jn) :: st)) : At_ v g nL h M k n pc lv (v_I j :: v_X b :: st) := fun H locs ls w hl => by
  subst hj
  show W_ v H locs k n (F0 _ pc ls (.int (nI jn) :: .ref b :: st.map (to_V g.2.2)))
  refine va_sld X.1 X.2.1 hX hbl hba w.2.2.1 (vp_in_nI hlt hL) hd ?_
  rw [nI_clamp (Nat.lt_trans hlt hL)]
  exact kk H locs ls w hl
theorem a_slen (X : Cx_ v g cc nL own nm rt rm) {b L : Nat} {xs : Nat → Int32} (hX : va_X b L xs (e_s v) (e_s v).heap) (hbl : b < (e_s v).heap.size) (hba : ¬ g.2.2 ≤ b) (hd : decode cc pc = .ok (.arraylength, 1)) (kk : At_ v g nL h M k n (pc + 1) lv (v_I (nI L) :: st)) : At_ v g nL h M k n pc lv (v_X b :: st) := fun H locs ls w hl => by
  show W_ v H locs k n (F0 _ pc ls (.ref b :: st.map (to_V g.2.2)))
  exact va_slen X.1 X.2.1 hX hbl hba w.2.2.1 hd (kk H locs ls w hl)
theorem a_eqT (X : Cx_ v g cc nL own nm rt rm) {x : Int32} {off : Int} {tgt : Nat} (hd : decode cc pc = .ok (.if_icmp .eq off, 3)) (ht : (pc : Int) + off = (tgt : Int)) (kk : At_ v g nL h M k n tgt lv st) : At_ v g nL h M k n pc lv (v_I x :: v_I x :: st) := fun H locs ls w hl => lv_icmp_eq X.1 X.2.1 hd ht (fun _ => kk H locs ls w hl) (fun c => absurd rfl c)
theorem a_eq0 (X : Cx_ v g cc nL own nm rt rm) {x : Int32} {off : Int} {tgt : Nat} (hx : x = 0) (hd : decode cc pc = .ok (.ifCond .eq off, 3)) (ht : (pc : Int) + off = (tgt : Int)) (kk : At_ v g nL h M k n tgt lv st) : At_ v g nL h M k n pc lv (v_I x :: st) := fun H locs ls w hl => lv_if_eq X.1 X.2.1 hd ht (fun _ => kk H locs ls w hl) (fun c => absurd hx c)
def Ag_ (M M' : Msx) : Prop := ∀ f, f < 42 ∨ f = 99 → m_I M' f = m_I M f ∧ m_J M' f = m_J M f
theorem m_fd_le (a : Nat) : m_fd a < 42 ∨ m_fd a = 99 := by
  rcases Nat.lt_or_ge a 41 with h | h
  · exact (by decide : ∀ a, a < 41 → m_fd a < 42 ∨ m_fd a = 99) a h
  · exact Or.inr (m_fdb h)
theorem a_ghostM {M' : Msx} (ag : Ag_ M M') (kk : At_ v g nL h M' k n pc lv st) : At_ v g nL h M k n pc lv st := fun H locs ls w hl => by
  refine kk H locs ls ⟨w.1, ?_, w.2.2.1, w.2.2.2⟩ hl
  intro i q hq
  have h1 := ws_some hq
  have e : cell_ g.2.2 g.2.1 h M' i = cell_ g.2.2 g.2.1 h M i := by
    have e1 : cell_m g.2.2 g.2.1 M' i = cell_m g.2.2 g.2.1 M i := by
      unfold cell_m
      rw [(ag _ (m_fd_le i)).1, (ag _ (m_fd_le i)).2]
      have e2 : (List.range 42).map (m_val g.2.2 M') = (List.range 42).map (m_val g.2.2 M) := List.map_congr_left fun k hk => by
        unfold m_val
        rw [(ag k (Or.inl (List.mem_range.mp hk))).1]
      rw [e2]
    unfold cell_
    rw [e1]
  rw [h1.2, e]
  exact w.2.1 i _ (ws_get h1.1 rfl)
theorem lcmp_self (x : Int64) : lg_cmp x x = 0 := by
  unfold lg_cmp
  rw [if_neg (fun q => Int64.lt_irrefl q), if_pos rfl]
end LWR

def Ok_ring (Inv : Nat → Hpx → Msx → Prop) : Prop := ∀ (n : Nat) (h : Hpx) (M : Msx) (x1 : Int32), n < 512 → Inv n h M → ∃ (h' : Hpx) (M' : Msx) (r : Int32) (M2 : Msx), f_X3_ring h 0 x1 = some (h', r) ∧ f_X4_ring M x1 = some (M', r) ∧ Ag_ M' M2 ∧ Inv (n + 1) h' M2
def Ok_reader (Inv : Nat → Hpx → Msx → Prop) : Prop := ∀ (n : Nat) (h : Hpx) (M : Msx) (x1 : Int32) (x2 : Int32) (x3 : Int32), n < 512 → Inv n h M → ∃ (h' : Hpx) (M' : Msx) (r : Int32) (M2 : Msx), f_X3_reader h 0 x1 x2 x3 = some (h', r) ∧ f_X4_reader M x1 x2 x3 = some (M', r) ∧ Ag_ M' M2 ∧ Inv (n + 1) h' M2
def Ok_join (Inv : Nat → Hpx → Msx → Prop) : Prop := ∀ (n : Nat) (h : Hpx) (M : Msx) (x1 : Int32) (x2 : Int32), n < 512 → Inv n h M → ∃ (h' : Hpx) (M' : Msx) (r : Int32) (M2 : Msx), f_X3_join h 0 x1 x2 = some (h', r) ∧ f_X4_join M x1 x2 = some (M', r) ∧ Ag_ M' M2 ∧ Inv (n + 1) h' M2
def Ok_name (Inv : Nat → Hpx → Msx → Prop) : Prop := ∀ (n : Nat) (h : Hpx) (M : Msx) (x1 : Int32) (x2 : Int32), n < 512 → Inv n h M → ∃ (h' : Hpx) (M' : Msx) (r : Int32) (M2 : Msx), f_X3_name h 0 x1 x2 = some (h', r) ∧ f_X4_name M x1 x2 = some (M', r) ∧ Ag_ M' M2 ∧ Inv (n + 1) h' M2
def Ok_circle (Inv : Nat → Hpx → Msx → Prop) : Prop := ∀ (n : Nat) (h : Hpx) (M : Msx) (x1 : Int32), n < 512 → Inv n h M → ∃ (r : Int32) (M2 : Msx), f_X3_circle h 0 x1 = some r ∧ f_X4_circle M x1 = some r ∧ Ag_ M M2 ∧ Inv (n + 1) h M2
def Ok_begin (Inv : Nat → Hpx → Msx → Prop) : Prop := ∀ (n : Nat) (h : Hpx) (M : Msx), n < 512 → Inv n h M → ∃ (h' : Hpx) (M' : Msx) (r : Int32) (M2 : Msx), f_X3_begin h 0 = some (h', r) ∧ f_X4_begin M = some (M', r) ∧ Ag_ M' M2 ∧ Inv (n + 1) h' M2
def Ok_made (Inv : Nat → Hpx → Msx → Prop) : Prop := ∀ (n : Nat) (h : Hpx) (M : Msx), n < 512 → Inv n h M → ∃ (r : Int32) (M2 : Msx), f_X3_made h 0 = some r ∧ f_X4_made M = some r ∧ Ag_ M M2 ∧ Inv (n + 1) h M2
def Ok_claim (Inv : Nat → Hpx → Msx → Prop) : Prop := ∀ (n : Nat) (h : Hpx) (M : Msx) (x1 : Int32) (x2 : Int64), n < 512 → Inv n h M → ∃ (h' : Hpx) (M' : Msx) (r : Int32) (M2 : Msx), f_X3_claim h 0 x1 x2 = some (h', r) ∧ f_X4_claim M x1 x2 = some (M', r) ∧ Ag_ M' M2 ∧ Inv (n + 1) h' M2
def Ok_batch (Inv : Nat → Hpx → Msx → Prop) : Prop := ∀ (n : Nat) (h : Hpx) (M : Msx) (x1 : Int32) (x2 : Int64) (x4 : Int32), n < 512 → Inv n h M → ∃ (h' : Hpx) (M' : Msx) (r : Int32) (M2 : Msx), f_X3_batch h 0 x1 x2 x4 = some (h', r) ∧ f_X4_batch M x1 x2 x4 = some (M', r) ∧ Ag_ M' M2 ∧ Inv (n + 1) h' M2
def Ok_by (Inv : Nat → Hpx → Msx → Prop) : Prop := ∀ (n : Nat) (h : Hpx) (M : Msx), n < 512 → Inv n h M → ∃ (r : Int32) (M2 : Msx), f_X3_by h 0 = some r ∧ f_X4_by M = some r ∧ Ag_ M M2 ∧ Inv (n + 1) h M2
def Ok_again (Inv : Nat → Hpx → Msx → Prop) : Prop := ∀ (n : Nat) (h : Hpx) (M : Msx), n < 512 → Inv n h M → ∃ (h' : Hpx) (M' : Msx) (r : Int32) (M2 : Msx), f_X3_again h 0 = some (h', r) ∧ f_X4_again M = some (M', r) ∧ Ag_ M' M2 ∧ Inv (n + 1) h' M2
def Ok_fill (Inv : Nat → Hpx → Msx → Prop) : Prop := ∀ (n : Nat) (h : Hpx) (M : Msx) (x1 : Int32) (x2 : Int32) (x3 : Int32) (x4 : Int64), n < 512 → Inv n h M → ∃ (h' : Hpx) (M' : Msx) (r : Int32) (M2 : Msx), f_X3_fill h 0 x1 x2 x3 x4 = some (h', r) ∧ f_X4_fill M x1 x2 x3 x4 = some (M', r) ∧ Ag_ M' M2 ∧ Inv (n + 1) h' M2
def Ok_copy (Inv : Nat → Hpx → Msx → Prop) : Prop := ∀ (n : Nat) (h : Hpx) (M : Msx) (x1 : Int32) (x2 : Int32) (x3 : Int32) (x4 : Int32) (x5 : Int32), n < 512 → Inv n h M → ∃ (h' : Hpx) (M' : Msx) (r : Int32) (M2 : Msx), f_X3_copy h 0 x1 x2 x3 x4 x5 = some (h', r) ∧ f_X4_copy M x1 x2 x3 x4 x5 = some (M', r) ∧ Ag_ M' M2 ∧ Inv (n + 1) h' M2
def Ok_publish (Inv : Nat → Hpx → Msx → Prop) : Prop := ∀ (n : Nat) (h : Hpx) (M : Msx) (x1 : Int32) (x2 : Int32) (x3 : Int32) (x4 : Int32), n < 512 → Inv n h M → ∃ (h' : Hpx) (M' : Msx) (r : Int32) (M2 : Msx), f_X3_publish h 0 x1 x2 x3 x4 = some (h', r) ∧ f_X4_publish M x1 x2 x3 x4 = some (M', r) ∧ Ag_ M' M2 ∧ Inv (n + 1) h' M2
def Ok_close (Inv : Nat → Hpx → Msx → Prop) : Prop := ∀ (n : Nat) (h : Hpx) (M : Msx) (x1 : Int32), n < 512 → Inv n h M → ∃ (h' : Hpx) (M' : Msx) (r : Int32) (M2 : Msx), f_X3_close h 0 x1 = some (h', r) ∧ f_X4_close M x1 = some (M', r) ∧ Ag_ M' M2 ∧ Inv (n + 1) h' M2
def Ok_give (Inv : Nat → Hpx → Msx → Prop) : Prop := ∀ (n : Nat) (h : Hpx) (M : Msx) (x1 : Int32), n < 512 → Inv n h M → ∃ (h' : Hpx) (M' : Msx) (r : Int32) (M2 : Msx), f_X3_give h 0 x1 = some (h', r) ∧ f_X4_give M x1 = some (M', r) ∧ Ag_ M' M2 ∧ Inv (n + 1) h' M2
def Ok_told (Inv : Nat → Hpx → Msx → Prop) : Prop := ∀ (n : Nat) (h : Hpx) (M : Msx) (x1 : Int32) (x2 : Int32), n < 512 → Inv n h M → ∃ (h' : Hpx) (M' : Msx) (r : Int32) (M2 : Msx), f_X3_told h 0 x1 x2 = some (h', r) ∧ f_X4_told M x1 x2 = some (M', r) ∧ Ag_ M' M2 ∧ Inv (n + 1) h' M2
def Ok_last (Inv : Nat → Hpx → Msx → Prop) : Prop := ∀ (n : Nat) (h : Hpx) (M : Msx) (x1 : Int32), n < 512 → Inv n h M → ∃ (r : Int64) (M2 : Msx), f_X3_last h 0 x1 = some r ∧ f_X4_last M x1 = some r ∧ Ag_ M M2 ∧ Inv (n + 1) h M2
def Ok_read (Inv : Nat → Hpx → Msx → Prop) : Prop := ∀ (n : Nat) (h : Hpx) (M : Msx) (x1 : Int32), n < 512 → Inv n h M → ∃ (h' : Hpx) (M' : Msx) (r : Int32) (M2 : Msx), f_X3_read h 0 x1 = some (h', r) ∧ f_X4_read M x1 = some (M', r) ∧ Ag_ M' M2 ∧ Inv (n + 1) h' M2
def Ok_round (Inv : Nat → Hpx → Msx → Prop) : Prop := ∀ (n : Nat) (h : Hpx) (M : Msx), n < 512 → Inv n h M → ∃ (h' : Hpx) (M' : Msx) (r : Int32) (M2 : Msx), f_X3_round h 0 = some (h', r) ∧ f_X4_round M = some (M', r) ∧ Ag_ M' M2 ∧ Inv (n + 1) h' M2
def Ok_got (Inv : Nat → Hpx → Msx → Prop) : Prop := ∀ (n : Nat) (h : Hpx) (M : Msx) (x1 : Int32) (x2 : Int32), n < 512 → Inv n h M → ∃ (r : Int64) (M2 : Msx), f_X3_got h 0 x1 x2 = some r ∧ f_X4_got M x1 x2 = some r ∧ Ag_ M M2 ∧ Inv (n + 1) h M2
def Ok_word (Inv : Nat → Hpx → Msx → Prop) : Prop := ∀ (n : Nat) (h : Hpx) (M : Msx) (x1 : Int32) (x2 : Int32), n < 512 → Inv n h M → ∃ (r : Int64) (M2 : Msx), f_X3_word h 0 x1 x2 = some r ∧ f_X4_word M x1 x2 = some r ∧ Ag_ M M2 ∧ Inv (n + 1) h M2
def Ok_of (Inv : Nat → Hpx → Msx → Prop) : Prop := ∀ (n : Nat) (h : Hpx) (M : Msx) (x1 : Int32) (x2 : Int32), n < 512 → Inv n h M → ∃ (h' : Hpx) (M' : Msx) (r : Int32) (M2 : Msx), f_X3_of h 0 x1 x2 = some (h', r) ∧ f_X4_of M x1 x2 = some (M', r) ∧ Ag_ M' M2 ∧ Inv (n + 1) h' M2
def Ok_place (Inv : Nat → Hpx → Msx → Prop) : Prop := ∀ (n : Nat) (h : Hpx) (M : Msx) (x1 : Int32) (x2 : Int32), n < 512 → Inv n h M → ∃ (r : Int32) (M2 : Msx), f_X3_place h 0 x1 x2 = some r ∧ f_X4_place M x1 x2 = some r ∧ Ag_ M M2 ∧ Inv (n + 1) h M2
def Ok_named (Inv : Nat → Hpx → Msx → Prop) : Prop := ∀ (n : Nat) (h : Hpx) (M : Msx) (x1 : Int32) (x2 : Int32), n < 512 → Inv n h M → ∃ (h' : Hpx) (M' : Msx) (r : Int32) (M2 : Msx), f_X3_named h 0 x1 x2 = some (h', r) ∧ f_X4_named M x1 x2 = some (M', r) ∧ Ag_ M' M2 ∧ Inv (n + 1) h' M2
def Ok_entry (Inv : Nat → Hpx → Msx → Prop) : Prop := ∀ (n : Nat) (h : Hpx) (M : Msx) (x1 : Int32) (x2 : Int32), n < 512 → Inv n h M → ∃ (h' : Hpx) (M' : Msx) (r : Int32) (M2 : Msx), f_X3_entry h 0 x1 x2 = some (h', r) ∧ f_X4_entry M x1 x2 = some (M', r) ∧ Ag_ M' M2 ∧ Inv (n + 1) h' M2
def Ok_target (Inv : Nat → Hpx → Msx → Prop) : Prop := ∀ (n : Nat) (h : Hpx) (M : Msx) (x1 : Int32), n < 512 → Inv n h M → ∃ (h' : Hpx) (M' : Msx) (r : Int32) (M2 : Msx), f_X3_target h 0 x1 = some (h', r) ∧ f_X4_target M x1 = some (M', r) ∧ Ag_ M' M2 ∧ Inv (n + 1) h' M2
def Ok_why (Inv : Nat → Hpx → Msx → Prop) : Prop := ∀ (n : Nat) (h : Hpx) (M : Msx) (x1 : Int32), n < 512 → Inv n h M → ∃ (r : Int32) (M2 : Msx), f_X3_why h 0 x1 = some r ∧ f_X4_why M x1 = some r ∧ Ag_ M M2 ∧ Inv (n + 1) h M2
def Ok_on (Inv : Nat → Hpx → Msx → Prop) : Prop := ∀ (n : Nat) (h : Hpx) (M : Msx) (x1 : Int32), n < 512 → Inv n h M → ∃ (r : Int32) (M2 : Msx), f_X3_on h 0 x1 = some r ∧ f_X4_on M x1 = some r ∧ Ag_ M M2 ∧ Inv (n + 1) h M2
def Ok_stuck (Inv : Nat → Hpx → Msx → Prop) : Prop := ∀ (n : Nat) (h : Hpx) (M : Msx), n < 512 → Inv n h M → ∃ (r : Int32) (M2 : Msx), f_X3_stuck h 0 = some r ∧ f_X4_stuck M = some r ∧ Ag_ M M2 ∧ Inv (n + 1) h M2
def Ok_found (Inv : Nat → Hpx → Msx → Prop) : Prop := ∀ (n : Nat) (h : Hpx) (M : Msx) (x1 : Int32), n < 512 → Inv n h M → ∃ (r : Int32) (M2 : Msx), f_X3_found h 0 x1 = some r ∧ f_X4_found M x1 = some r ∧ Ag_ M M2 ∧ Inv (n + 1) h M2
set_option maxHeartbeats 4000000 in
theorem lc_ring {nm : String} {v : Evx} {g : Gvx} {Inv : Nat → Hpx → Msx → Prop} {t b L k n : Nat} {xs : Nat → Int32} {h : Hpx} {M : Msx} (X : Cx_ v g code 4 RL nm ret room_1) (hX : va_X b L xs (e_s v) (e_s v).heap) (hbl : b < (e_s v).heap.size) (hba : ¬ g.2.2 ≤ b) (hL : 6 * t + 6 ≤ L) (hL2 : L ≤ 3072) (hI0 : ∀ n h M, Inv n h M → MR_ h ∧ h_k h 0 = 4) (I : Inv t h M) (hkn : k + 146 ≤ 1196082 ∧ n + 1124 ≤ 5514002) (ok : Ok_ring Inv) (kk : ∀ (h' : Hpx) (M' : Msx) (k' n' : Nat), k' ≤ k + 146 → n' ≤ n + 1124 → Inv (t + 1) h' M' → At_ v g 4 h' M' k' n' 1158 [(0, v_X b), (1, v_R (some 0)), (2, v_R (some 5)), (3, v_I (nI (6 * t)))] []) : At_ v g 4 h M k n 172 [(0, v_X b), (1, v_R (some 0)), (2, v_R (some 5)), (3, v_I (nI (6 * t)))] [] := by
  obtain ⟨h', M', r, M2, q1, q2, ag, I'⟩ := ok t h M (xs (6 * t + 1)) (by omega) I
  refine a_aload_n X dL_law_172 rfl ?_
  refine a_xload_n X dL_law_173 rfl ?_
  refine a_iload_n X dL_law_174 rfl ?_
  refine a_iconst (x := 1) X dL_law_175 (by decide) ?_
  refine a_iadd X dL_law_176 ?_
  refine a_sld (jn := 6 * t + 1) X hX hbl hba (by omega) (nI_add (6 * t) 1) (by omega) dL_law_177 ?_
  refine a_callV (k' := k + 142) (n' := n + 1121) (st := []) X (c_X3_ring q1) yv_X3_ring ml_L_13 rfl (Or.inl (hI0 _ _ _ I).2) ⟨by decide, by decide, by show k + 142 ≤ 1196082; omega, by show n + 1121 ≤ 5514002; omega, Nat.le_of_ble_eq_true rfl⟩ rfl rfl dL_law_178 rfl rfl ?_
  show At_ v g 4 h' M (k + 142) (n + 1121) 181 [(0, v_X b), (1, v_R (some 0)), (2, v_R (some 5)), (3, v_I (nI (6 * t)))] [v_I r]
  refine a_aload_n X dL_law_181 rfl ?_
  refine a_xload_n X dL_law_182 rfl ?_
  refine a_iload_n X dL_law_183 rfl ?_
  refine a_iconst (x := 1) X dL_law_184 (by decide) ?_
  refine a_iadd X dL_law_185 ?_
  refine a_sld (jn := 6 * t + 1) X hX hbl hba (by omega) (nI_add (6 * t) 1) (by omega) dL_law_186 ?_
  refine a_callV (k' := k + 142) (n' := n + 1121) (st := [v_I r]) X (c_X4_ring (hI0 _ _ _ I').1 q2) yv_X4_ring ml_L_17 rfl (Or.inr (mr5_ (hI0 _ _ _ I').1)) ⟨by decide, by decide, by show k + 142 + 0 ≤ 1196082; omega, by show n + 1121 + 0 ≤ 5514002; omega, Nat.le_of_ble_eq_true rfl⟩ rfl rfl dL_law_187 rfl rfl ?_
  show At_ v g 4 h' M' (k + 142) (n + 1121) 190 [(0, v_X b), (1, v_R (some 0)), (2, v_R (some 5)), (3, v_I (nI (6 * t)))] [v_I r, v_I r]
  refine a_eqT (tgt := 1158) X dL_law_190 (by decide) ?_
  exact a_ghostM ag (kk h' M2 (k + 142) (n + 1121) (by omega) (by omega) I')
set_option maxHeartbeats 4000000 in
theorem lc_reader {nm : String} {v : Evx} {g : Gvx} {Inv : Nat → Hpx → Msx → Prop} {t b L k n : Nat} {xs : Nat → Int32} {h : Hpx} {M : Msx} (X : Cx_ v g code 4 RL nm ret room_1) (hX : va_X b L xs (e_s v) (e_s v).heap) (hbl : b < (e_s v).heap.size) (hba : ¬ g.2.2 ≤ b) (hL : 6 * t + 6 ≤ L) (hL2 : L ≤ 3072) (hI0 : ∀ n h M, Inv n h M → MR_ h ∧ h_k h 0 = 4) (I : Inv t h M) (hkn : k + 146 ≤ 1196082 ∧ n + 1124 ≤ 5514002) (ok : Ok_reader Inv) (kk : ∀ (h' : Hpx) (M' : Msx) (k' n' : Nat), k' ≤ k + 146 → n' ≤ n + 1124 → Inv (t + 1) h' M' → At_ v g 4 h' M' k' n' 1158 [(0, v_X b), (1, v_R (some 0)), (2, v_R (some 5)), (3, v_I (nI (6 * t)))] []) : At_ v g 4 h M k n 195 [(0, v_X b), (1, v_R (some 0)), (2, v_R (some 5)), (3, v_I (nI (6 * t)))] [] := by
  obtain ⟨h', M', r, M2, q1, q2, ag, I'⟩ := ok t h M (xs (6 * t + 1)) (xs (6 * t + 2)) (xs (6 * t + 3)) (by omega) I
  refine a_aload_n X dL_law_195 rfl ?_
  refine a_xload_n X dL_law_196 rfl ?_
  refine a_iload_n X dL_law_197 rfl ?_
  refine a_iconst (x := 1) X dL_law_198 (by decide) ?_
  refine a_iadd X dL_law_199 ?_
  refine a_sld (jn := 6 * t + 1) X hX hbl hba (by omega) (nI_add (6 * t) 1) (by omega) dL_law_200 ?_
  refine a_xload_n X dL_law_201 rfl ?_
  refine a_iload_n X dL_law_202 rfl ?_
  refine a_iconst (x := 2) X dL_law_203 (by decide) ?_
  refine a_iadd X dL_law_204 ?_
  refine a_sld (jn := 6 * t + 2) X hX hbl hba (by omega) (nI_add (6 * t) 2) (by omega) dL_law_205 ?_
  refine a_xload_n X dL_law_206 rfl ?_
  refine a_iload_n X dL_law_207 rfl ?_
  refine a_iconst (x := 3) X dL_law_208 (by decide) ?_
  refine a_iadd X dL_law_209 ?_
  refine a_sld (jn := 6 * t + 3) X hX hbl hba (by omega) (nI_add (6 * t) 3) (by omega) dL_law_210 ?_
  refine a_callV (k' := k + 146) (n' := n + 1124) (st := []) X (c_X3_reader q1) yv_X3_reader ml_L_18 rfl (Or.inl (hI0 _ _ _ I).2) ⟨by decide, by decide, by show k + 146 ≤ 1196082; omega, by show n + 1124 ≤ 5514002; omega, Nat.le_of_ble_eq_true rfl⟩ rfl rfl dL_law_211 rfl rfl ?_
  show At_ v g 4 h' M (k + 146) (n + 1124) 214 [(0, v_X b), (1, v_R (some 0)), (2, v_R (some 5)), (3, v_I (nI (6 * t)))] [v_I r]
  refine a_aload_n X dL_law_214 rfl ?_
  refine a_xload_n X dL_law_215 rfl ?_
  refine a_iload_n X dL_law_216 rfl ?_
  refine a_iconst (x := 1) X dL_law_217 (by decide) ?_
  refine a_iadd X dL_law_218 ?_
  refine a_sld (jn := 6 * t + 1) X hX hbl hba (by omega) (nI_add (6 * t) 1) (by omega) dL_law_219 ?_
  refine a_xload_n X dL_law_220 rfl ?_
  refine a_iload_n X dL_law_221 rfl ?_
  refine a_iconst (x := 2) X dL_law_222 (by decide) ?_
  refine a_iadd X dL_law_223 ?_
  refine a_sld (jn := 6 * t + 2) X hX hbl hba (by omega) (nI_add (6 * t) 2) (by omega) dL_law_224 ?_
  refine a_xload_n X dL_law_225 rfl ?_
  refine a_iload_n X dL_law_226 rfl ?_
  refine a_iconst (x := 3) X dL_law_227 (by decide) ?_
  refine a_iadd X dL_law_228 ?_
  refine a_sld (jn := 6 * t + 3) X hX hbl hba (by omega) (nI_add (6 * t) 3) (by omega) dL_law_229 ?_
  refine a_callV (k' := k + 146) (n' := n + 1124) (st := [v_I r]) X (c_X4_reader (hI0 _ _ _ I').1 q2) yv_X4_reader ml_L_22 rfl (Or.inr (mr5_ (hI0 _ _ _ I').1)) ⟨by decide, by decide, by show k + 146 + 0 ≤ 1196082; omega, by show n + 1124 + 0 ≤ 5514002; omega, Nat.le_of_ble_eq_true rfl⟩ rfl rfl dL_law_230 rfl rfl ?_
  show At_ v g 4 h' M' (k + 146) (n + 1124) 233 [(0, v_X b), (1, v_R (some 0)), (2, v_R (some 5)), (3, v_I (nI (6 * t)))] [v_I r, v_I r]
  refine a_eqT (tgt := 1158) X dL_law_233 (by decide) ?_
  exact a_ghostM ag (kk h' M2 (k + 146) (n + 1124) (by omega) (by omega) I')
set_option maxHeartbeats 4000000 in
theorem lc_join {nm : String} {v : Evx} {g : Gvx} {Inv : Nat → Hpx → Msx → Prop} {t b L k n : Nat} {xs : Nat → Int32} {h : Hpx} {M : Msx} (X : Cx_ v g code 4 RL nm ret room_1) (hX : va_X b L xs (e_s v) (e_s v).heap) (hbl : b < (e_s v).heap.size) (hba : ¬ g.2.2 ≤ b) (hL : 6 * t + 6 ≤ L) (hL2 : L ≤ 3072) (hI0 : ∀ n h M, Inv n h M → MR_ h ∧ h_k h 0 = 4) (I : Inv t h M) (hkn : k + 146 ≤ 1196082 ∧ n + 1124 ≤ 5514002) (ok : Ok_join Inv) (kk : ∀ (h' : Hpx) (M' : Msx) (k' n' : Nat), k' ≤ k + 146 → n' ≤ n + 1124 → Inv (t + 1) h' M' → At_ v g 4 h' M' k' n' 1158 [(0, v_X b), (1, v_R (some 0)), (2, v_R (some 5)), (3, v_I (nI (6 * t)))] []) : At_ v g 4 h M k n 238 [(0, v_X b), (1, v_R (some 0)), (2, v_R (some 5)), (3, v_I (nI (6 * t)))] [] := by
  obtain ⟨h', M', r, M2, q1, q2, ag, I'⟩ := ok t h M (xs (6 * t + 1)) (xs (6 * t + 2)) (by omega) I
  refine a_aload_n X dL_law_238 rfl ?_
  refine a_xload_n X dL_law_239 rfl ?_
  refine a_iload_n X dL_law_240 rfl ?_
  refine a_iconst (x := 1) X dL_law_241 (by decide) ?_
  refine a_iadd X dL_law_242 ?_
  refine a_sld (jn := 6 * t + 1) X hX hbl hba (by omega) (nI_add (6 * t) 1) (by omega) dL_law_243 ?_
  refine a_xload_n X dL_law_244 rfl ?_
  refine a_iload_n X dL_law_245 rfl ?_
  refine a_iconst (x := 2) X dL_law_246 (by decide) ?_
  refine a_iadd X dL_law_247 ?_
  refine a_sld (jn := 6 * t + 2) X hX hbl hba (by omega) (nI_add (6 * t) 2) (by omega) dL_law_248 ?_
  refine a_callV (k' := k) (n' := n) (st := []) X (c_X3_join q1) yv_X3_join ml_L_23 rfl (Or.inl (hI0 _ _ _ I).2) ⟨by decide, by decide, by show k + 0 ≤ 1196082; omega, by show n + 0 ≤ 5514002; omega, Nat.le_of_ble_eq_true rfl⟩ rfl rfl dL_law_249 rfl rfl ?_
  show At_ v g 4 h' M (k) (n) 252 [(0, v_X b), (1, v_R (some 0)), (2, v_R (some 5)), (3, v_I (nI (6 * t)))] [v_I r]
  refine a_aload_n X dL_law_252 rfl ?_
  refine a_xload_n X dL_law_253 rfl ?_
  refine a_iload_n X dL_law_254 rfl ?_
  refine a_iconst (x := 1) X dL_law_255 (by decide) ?_
  refine a_iadd X dL_law_256 ?_
  refine a_sld (jn := 6 * t + 1) X hX hbl hba (by omega) (nI_add (6 * t) 1) (by omega) dL_law_257 ?_
  refine a_xload_n X dL_law_258 rfl ?_
  refine a_iload_n X dL_law_259 rfl ?_
  refine a_iconst (x := 2) X dL_law_260 (by decide) ?_
  refine a_iadd X dL_law_261 ?_
  refine a_sld (jn := 6 * t + 2) X hX hbl hba (by omega) (nI_add (6 * t) 2) (by omega) dL_law_262 ?_
  refine a_callV (k' := k) (n' := n) (st := [v_I r]) X (c_X4_join (hI0 _ _ _ I').1 q2) yv_X4_join ml_L_27 rfl (Or.inr (mr5_ (hI0 _ _ _ I').1)) ⟨by decide, by decide, by show k + 0 ≤ 1196082; omega, by show n + 0 ≤ 5514002; omega, Nat.le_of_ble_eq_true rfl⟩ rfl rfl dL_law_263 rfl rfl ?_
  show At_ v g 4 h' M' (k) (n) 266 [(0, v_X b), (1, v_R (some 0)), (2, v_R (some 5)), (3, v_I (nI (6 * t)))] [v_I r, v_I r]
  refine a_eqT (tgt := 1158) X dL_law_266 (by decide) ?_
  exact a_ghostM ag (kk h' M2 (k) (n) (by omega) (by omega) I')
set_option maxHeartbeats 4000000 in
theorem lc_name {nm : String} {v : Evx} {g : Gvx} {Inv : Nat → Hpx → Msx → Prop} {t b L k n : Nat} {xs : Nat → Int32} {h : Hpx} {M : Msx} (X : Cx_ v g code 4 RL nm ret room_1) (hX : va_X b L xs (e_s v) (e_s v).heap) (hbl : b < (e_s v).heap.size) (hba : ¬ g.2.2 ≤ b) (hL : 6 * t + 6 ≤ L) (hL2 : L ≤ 3072) (hI0 : ∀ n h M, Inv n h M → MR_ h ∧ h_k h 0 = 4) (I : Inv t h M) (hkn : k + 146 ≤ 1196082 ∧ n + 1124 ≤ 5514002) (ok : Ok_name Inv) (kk : ∀ (h' : Hpx) (M' : Msx) (k' n' : Nat), k' ≤ k + 146 → n' ≤ n + 1124 → Inv (t + 1) h' M' → At_ v g 4 h' M' k' n' 1158 [(0, v_X b), (1, v_R (some 0)), (2, v_R (some 5)), (3, v_I (nI (6 * t)))] []) : At_ v g 4 h M k n 271 [(0, v_X b), (1, v_R (some 0)), (2, v_R (some 5)), (3, v_I (nI (6 * t)))] [] := by
  obtain ⟨h', M', r, M2, q1, q2, ag, I'⟩ := ok t h M (xs (6 * t + 1)) (xs (6 * t + 2)) (by omega) I
  refine a_aload_n X dL_law_271 rfl ?_
  refine a_xload_n X dL_law_272 rfl ?_
  refine a_iload_n X dL_law_273 rfl ?_
  refine a_iconst (x := 1) X dL_law_274 (by decide) ?_
  refine a_iadd X dL_law_275 ?_
  refine a_sld (jn := 6 * t + 1) X hX hbl hba (by omega) (nI_add (6 * t) 1) (by omega) dL_law_276 ?_
  refine a_xload_n X dL_law_277 rfl ?_
  refine a_iload_n X dL_law_278 rfl ?_
  refine a_iconst (x := 2) X dL_law_279 (by decide) ?_
  refine a_iadd X dL_law_280 ?_
  refine a_sld (jn := 6 * t + 2) X hX hbl hba (by omega) (nI_add (6 * t) 2) (by omega) dL_law_281 ?_
  refine a_callV (k' := k) (n' := n) (st := []) X (c_X3_name q1) yv_X3_name ml_L_28 rfl (Or.inl (hI0 _ _ _ I).2) ⟨by decide, by decide, by show k + 0 ≤ 1196082; omega, by show n + 0 ≤ 5514002; omega, Nat.le_of_ble_eq_true rfl⟩ rfl rfl dL_law_282 rfl rfl ?_
  show At_ v g 4 h' M (k) (n) 285 [(0, v_X b), (1, v_R (some 0)), (2, v_R (some 5)), (3, v_I (nI (6 * t)))] [v_I r]
  refine a_aload_n X dL_law_285 rfl ?_
  refine a_xload_n X dL_law_286 rfl ?_
  refine a_iload_n X dL_law_287 rfl ?_
  refine a_iconst (x := 1) X dL_law_288 (by decide) ?_
  refine a_iadd X dL_law_289 ?_
  refine a_sld (jn := 6 * t + 1) X hX hbl hba (by omega) (nI_add (6 * t) 1) (by omega) dL_law_290 ?_
  refine a_xload_n X dL_law_291 rfl ?_
  refine a_iload_n X dL_law_292 rfl ?_
  refine a_iconst (x := 2) X dL_law_293 (by decide) ?_
  refine a_iadd X dL_law_294 ?_
  refine a_sld (jn := 6 * t + 2) X hX hbl hba (by omega) (nI_add (6 * t) 2) (by omega) dL_law_295 ?_
  refine a_callV (k' := k) (n' := n) (st := [v_I r]) X (c_X4_name (hI0 _ _ _ I').1 q2) yv_X4_name ml_L_31 rfl (Or.inr (mr5_ (hI0 _ _ _ I').1)) ⟨by decide, by decide, by show k + 0 ≤ 1196082; omega, by show n + 0 ≤ 5514002; omega, Nat.le_of_ble_eq_true rfl⟩ rfl rfl dL_law_296 rfl rfl ?_
  show At_ v g 4 h' M' (k) (n) 299 [(0, v_X b), (1, v_R (some 0)), (2, v_R (some 5)), (3, v_I (nI (6 * t)))] [v_I r, v_I r]
  refine a_eqT (tgt := 1158) X dL_law_299 (by decide) ?_
  exact a_ghostM ag (kk h' M2 (k) (n) (by omega) (by omega) I')
set_option maxHeartbeats 4000000 in
theorem lc_circle {nm : String} {v : Evx} {g : Gvx} {Inv : Nat → Hpx → Msx → Prop} {t b L k n : Nat} {xs : Nat → Int32} {h : Hpx} {M : Msx} (X : Cx_ v g code 4 RL nm ret room_1) (hX : va_X b L xs (e_s v) (e_s v).heap) (hbl : b < (e_s v).heap.size) (hba : ¬ g.2.2 ≤ b) (hL : 6 * t + 6 ≤ L) (hL2 : L ≤ 3072) (hI0 : ∀ n h M, Inv n h M → MR_ h ∧ h_k h 0 = 4) (I : Inv t h M) (hkn : k + 146 ≤ 1196082 ∧ n + 1124 ≤ 5514002) (ok : Ok_circle Inv) (kk : ∀ (h' : Hpx) (M' : Msx) (k' n' : Nat), k' ≤ k + 146 → n' ≤ n + 1124 → Inv (t + 1) h' M' → At_ v g 4 h' M' k' n' 1158 [(0, v_X b), (1, v_R (some 0)), (2, v_R (some 5)), (3, v_I (nI (6 * t)))] []) : At_ v g 4 h M k n 304 [(0, v_X b), (1, v_R (some 0)), (2, v_R (some 5)), (3, v_I (nI (6 * t)))] [] := by
  obtain ⟨r, M2, q1, q2, ag, I'⟩ := ok t h M (xs (6 * t + 1)) (by omega) I
  refine a_aload_n X dL_law_304 rfl ?_
  refine a_xload_n X dL_law_305 rfl ?_
  refine a_iload_n X dL_law_306 rfl ?_
  refine a_iconst (x := 1) X dL_law_307 (by decide) ?_
  refine a_iadd X dL_law_308 ?_
  refine a_sld (jn := 6 * t + 1) X hX hbl hba (by omega) (nI_add (6 * t) 1) (by omega) dL_law_309 ?_
  refine a_callV (k' := k) (n' := n) (st := []) X (c_X3_circle q1) yv_X3_circle ml_L_32 rfl (Or.inl (hI0 _ _ _ I).2) ⟨by decide, by decide, by show k + 0 ≤ 1196082; omega, by show n + 0 ≤ 5514002; omega, Nat.le_of_ble_eq_true rfl⟩ rfl rfl dL_law_310 rfl rfl ?_
  show At_ v g 4 h M (k) (n) 313 [(0, v_X b), (1, v_R (some 0)), (2, v_R (some 5)), (3, v_I (nI (6 * t)))] [v_I r]
  refine a_aload_n X dL_law_313 rfl ?_
  refine a_xload_n X dL_law_314 rfl ?_
  refine a_iload_n X dL_law_315 rfl ?_
  refine a_iconst (x := 1) X dL_law_316 (by decide) ?_
  refine a_iadd X dL_law_317 ?_
  refine a_sld (jn := 6 * t + 1) X hX hbl hba (by omega) (nI_add (6 * t) 1) (by omega) dL_law_318 ?_
  refine a_callV (k' := k) (n' := n) (st := [v_I r]) X (c_X4_circle (hI0 _ _ _ I').1 q2) yv_X4_circle ml_L_35 rfl (Or.inr (mr5_ (hI0 _ _ _ I').1)) ⟨by decide, by decide, by show k + 0 ≤ 1196082; omega, by show n + 0 ≤ 5514002; omega, Nat.le_of_ble_eq_true rfl⟩ rfl rfl dL_law_319 rfl rfl ?_
  show At_ v g 4 h M (k) (n) 322 [(0, v_X b), (1, v_R (some 0)), (2, v_R (some 5)), (3, v_I (nI (6 * t)))] [v_I r, v_I r]
  refine a_eqT (tgt := 1158) X dL_law_322 (by decide) ?_
  exact a_ghostM ag (kk h M2 (k) (n) (by omega) (by omega) I')
set_option maxHeartbeats 4000000 in
theorem lc_begin {nm : String} {v : Evx} {g : Gvx} {Inv : Nat → Hpx → Msx → Prop} {t b L k n : Nat} {xs : Nat → Int32} {h : Hpx} {M : Msx} (X : Cx_ v g code 4 RL nm ret room_1) (hX : va_X b L xs (e_s v) (e_s v).heap) (hbl : b < (e_s v).heap.size) (hba : ¬ g.2.2 ≤ b) (hL : 6 * t + 6 ≤ L) (hL2 : L ≤ 3072) (hI0 : ∀ n h M, Inv n h M → MR_ h ∧ h_k h 0 = 4) (I : Inv t h M) (hkn : k + 146 ≤ 1196082 ∧ n + 1124 ≤ 5514002) (ok : Ok_begin Inv) (kk : ∀ (h' : Hpx) (M' : Msx) (k' n' : Nat), k' ≤ k + 146 → n' ≤ n + 1124 → Inv (t + 1) h' M' → At_ v g 4 h' M' k' n' 1158 [(0, v_X b), (1, v_R (some 0)), (2, v_R (some 5)), (3, v_I (nI (6 * t)))] []) : At_ v g 4 h M k n 327 [(0, v_X b), (1, v_R (some 0)), (2, v_R (some 5)), (3, v_I (nI (6 * t)))] [] := by
  obtain ⟨h', M', r, M2, q1, q2, ag, I'⟩ := ok t h M  (by omega) I
  refine a_aload_n X dL_law_327 rfl ?_
  refine a_callV (k' := k) (n' := n) (st := []) X (c_X3_begin q1) yv_X3_begin ml_L_36 rfl (Or.inl (hI0 _ _ _ I).2) ⟨by decide, by decide, by show k + 0 ≤ 1196082; omega, by show n + 0 ≤ 5514002; omega, Nat.le_of_ble_eq_true rfl⟩ rfl rfl dL_law_328 rfl rfl ?_
  show At_ v g 4 h' M (k) (n) 331 [(0, v_X b), (1, v_R (some 0)), (2, v_R (some 5)), (3, v_I (nI (6 * t)))] [v_I r]
  refine a_aload_n X dL_law_331 rfl ?_
  refine a_callV (k' := k) (n' := n) (st := [v_I r]) X (c_X4_begin (hI0 _ _ _ I').1 q2) yv_X4_begin ml_L_40 rfl (Or.inr (mr5_ (hI0 _ _ _ I').1)) ⟨by decide, by decide, by show k + 0 ≤ 1196082; omega, by show n + 0 ≤ 5514002; omega, Nat.le_of_ble_eq_true rfl⟩ rfl rfl dL_law_332 rfl rfl ?_
  show At_ v g 4 h' M' (k) (n) 335 [(0, v_X b), (1, v_R (some 0)), (2, v_R (some 5)), (3, v_I (nI (6 * t)))] [v_I r, v_I r]
  refine a_eqT (tgt := 1158) X dL_law_335 (by decide) ?_
  exact a_ghostM ag (kk h' M2 (k) (n) (by omega) (by omega) I')
set_option maxHeartbeats 4000000 in
theorem lc_made {nm : String} {v : Evx} {g : Gvx} {Inv : Nat → Hpx → Msx → Prop} {t b L k n : Nat} {xs : Nat → Int32} {h : Hpx} {M : Msx} (X : Cx_ v g code 4 RL nm ret room_1) (hX : va_X b L xs (e_s v) (e_s v).heap) (hbl : b < (e_s v).heap.size) (hba : ¬ g.2.2 ≤ b) (hL : 6 * t + 6 ≤ L) (hL2 : L ≤ 3072) (hI0 : ∀ n h M, Inv n h M → MR_ h ∧ h_k h 0 = 4) (I : Inv t h M) (hkn : k + 146 ≤ 1196082 ∧ n + 1124 ≤ 5514002) (ok : Ok_made Inv) (kk : ∀ (h' : Hpx) (M' : Msx) (k' n' : Nat), k' ≤ k + 146 → n' ≤ n + 1124 → Inv (t + 1) h' M' → At_ v g 4 h' M' k' n' 1158 [(0, v_X b), (1, v_R (some 0)), (2, v_R (some 5)), (3, v_I (nI (6 * t)))] []) : At_ v g 4 h M k n 340 [(0, v_X b), (1, v_R (some 0)), (2, v_R (some 5)), (3, v_I (nI (6 * t)))] [] := by
  obtain ⟨r, M2, q1, q2, ag, I'⟩ := ok t h M  (by omega) I
  refine a_aload_n X dL_law_340 rfl ?_
  refine a_callV (k' := k) (n' := n) (st := []) X (c_X3_made q1) yv_X3_made ml_L_41 rfl (Or.inl (hI0 _ _ _ I).2) ⟨by decide, by decide, by show k + 0 ≤ 1196082; omega, by show n + 0 ≤ 5514002; omega, Nat.le_of_ble_eq_true rfl⟩ rfl rfl dL_law_341 rfl rfl ?_
  show At_ v g 4 h M (k) (n) 344 [(0, v_X b), (1, v_R (some 0)), (2, v_R (some 5)), (3, v_I (nI (6 * t)))] [v_I r]
  refine a_aload_n X dL_law_344 rfl ?_
  refine a_callV (k' := k) (n' := n) (st := [v_I r]) X (c_X4_made (hI0 _ _ _ I').1 q2) yv_X4_made ml_L_44 rfl (Or.inr (mr5_ (hI0 _ _ _ I').1)) ⟨by decide, by decide, by show k + 0 ≤ 1196082; omega, by show n + 0 ≤ 5514002; omega, Nat.le_of_ble_eq_true rfl⟩ rfl rfl dL_law_345 rfl rfl ?_
  show At_ v g 4 h M (k) (n) 348 [(0, v_X b), (1, v_R (some 0)), (2, v_R (some 5)), (3, v_I (nI (6 * t)))] [v_I r, v_I r]
  refine a_eqT (tgt := 1158) X dL_law_348 (by decide) ?_
  exact a_ghostM ag (kk h M2 (k) (n) (by omega) (by omega) I')
set_option maxHeartbeats 4000000 in
theorem lc_claim {nm : String} {v : Evx} {g : Gvx} {Inv : Nat → Hpx → Msx → Prop} {t b L k n : Nat} {xs : Nat → Int32} {h : Hpx} {M : Msx} (X : Cx_ v g code 4 RL nm ret room_1) (hX : va_X b L xs (e_s v) (e_s v).heap) (hbl : b < (e_s v).heap.size) (hba : ¬ g.2.2 ≤ b) (hL : 6 * t + 6 ≤ L) (hL2 : L ≤ 3072) (hI0 : ∀ n h M, Inv n h M → MR_ h ∧ h_k h 0 = 4) (I : Inv t h M) (hkn : k + 146 ≤ 1196082 ∧ n + 1124 ≤ 5514002) (ok : Ok_claim Inv) (kk : ∀ (h' : Hpx) (M' : Msx) (k' n' : Nat), k' ≤ k + 146 → n' ≤ n + 1124 → Inv (t + 1) h' M' → At_ v g 4 h' M' k' n' 1158 [(0, v_X b), (1, v_R (some 0)), (2, v_R (some 5)), (3, v_I (nI (6 * t)))] []) : At_ v g 4 h M k n 353 [(0, v_X b), (1, v_R (some 0)), (2, v_R (some 5)), (3, v_I (nI (6 * t)))] [] := by
  obtain ⟨h', M', r, M2, q1, q2, ag, I'⟩ := ok t h M (xs (6 * t + 1)) (((xs (6 * t + 2)).toInt64 <<< ((32 : Int32).toInt64 &&& 63)) ||| ((xs (6 * t + 3)).toInt64 &&& (4294967295 : Int64))) (by omega) I
  refine a_aload_n X dL_law_353 rfl ?_
  refine a_xload_n X dL_law_354 rfl ?_
  refine a_iload_n X dL_law_355 rfl ?_
  refine a_iconst (x := 1) X dL_law_356 (by decide) ?_
  refine a_iadd X dL_law_357 ?_
  refine a_sld (jn := 6 * t + 1) X hX hbl hba (by omega) (nI_add (6 * t) 1) (by omega) dL_law_358 ?_
  refine a_xload_n X dL_law_359 rfl ?_
  refine a_iload_n X dL_law_360 rfl ?_
  refine a_iconst (x := 2) X dL_law_361 (by decide) ?_
  refine a_iadd X dL_law_362 ?_
  refine a_sld (jn := 6 * t + 2) X hX hbl hba (by omega) (nI_add (6 * t) 2) (by omega) dL_law_363 ?_
  refine a_i2l X dL_law_364 ?_
  refine a_bipush (x := 32) X dL_law_365 (by decide) ?_
  refine a_lshl X dL_law_367 ?_
  refine a_xload_n X dL_law_368 rfl ?_
  refine a_iload_n X dL_law_369 rfl ?_
  refine a_iconst (x := 3) X dL_law_370 (by decide) ?_
  refine a_iadd X dL_law_371 ?_
  refine a_sld (jn := 6 * t + 3) X hX hbl hba (by omega) (nI_add (6 * t) 3) (by omega) dL_law_372 ?_
  refine a_i2l X dL_law_373 ?_
  refine a_ldc2 X cn_L_45 dL_law_374 ?_
  refine a_land X dL_law_377 ?_
  refine a_lor X dL_law_378 ?_
  refine a_callV (k' := k) (n' := n) (st := []) X (c_X3_claim q1) yv_X3_claim ml_L_47 rfl (Or.inl (hI0 _ _ _ I).2) ⟨by decide, by decide, by show k + 0 ≤ 1196082; omega, by show n + 0 ≤ 5514002; omega, Nat.le_of_ble_eq_true rfl⟩ rfl rfl dL_law_379 rfl rfl ?_
  show At_ v g 4 h' M (k) (n) 382 [(0, v_X b), (1, v_R (some 0)), (2, v_R (some 5)), (3, v_I (nI (6 * t)))] [v_I r]
  refine a_aload_n X dL_law_382 rfl ?_
  refine a_xload_n X dL_law_383 rfl ?_
  refine a_iload_n X dL_law_384 rfl ?_
  refine a_iconst (x := 1) X dL_law_385 (by decide) ?_
  refine a_iadd X dL_law_386 ?_
  refine a_sld (jn := 6 * t + 1) X hX hbl hba (by omega) (nI_add (6 * t) 1) (by omega) dL_law_387 ?_
  refine a_xload_n X dL_law_388 rfl ?_
  refine a_iload_n X dL_law_389 rfl ?_
  refine a_iconst (x := 2) X dL_law_390 (by decide) ?_
  refine a_iadd X dL_law_391 ?_
  refine a_sld (jn := 6 * t + 2) X hX hbl hba (by omega) (nI_add (6 * t) 2) (by omega) dL_law_392 ?_
  refine a_i2l X dL_law_393 ?_
  refine a_bipush (x := 32) X dL_law_394 (by decide) ?_
  refine a_lshl X dL_law_396 ?_
  refine a_xload_n X dL_law_397 rfl ?_
  refine a_iload_n X dL_law_398 rfl ?_
  refine a_iconst (x := 3) X dL_law_399 (by decide) ?_
  refine a_iadd X dL_law_400 ?_
  refine a_sld (jn := 6 * t + 3) X hX hbl hba (by omega) (nI_add (6 * t) 3) (by omega) dL_law_401 ?_
  refine a_i2l X dL_law_402 ?_
  refine a_ldc2 X cn_L_45 dL_law_403 ?_
  refine a_land X dL_law_406 ?_
  refine a_lor X dL_law_407 ?_
  refine a_callV (k' := k) (n' := n) (st := [v_I r]) X (c_X4_claim (hI0 _ _ _ I').1 q2) yv_X4_claim ml_L_51 rfl (Or.inr (mr5_ (hI0 _ _ _ I').1)) ⟨by decide, by decide, by show k + 0 ≤ 1196082; omega, by show n + 0 ≤ 5514002; omega, Nat.le_of_ble_eq_true rfl⟩ rfl rfl dL_law_408 rfl rfl ?_
  show At_ v g 4 h' M' (k) (n) 411 [(0, v_X b), (1, v_R (some 0)), (2, v_R (some 5)), (3, v_I (nI (6 * t)))] [v_I r, v_I r]
  refine a_eqT (tgt := 1158) X dL_law_411 (by decide) ?_
  exact a_ghostM ag (kk h' M2 (k) (n) (by omega) (by omega) I')
set_option maxHeartbeats 4000000 in
theorem lc_batch {nm : String} {v : Evx} {g : Gvx} {Inv : Nat → Hpx → Msx → Prop} {t b L k n : Nat} {xs : Nat → Int32} {h : Hpx} {M : Msx} (X : Cx_ v g code 4 RL nm ret room_1) (hX : va_X b L xs (e_s v) (e_s v).heap) (hbl : b < (e_s v).heap.size) (hba : ¬ g.2.2 ≤ b) (hL : 6 * t + 6 ≤ L) (hL2 : L ≤ 3072) (hI0 : ∀ n h M, Inv n h M → MR_ h ∧ h_k h 0 = 4) (I : Inv t h M) (hkn : k + 146 ≤ 1196082 ∧ n + 1124 ≤ 5514002) (ok : Ok_batch Inv) (kk : ∀ (h' : Hpx) (M' : Msx) (k' n' : Nat), k' ≤ k + 146 → n' ≤ n + 1124 → Inv (t + 1) h' M' → At_ v g 4 h' M' k' n' 1158 [(0, v_X b), (1, v_R (some 0)), (2, v_R (some 5)), (3, v_I (nI (6 * t)))] []) : At_ v g 4 h M k n 416 [(0, v_X b), (1, v_R (some 0)), (2, v_R (some 5)), (3, v_I (nI (6 * t)))] [] := by
  obtain ⟨h', M', r, M2, q1, q2, ag, I'⟩ := ok t h M (xs (6 * t + 1)) (((xs (6 * t + 2)).toInt64 <<< ((32 : Int32).toInt64 &&& 63)) ||| ((xs (6 * t + 3)).toInt64 &&& (4294967295 : Int64))) (xs (6 * t + 4)) (by omega) I
  refine a_aload_n X dL_law_416 rfl ?_
  refine a_xload_n X dL_law_417 rfl ?_
  refine a_iload_n X dL_law_418 rfl ?_
  refine a_iconst (x := 1) X dL_law_419 (by decide) ?_
  refine a_iadd X dL_law_420 ?_
  refine a_sld (jn := 6 * t + 1) X hX hbl hba (by omega) (nI_add (6 * t) 1) (by omega) dL_law_421 ?_
  refine a_xload_n X dL_law_422 rfl ?_
  refine a_iload_n X dL_law_423 rfl ?_
  refine a_iconst (x := 2) X dL_law_424 (by decide) ?_
  refine a_iadd X dL_law_425 ?_
  refine a_sld (jn := 6 * t + 2) X hX hbl hba (by omega) (nI_add (6 * t) 2) (by omega) dL_law_426 ?_
  refine a_i2l X dL_law_427 ?_
  refine a_bipush (x := 32) X dL_law_428 (by decide) ?_
  refine a_lshl X dL_law_430 ?_
  refine a_xload_n X dL_law_431 rfl ?_
  refine a_iload_n X dL_law_432 rfl ?_
  refine a_iconst (x := 3) X dL_law_433 (by decide) ?_
  refine a_iadd X dL_law_434 ?_
  refine a_sld (jn := 6 * t + 3) X hX hbl hba (by omega) (nI_add (6 * t) 3) (by omega) dL_law_435 ?_
  refine a_i2l X dL_law_436 ?_
  refine a_ldc2 X cn_L_45 dL_law_437 ?_
  refine a_land X dL_law_440 ?_
  refine a_lor X dL_law_441 ?_
  refine a_xload_n X dL_law_442 rfl ?_
  refine a_iload_n X dL_law_443 rfl ?_
  refine a_iconst (x := 4) X dL_law_444 (by decide) ?_
  refine a_iadd X dL_law_445 ?_
  refine a_sld (jn := 6 * t + 4) X hX hbl hba (by omega) (nI_add (6 * t) 4) (by omega) dL_law_446 ?_
  refine a_callV (k' := k) (n' := n) (st := []) X (c_X3_batch q1) yv_X3_batch ml_L_52 rfl (Or.inl (hI0 _ _ _ I).2) ⟨by decide, by decide, by show k + 0 ≤ 1196082; omega, by show n + 0 ≤ 5514002; omega, Nat.le_of_ble_eq_true rfl⟩ rfl rfl dL_law_447 rfl rfl ?_
  show At_ v g 4 h' M (k) (n) 450 [(0, v_X b), (1, v_R (some 0)), (2, v_R (some 5)), (3, v_I (nI (6 * t)))] [v_I r]
  refine a_aload_n X dL_law_450 rfl ?_
  refine a_xload_n X dL_law_451 rfl ?_
  refine a_iload_n X dL_law_452 rfl ?_
  refine a_iconst (x := 1) X dL_law_453 (by decide) ?_
  refine a_iadd X dL_law_454 ?_
  refine a_sld (jn := 6 * t + 1) X hX hbl hba (by omega) (nI_add (6 * t) 1) (by omega) dL_law_455 ?_
  refine a_xload_n X dL_law_456 rfl ?_
  refine a_iload_n X dL_law_457 rfl ?_
  refine a_iconst (x := 2) X dL_law_458 (by decide) ?_
  refine a_iadd X dL_law_459 ?_
  refine a_sld (jn := 6 * t + 2) X hX hbl hba (by omega) (nI_add (6 * t) 2) (by omega) dL_law_460 ?_
  refine a_i2l X dL_law_461 ?_
  refine a_bipush (x := 32) X dL_law_462 (by decide) ?_
  refine a_lshl X dL_law_464 ?_
  refine a_xload_n X dL_law_465 rfl ?_
  refine a_iload_n X dL_law_466 rfl ?_
  refine a_iconst (x := 3) X dL_law_467 (by decide) ?_
  refine a_iadd X dL_law_468 ?_
  refine a_sld (jn := 6 * t + 3) X hX hbl hba (by omega) (nI_add (6 * t) 3) (by omega) dL_law_469 ?_
  refine a_i2l X dL_law_470 ?_
  refine a_ldc2 X cn_L_45 dL_law_471 ?_
  refine a_land X dL_law_474 ?_
  refine a_lor X dL_law_475 ?_
  refine a_xload_n X dL_law_476 rfl ?_
  refine a_iload_n X dL_law_477 rfl ?_
  refine a_iconst (x := 4) X dL_law_478 (by decide) ?_
  refine a_iadd X dL_law_479 ?_
  refine a_sld (jn := 6 * t + 4) X hX hbl hba (by omega) (nI_add (6 * t) 4) (by omega) dL_law_480 ?_
  refine a_callV (k' := k) (n' := n) (st := [v_I r]) X (c_X4_batch (hI0 _ _ _ I').1 q2) yv_X4_batch ml_L_56 rfl (Or.inr (mr5_ (hI0 _ _ _ I').1)) ⟨by decide, by decide, by show k + 0 ≤ 1196082; omega, by show n + 0 ≤ 5514002; omega, Nat.le_of_ble_eq_true rfl⟩ rfl rfl dL_law_481 rfl rfl ?_
  show At_ v g 4 h' M' (k) (n) 484 [(0, v_X b), (1, v_R (some 0)), (2, v_R (some 5)), (3, v_I (nI (6 * t)))] [v_I r, v_I r]
  refine a_eqT (tgt := 1158) X dL_law_484 (by decide) ?_
  exact a_ghostM ag (kk h' M2 (k) (n) (by omega) (by omega) I')
set_option maxHeartbeats 4000000 in
theorem lc_by {nm : String} {v : Evx} {g : Gvx} {Inv : Nat → Hpx → Msx → Prop} {t b L k n : Nat} {xs : Nat → Int32} {h : Hpx} {M : Msx} (X : Cx_ v g code 4 RL nm ret room_1) (hX : va_X b L xs (e_s v) (e_s v).heap) (hbl : b < (e_s v).heap.size) (hba : ¬ g.2.2 ≤ b) (hL : 6 * t + 6 ≤ L) (hL2 : L ≤ 3072) (hI0 : ∀ n h M, Inv n h M → MR_ h ∧ h_k h 0 = 4) (I : Inv t h M) (hkn : k + 146 ≤ 1196082 ∧ n + 1124 ≤ 5514002) (ok : Ok_by Inv) (kk : ∀ (h' : Hpx) (M' : Msx) (k' n' : Nat), k' ≤ k + 146 → n' ≤ n + 1124 → Inv (t + 1) h' M' → At_ v g 4 h' M' k' n' 1158 [(0, v_X b), (1, v_R (some 0)), (2, v_R (some 5)), (3, v_I (nI (6 * t)))] []) : At_ v g 4 h M k n 489 [(0, v_X b), (1, v_R (some 0)), (2, v_R (some 5)), (3, v_I (nI (6 * t)))] [] := by
  obtain ⟨r, M2, q1, q2, ag, I'⟩ := ok t h M  (by omega) I
  refine a_aload_n X dL_law_489 rfl ?_
  refine a_callV (k' := k) (n' := n) (st := []) X (c_X3_by q1) yv_X3_by ml_L_57 rfl (Or.inl (hI0 _ _ _ I).2) ⟨by decide, by decide, by show k + 0 ≤ 1196082; omega, by show n + 0 ≤ 5514002; omega, Nat.le_of_ble_eq_true rfl⟩ rfl rfl dL_law_490 rfl rfl ?_
  show At_ v g 4 h M (k) (n) 493 [(0, v_X b), (1, v_R (some 0)), (2, v_R (some 5)), (3, v_I (nI (6 * t)))] [v_I r]
  refine a_aload_n X dL_law_493 rfl ?_
  refine a_callV (k' := k) (n' := n) (st := [v_I r]) X (c_X4_by (hI0 _ _ _ I').1 q2) yv_X4_by ml_L_60 rfl (Or.inr (mr5_ (hI0 _ _ _ I').1)) ⟨by decide, by decide, by show k + 0 ≤ 1196082; omega, by show n + 0 ≤ 5514002; omega, Nat.le_of_ble_eq_true rfl⟩ rfl rfl dL_law_494 rfl rfl ?_
  show At_ v g 4 h M (k) (n) 497 [(0, v_X b), (1, v_R (some 0)), (2, v_R (some 5)), (3, v_I (nI (6 * t)))] [v_I r, v_I r]
  refine a_eqT (tgt := 1158) X dL_law_497 (by decide) ?_
  exact a_ghostM ag (kk h M2 (k) (n) (by omega) (by omega) I')
set_option maxHeartbeats 4000000 in
theorem lc_again {nm : String} {v : Evx} {g : Gvx} {Inv : Nat → Hpx → Msx → Prop} {t b L k n : Nat} {xs : Nat → Int32} {h : Hpx} {M : Msx} (X : Cx_ v g code 4 RL nm ret room_1) (hX : va_X b L xs (e_s v) (e_s v).heap) (hbl : b < (e_s v).heap.size) (hba : ¬ g.2.2 ≤ b) (hL : 6 * t + 6 ≤ L) (hL2 : L ≤ 3072) (hI0 : ∀ n h M, Inv n h M → MR_ h ∧ h_k h 0 = 4) (I : Inv t h M) (hkn : k + 146 ≤ 1196082 ∧ n + 1124 ≤ 5514002) (ok : Ok_again Inv) (kk : ∀ (h' : Hpx) (M' : Msx) (k' n' : Nat), k' ≤ k + 146 → n' ≤ n + 1124 → Inv (t + 1) h' M' → At_ v g 4 h' M' k' n' 1158 [(0, v_X b), (1, v_R (some 0)), (2, v_R (some 5)), (3, v_I (nI (6 * t)))] []) : At_ v g 4 h M k n 502 [(0, v_X b), (1, v_R (some 0)), (2, v_R (some 5)), (3, v_I (nI (6 * t)))] [] := by
  obtain ⟨h', M', r, M2, q1, q2, ag, I'⟩ := ok t h M  (by omega) I
  refine a_aload_n X dL_law_502 rfl ?_
  refine a_callV (k' := k) (n' := n) (st := []) X (c_X3_again q1) yv_X3_again ml_L_61 rfl (Or.inl (hI0 _ _ _ I).2) ⟨by decide, by decide, by show k + 0 ≤ 1196082; omega, by show n + 0 ≤ 5514002; omega, Nat.le_of_ble_eq_true rfl⟩ rfl rfl dL_law_503 rfl rfl ?_
  show At_ v g 4 h' M (k) (n) 506 [(0, v_X b), (1, v_R (some 0)), (2, v_R (some 5)), (3, v_I (nI (6 * t)))] [v_I r]
  refine a_aload_n X dL_law_506 rfl ?_
  refine a_callV (k' := k) (n' := n) (st := [v_I r]) X (c_X4_again (hI0 _ _ _ I').1 q2) yv_X4_again ml_L_64 rfl (Or.inr (mr5_ (hI0 _ _ _ I').1)) ⟨by decide, by decide, by show k + 0 ≤ 1196082; omega, by show n + 0 ≤ 5514002; omega, Nat.le_of_ble_eq_true rfl⟩ rfl rfl dL_law_507 rfl rfl ?_
  show At_ v g 4 h' M' (k) (n) 510 [(0, v_X b), (1, v_R (some 0)), (2, v_R (some 5)), (3, v_I (nI (6 * t)))] [v_I r, v_I r]
  refine a_eqT (tgt := 1158) X dL_law_510 (by decide) ?_
  exact a_ghostM ag (kk h' M2 (k) (n) (by omega) (by omega) I')
set_option maxHeartbeats 4000000 in
theorem lc_fill {nm : String} {v : Evx} {g : Gvx} {Inv : Nat → Hpx → Msx → Prop} {t b L k n : Nat} {xs : Nat → Int32} {h : Hpx} {M : Msx} (X : Cx_ v g code 4 RL nm ret room_1) (hX : va_X b L xs (e_s v) (e_s v).heap) (hbl : b < (e_s v).heap.size) (hba : ¬ g.2.2 ≤ b) (hL : 6 * t + 6 ≤ L) (hL2 : L ≤ 3072) (hI0 : ∀ n h M, Inv n h M → MR_ h ∧ h_k h 0 = 4) (I : Inv t h M) (hkn : k + 146 ≤ 1196082 ∧ n + 1124 ≤ 5514002) (ok : Ok_fill Inv) (kk : ∀ (h' : Hpx) (M' : Msx) (k' n' : Nat), k' ≤ k + 146 → n' ≤ n + 1124 → Inv (t + 1) h' M' → At_ v g 4 h' M' k' n' 1158 [(0, v_X b), (1, v_R (some 0)), (2, v_R (some 5)), (3, v_I (nI (6 * t)))] []) : At_ v g 4 h M k n 515 [(0, v_X b), (1, v_R (some 0)), (2, v_R (some 5)), (3, v_I (nI (6 * t)))] [] := by
  obtain ⟨h', M', r, M2, q1, q2, ag, I'⟩ := ok t h M (xs (6 * t + 1)) (xs (6 * t + 2)) (xs (6 * t + 3)) (((xs (6 * t + 4)).toInt64 <<< ((32 : Int32).toInt64 &&& 63)) ||| ((xs (6 * t + 5)).toInt64 &&& (4294967295 : Int64))) (by omega) I
  refine a_aload_n X dL_law_515 rfl ?_
  refine a_xload_n X dL_law_516 rfl ?_
  refine a_iload_n X dL_law_517 rfl ?_
  refine a_iconst (x := 1) X dL_law_518 (by decide) ?_
  refine a_iadd X dL_law_519 ?_
  refine a_sld (jn := 6 * t + 1) X hX hbl hba (by omega) (nI_add (6 * t) 1) (by omega) dL_law_520 ?_
  refine a_xload_n X dL_law_521 rfl ?_
  refine a_iload_n X dL_law_522 rfl ?_
  refine a_iconst (x := 2) X dL_law_523 (by decide) ?_
  refine a_iadd X dL_law_524 ?_
  refine a_sld (jn := 6 * t + 2) X hX hbl hba (by omega) (nI_add (6 * t) 2) (by omega) dL_law_525 ?_
  refine a_xload_n X dL_law_526 rfl ?_
  refine a_iload_n X dL_law_527 rfl ?_
  refine a_iconst (x := 3) X dL_law_528 (by decide) ?_
  refine a_iadd X dL_law_529 ?_
  refine a_sld (jn := 6 * t + 3) X hX hbl hba (by omega) (nI_add (6 * t) 3) (by omega) dL_law_530 ?_
  refine a_xload_n X dL_law_531 rfl ?_
  refine a_iload_n X dL_law_532 rfl ?_
  refine a_iconst (x := 4) X dL_law_533 (by decide) ?_
  refine a_iadd X dL_law_534 ?_
  refine a_sld (jn := 6 * t + 4) X hX hbl hba (by omega) (nI_add (6 * t) 4) (by omega) dL_law_535 ?_
  refine a_i2l X dL_law_536 ?_
  refine a_bipush (x := 32) X dL_law_537 (by decide) ?_
  refine a_lshl X dL_law_539 ?_
  refine a_xload_n X dL_law_540 rfl ?_
  refine a_iload_n X dL_law_541 rfl ?_
  refine a_iconst (x := 5) X dL_law_542 (by decide) ?_
  refine a_iadd X dL_law_543 ?_
  refine a_sld (jn := 6 * t + 5) X hX hbl hba (by omega) (nI_add (6 * t) 5) (by omega) dL_law_544 ?_
  refine a_i2l X dL_law_545 ?_
  refine a_ldc2 X cn_L_45 dL_law_546 ?_
  refine a_land X dL_law_549 ?_
  refine a_lor X dL_law_550 ?_
  refine a_callV (k' := k) (n' := n) (st := []) X (c_X3_fill q1) yv_X3_fill ml_L_65 rfl (Or.inl (hI0 _ _ _ I).2) ⟨by decide, by decide, by show k + 0 ≤ 1196082; omega, by show n + 0 ≤ 5514002; omega, Nat.le_of_ble_eq_true rfl⟩ rfl rfl dL_law_551 rfl rfl ?_
  show At_ v g 4 h' M (k) (n) 554 [(0, v_X b), (1, v_R (some 0)), (2, v_R (some 5)), (3, v_I (nI (6 * t)))] [v_I r]
  refine a_aload_n X dL_law_554 rfl ?_
  refine a_xload_n X dL_law_555 rfl ?_
  refine a_iload_n X dL_law_556 rfl ?_
  refine a_iconst (x := 1) X dL_law_557 (by decide) ?_
  refine a_iadd X dL_law_558 ?_
  refine a_sld (jn := 6 * t + 1) X hX hbl hba (by omega) (nI_add (6 * t) 1) (by omega) dL_law_559 ?_
  refine a_xload_n X dL_law_560 rfl ?_
  refine a_iload_n X dL_law_561 rfl ?_
  refine a_iconst (x := 2) X dL_law_562 (by decide) ?_
  refine a_iadd X dL_law_563 ?_
  refine a_sld (jn := 6 * t + 2) X hX hbl hba (by omega) (nI_add (6 * t) 2) (by omega) dL_law_564 ?_
  refine a_xload_n X dL_law_565 rfl ?_
  refine a_iload_n X dL_law_566 rfl ?_
  refine a_iconst (x := 3) X dL_law_567 (by decide) ?_
  refine a_iadd X dL_law_568 ?_
  refine a_sld (jn := 6 * t + 3) X hX hbl hba (by omega) (nI_add (6 * t) 3) (by omega) dL_law_569 ?_
  refine a_xload_n X dL_law_570 rfl ?_
  refine a_iload_n X dL_law_571 rfl ?_
  refine a_iconst (x := 4) X dL_law_572 (by decide) ?_
  refine a_iadd X dL_law_573 ?_
  refine a_sld (jn := 6 * t + 4) X hX hbl hba (by omega) (nI_add (6 * t) 4) (by omega) dL_law_574 ?_
  refine a_i2l X dL_law_575 ?_
  refine a_bipush (x := 32) X dL_law_576 (by decide) ?_
  refine a_lshl X dL_law_578 ?_
  refine a_xload_n X dL_law_579 rfl ?_
  refine a_iload_n X dL_law_580 rfl ?_
  refine a_iconst (x := 5) X dL_law_581 (by decide) ?_
  refine a_iadd X dL_law_582 ?_
  refine a_sld (jn := 6 * t + 5) X hX hbl hba (by omega) (nI_add (6 * t) 5) (by omega) dL_law_583 ?_
  refine a_i2l X dL_law_584 ?_
  refine a_ldc2 X cn_L_45 dL_law_585 ?_
  refine a_land X dL_law_588 ?_
  refine a_lor X dL_law_589 ?_
  refine a_callV (k' := k) (n' := n) (st := [v_I r]) X (c_X4_fill (hI0 _ _ _ I').1 q2) yv_X4_fill ml_L_69 rfl (Or.inr (mr5_ (hI0 _ _ _ I').1)) ⟨by decide, by decide, by show k + 0 ≤ 1196082; omega, by show n + 0 ≤ 5514002; omega, Nat.le_of_ble_eq_true rfl⟩ rfl rfl dL_law_590 rfl rfl ?_
  show At_ v g 4 h' M' (k) (n) 593 [(0, v_X b), (1, v_R (some 0)), (2, v_R (some 5)), (3, v_I (nI (6 * t)))] [v_I r, v_I r]
  refine a_eqT (tgt := 1158) X dL_law_593 (by decide) ?_
  exact a_ghostM ag (kk h' M2 (k) (n) (by omega) (by omega) I')
set_option maxHeartbeats 4000000 in
theorem lc_copy {nm : String} {v : Evx} {g : Gvx} {Inv : Nat → Hpx → Msx → Prop} {t b L k n : Nat} {xs : Nat → Int32} {h : Hpx} {M : Msx} (X : Cx_ v g code 4 RL nm ret room_1) (hX : va_X b L xs (e_s v) (e_s v).heap) (hbl : b < (e_s v).heap.size) (hba : ¬ g.2.2 ≤ b) (hL : 6 * t + 6 ≤ L) (hL2 : L ≤ 3072) (hI0 : ∀ n h M, Inv n h M → MR_ h ∧ h_k h 0 = 4) (I : Inv t h M) (hkn : k + 146 ≤ 1196082 ∧ n + 1124 ≤ 5514002) (ok : Ok_copy Inv) (kk : ∀ (h' : Hpx) (M' : Msx) (k' n' : Nat), k' ≤ k + 146 → n' ≤ n + 1124 → Inv (t + 1) h' M' → At_ v g 4 h' M' k' n' 1158 [(0, v_X b), (1, v_R (some 0)), (2, v_R (some 5)), (3, v_I (nI (6 * t)))] []) : At_ v g 4 h M k n 598 [(0, v_X b), (1, v_R (some 0)), (2, v_R (some 5)), (3, v_I (nI (6 * t)))] [] := by
  obtain ⟨h', M', r, M2, q1, q2, ag, I'⟩ := ok t h M (xs (6 * t + 1)) (xs (6 * t + 2)) (xs (6 * t + 3)) (xs (6 * t + 4)) (xs (6 * t + 5)) (by omega) I
  refine a_aload_n X dL_law_598 rfl ?_
  refine a_xload_n X dL_law_599 rfl ?_
  refine a_iload_n X dL_law_600 rfl ?_
  refine a_iconst (x := 1) X dL_law_601 (by decide) ?_
  refine a_iadd X dL_law_602 ?_
  refine a_sld (jn := 6 * t + 1) X hX hbl hba (by omega) (nI_add (6 * t) 1) (by omega) dL_law_603 ?_
  refine a_xload_n X dL_law_604 rfl ?_
  refine a_iload_n X dL_law_605 rfl ?_
  refine a_iconst (x := 2) X dL_law_606 (by decide) ?_
  refine a_iadd X dL_law_607 ?_
  refine a_sld (jn := 6 * t + 2) X hX hbl hba (by omega) (nI_add (6 * t) 2) (by omega) dL_law_608 ?_
  refine a_xload_n X dL_law_609 rfl ?_
  refine a_iload_n X dL_law_610 rfl ?_
  refine a_iconst (x := 3) X dL_law_611 (by decide) ?_
  refine a_iadd X dL_law_612 ?_
  refine a_sld (jn := 6 * t + 3) X hX hbl hba (by omega) (nI_add (6 * t) 3) (by omega) dL_law_613 ?_
  refine a_xload_n X dL_law_614 rfl ?_
  refine a_iload_n X dL_law_615 rfl ?_
  refine a_iconst (x := 4) X dL_law_616 (by decide) ?_
  refine a_iadd X dL_law_617 ?_
  refine a_sld (jn := 6 * t + 4) X hX hbl hba (by omega) (nI_add (6 * t) 4) (by omega) dL_law_618 ?_
  refine a_xload_n X dL_law_619 rfl ?_
  refine a_iload_n X dL_law_620 rfl ?_
  refine a_iconst (x := 5) X dL_law_621 (by decide) ?_
  refine a_iadd X dL_law_622 ?_
  refine a_sld (jn := 6 * t + 5) X hX hbl hba (by omega) (nI_add (6 * t) 5) (by omega) dL_law_623 ?_
  refine a_callV (k' := k) (n' := n) (st := []) X (c_X3_copy q1) yv_X3_copy ml_L_70 rfl (Or.inl (hI0 _ _ _ I).2) ⟨by decide, by decide, by show k + 0 ≤ 1196082; omega, by show n + 0 ≤ 5514002; omega, Nat.le_of_ble_eq_true rfl⟩ rfl rfl dL_law_624 rfl rfl ?_
  show At_ v g 4 h' M (k) (n) 627 [(0, v_X b), (1, v_R (some 0)), (2, v_R (some 5)), (3, v_I (nI (6 * t)))] [v_I r]
  refine a_aload_n X dL_law_627 rfl ?_
  refine a_xload_n X dL_law_628 rfl ?_
  refine a_iload_n X dL_law_629 rfl ?_
  refine a_iconst (x := 1) X dL_law_630 (by decide) ?_
  refine a_iadd X dL_law_631 ?_
  refine a_sld (jn := 6 * t + 1) X hX hbl hba (by omega) (nI_add (6 * t) 1) (by omega) dL_law_632 ?_
  refine a_xload_n X dL_law_633 rfl ?_
  refine a_iload_n X dL_law_634 rfl ?_
  refine a_iconst (x := 2) X dL_law_635 (by decide) ?_
  refine a_iadd X dL_law_636 ?_
  refine a_sld (jn := 6 * t + 2) X hX hbl hba (by omega) (nI_add (6 * t) 2) (by omega) dL_law_637 ?_
  refine a_xload_n X dL_law_638 rfl ?_
  refine a_iload_n X dL_law_639 rfl ?_
  refine a_iconst (x := 3) X dL_law_640 (by decide) ?_
  refine a_iadd X dL_law_641 ?_
  refine a_sld (jn := 6 * t + 3) X hX hbl hba (by omega) (nI_add (6 * t) 3) (by omega) dL_law_642 ?_
  refine a_xload_n X dL_law_643 rfl ?_
  refine a_iload_n X dL_law_644 rfl ?_
  refine a_iconst (x := 4) X dL_law_645 (by decide) ?_
  refine a_iadd X dL_law_646 ?_
  refine a_sld (jn := 6 * t + 4) X hX hbl hba (by omega) (nI_add (6 * t) 4) (by omega) dL_law_647 ?_
  refine a_xload_n X dL_law_648 rfl ?_
  refine a_iload_n X dL_law_649 rfl ?_
  refine a_iconst (x := 5) X dL_law_650 (by decide) ?_
  refine a_iadd X dL_law_651 ?_
  refine a_sld (jn := 6 * t + 5) X hX hbl hba (by omega) (nI_add (6 * t) 5) (by omega) dL_law_652 ?_
  refine a_callV (k' := k) (n' := n) (st := [v_I r]) X (c_X4_copy (hI0 _ _ _ I').1 q2) yv_X4_copy ml_L_74 rfl (Or.inr (mr5_ (hI0 _ _ _ I').1)) ⟨by decide, by decide, by show k + 0 ≤ 1196082; omega, by show n + 0 ≤ 5514002; omega, Nat.le_of_ble_eq_true rfl⟩ rfl rfl dL_law_653 rfl rfl ?_
  show At_ v g 4 h' M' (k) (n) 656 [(0, v_X b), (1, v_R (some 0)), (2, v_R (some 5)), (3, v_I (nI (6 * t)))] [v_I r, v_I r]
  refine a_eqT (tgt := 1158) X dL_law_656 (by decide) ?_
  exact a_ghostM ag (kk h' M2 (k) (n) (by omega) (by omega) I')
set_option maxHeartbeats 4000000 in
theorem lc_publish {nm : String} {v : Evx} {g : Gvx} {Inv : Nat → Hpx → Msx → Prop} {t b L k n : Nat} {xs : Nat → Int32} {h : Hpx} {M : Msx} (X : Cx_ v g code 4 RL nm ret room_1) (hX : va_X b L xs (e_s v) (e_s v).heap) (hbl : b < (e_s v).heap.size) (hba : ¬ g.2.2 ≤ b) (hL : 6 * t + 6 ≤ L) (hL2 : L ≤ 3072) (hI0 : ∀ n h M, Inv n h M → MR_ h ∧ h_k h 0 = 4) (I : Inv t h M) (hkn : k + 146 ≤ 1196082 ∧ n + 1124 ≤ 5514002) (ok : Ok_publish Inv) (kk : ∀ (h' : Hpx) (M' : Msx) (k' n' : Nat), k' ≤ k + 146 → n' ≤ n + 1124 → Inv (t + 1) h' M' → At_ v g 4 h' M' k' n' 1158 [(0, v_X b), (1, v_R (some 0)), (2, v_R (some 5)), (3, v_I (nI (6 * t)))] []) : At_ v g 4 h M k n 661 [(0, v_X b), (1, v_R (some 0)), (2, v_R (some 5)), (3, v_I (nI (6 * t)))] [] := by
  obtain ⟨h', M', r, M2, q1, q2, ag, I'⟩ := ok t h M (xs (6 * t + 1)) (xs (6 * t + 2)) (xs (6 * t + 3)) (xs (6 * t + 4)) (by omega) I
  refine a_aload_n X dL_law_661 rfl ?_
  refine a_xload_n X dL_law_662 rfl ?_
  refine a_iload_n X dL_law_663 rfl ?_
  refine a_iconst (x := 1) X dL_law_664 (by decide) ?_
  refine a_iadd X dL_law_665 ?_
  refine a_sld (jn := 6 * t + 1) X hX hbl hba (by omega) (nI_add (6 * t) 1) (by omega) dL_law_666 ?_
  refine a_xload_n X dL_law_667 rfl ?_
  refine a_iload_n X dL_law_668 rfl ?_
  refine a_iconst (x := 2) X dL_law_669 (by decide) ?_
  refine a_iadd X dL_law_670 ?_
  refine a_sld (jn := 6 * t + 2) X hX hbl hba (by omega) (nI_add (6 * t) 2) (by omega) dL_law_671 ?_
  refine a_xload_n X dL_law_672 rfl ?_
  refine a_iload_n X dL_law_673 rfl ?_
  refine a_iconst (x := 3) X dL_law_674 (by decide) ?_
  refine a_iadd X dL_law_675 ?_
  refine a_sld (jn := 6 * t + 3) X hX hbl hba (by omega) (nI_add (6 * t) 3) (by omega) dL_law_676 ?_
  refine a_xload_n X dL_law_677 rfl ?_
  refine a_iload_n X dL_law_678 rfl ?_
  refine a_iconst (x := 4) X dL_law_679 (by decide) ?_
  refine a_iadd X dL_law_680 ?_
  refine a_sld (jn := 6 * t + 4) X hX hbl hba (by omega) (nI_add (6 * t) 4) (by omega) dL_law_681 ?_
  refine a_callV (k' := k) (n' := n) (st := []) X (c_X3_publish q1) yv_X3_publish ml_L_75 rfl (Or.inl (hI0 _ _ _ I).2) ⟨by decide, by decide, by show k + 0 ≤ 1196082; omega, by show n + 0 ≤ 5514002; omega, Nat.le_of_ble_eq_true rfl⟩ rfl rfl dL_law_682 rfl rfl ?_
  show At_ v g 4 h' M (k) (n) 685 [(0, v_X b), (1, v_R (some 0)), (2, v_R (some 5)), (3, v_I (nI (6 * t)))] [v_I r]
  refine a_aload_n X dL_law_685 rfl ?_
  refine a_xload_n X dL_law_686 rfl ?_
  refine a_iload_n X dL_law_687 rfl ?_
  refine a_iconst (x := 1) X dL_law_688 (by decide) ?_
  refine a_iadd X dL_law_689 ?_
  refine a_sld (jn := 6 * t + 1) X hX hbl hba (by omega) (nI_add (6 * t) 1) (by omega) dL_law_690 ?_
  refine a_xload_n X dL_law_691 rfl ?_
  refine a_iload_n X dL_law_692 rfl ?_
  refine a_iconst (x := 2) X dL_law_693 (by decide) ?_
  refine a_iadd X dL_law_694 ?_
  refine a_sld (jn := 6 * t + 2) X hX hbl hba (by omega) (nI_add (6 * t) 2) (by omega) dL_law_695 ?_
  refine a_xload_n X dL_law_696 rfl ?_
  refine a_iload_n X dL_law_697 rfl ?_
  refine a_iconst (x := 3) X dL_law_698 (by decide) ?_
  refine a_iadd X dL_law_699 ?_
  refine a_sld (jn := 6 * t + 3) X hX hbl hba (by omega) (nI_add (6 * t) 3) (by omega) dL_law_700 ?_
  refine a_xload_n X dL_law_701 rfl ?_
  refine a_iload_n X dL_law_702 rfl ?_
  refine a_iconst (x := 4) X dL_law_703 (by decide) ?_
  refine a_iadd X dL_law_704 ?_
  refine a_sld (jn := 6 * t + 4) X hX hbl hba (by omega) (nI_add (6 * t) 4) (by omega) dL_law_705 ?_
  refine a_callV (k' := k) (n' := n) (st := [v_I r]) X (c_X4_publish (hI0 _ _ _ I').1 q2) yv_X4_publish ml_L_79 rfl (Or.inr (mr5_ (hI0 _ _ _ I').1)) ⟨by decide, by decide, by show k + 0 ≤ 1196082; omega, by show n + 0 ≤ 5514002; omega, Nat.le_of_ble_eq_true rfl⟩ rfl rfl dL_law_706 rfl rfl ?_
  show At_ v g 4 h' M' (k) (n) 709 [(0, v_X b), (1, v_R (some 0)), (2, v_R (some 5)), (3, v_I (nI (6 * t)))] [v_I r, v_I r]
  refine a_eqT (tgt := 1158) X dL_law_709 (by decide) ?_
  exact a_ghostM ag (kk h' M2 (k) (n) (by omega) (by omega) I')
set_option maxHeartbeats 4000000 in
theorem lc_close {nm : String} {v : Evx} {g : Gvx} {Inv : Nat → Hpx → Msx → Prop} {t b L k n : Nat} {xs : Nat → Int32} {h : Hpx} {M : Msx} (X : Cx_ v g code 4 RL nm ret room_1) (hX : va_X b L xs (e_s v) (e_s v).heap) (hbl : b < (e_s v).heap.size) (hba : ¬ g.2.2 ≤ b) (hL : 6 * t + 6 ≤ L) (hL2 : L ≤ 3072) (hI0 : ∀ n h M, Inv n h M → MR_ h ∧ h_k h 0 = 4) (I : Inv t h M) (hkn : k + 146 ≤ 1196082 ∧ n + 1124 ≤ 5514002) (ok : Ok_close Inv) (kk : ∀ (h' : Hpx) (M' : Msx) (k' n' : Nat), k' ≤ k + 146 → n' ≤ n + 1124 → Inv (t + 1) h' M' → At_ v g 4 h' M' k' n' 1158 [(0, v_X b), (1, v_R (some 0)), (2, v_R (some 5)), (3, v_I (nI (6 * t)))] []) : At_ v g 4 h M k n 714 [(0, v_X b), (1, v_R (some 0)), (2, v_R (some 5)), (3, v_I (nI (6 * t)))] [] := by
  obtain ⟨h', M', r, M2, q1, q2, ag, I'⟩ := ok t h M (xs (6 * t + 1)) (by omega) I
  refine a_aload_n X dL_law_714 rfl ?_
  refine a_xload_n X dL_law_715 rfl ?_
  refine a_iload_n X dL_law_716 rfl ?_
  refine a_iconst (x := 1) X dL_law_717 (by decide) ?_
  refine a_iadd X dL_law_718 ?_
  refine a_sld (jn := 6 * t + 1) X hX hbl hba (by omega) (nI_add (6 * t) 1) (by omega) dL_law_719 ?_
  refine a_callV (k' := k) (n' := n) (st := []) X (c_X3_close q1) yv_X3_close ml_L_80 rfl (Or.inl (hI0 _ _ _ I).2) ⟨by decide, by decide, by show k + 0 ≤ 1196082; omega, by show n + 0 ≤ 5514002; omega, Nat.le_of_ble_eq_true rfl⟩ rfl rfl dL_law_720 rfl rfl ?_
  show At_ v g 4 h' M (k) (n) 723 [(0, v_X b), (1, v_R (some 0)), (2, v_R (some 5)), (3, v_I (nI (6 * t)))] [v_I r]
  refine a_aload_n X dL_law_723 rfl ?_
  refine a_xload_n X dL_law_724 rfl ?_
  refine a_iload_n X dL_law_725 rfl ?_
  refine a_iconst (x := 1) X dL_law_726 (by decide) ?_
  refine a_iadd X dL_law_727 ?_
  refine a_sld (jn := 6 * t + 1) X hX hbl hba (by omega) (nI_add (6 * t) 1) (by omega) dL_law_728 ?_
  refine a_callV (k' := k) (n' := n) (st := [v_I r]) X (c_X4_close (hI0 _ _ _ I').1 q2) yv_X4_close ml_L_83 rfl (Or.inr (mr5_ (hI0 _ _ _ I').1)) ⟨by decide, by decide, by show k + 0 ≤ 1196082; omega, by show n + 0 ≤ 5514002; omega, Nat.le_of_ble_eq_true rfl⟩ rfl rfl dL_law_729 rfl rfl ?_
  show At_ v g 4 h' M' (k) (n) 732 [(0, v_X b), (1, v_R (some 0)), (2, v_R (some 5)), (3, v_I (nI (6 * t)))] [v_I r, v_I r]
  refine a_eqT (tgt := 1158) X dL_law_732 (by decide) ?_
  exact a_ghostM ag (kk h' M2 (k) (n) (by omega) (by omega) I')
set_option maxHeartbeats 4000000 in
theorem lc_give {nm : String} {v : Evx} {g : Gvx} {Inv : Nat → Hpx → Msx → Prop} {t b L k n : Nat} {xs : Nat → Int32} {h : Hpx} {M : Msx} (X : Cx_ v g code 4 RL nm ret room_1) (hX : va_X b L xs (e_s v) (e_s v).heap) (hbl : b < (e_s v).heap.size) (hba : ¬ g.2.2 ≤ b) (hL : 6 * t + 6 ≤ L) (hL2 : L ≤ 3072) (hI0 : ∀ n h M, Inv n h M → MR_ h ∧ h_k h 0 = 4) (I : Inv t h M) (hkn : k + 146 ≤ 1196082 ∧ n + 1124 ≤ 5514002) (ok : Ok_give Inv) (kk : ∀ (h' : Hpx) (M' : Msx) (k' n' : Nat), k' ≤ k + 146 → n' ≤ n + 1124 → Inv (t + 1) h' M' → At_ v g 4 h' M' k' n' 1158 [(0, v_X b), (1, v_R (some 0)), (2, v_R (some 5)), (3, v_I (nI (6 * t)))] []) : At_ v g 4 h M k n 737 [(0, v_X b), (1, v_R (some 0)), (2, v_R (some 5)), (3, v_I (nI (6 * t)))] [] := by
  obtain ⟨h', M', r, M2, q1, q2, ag, I'⟩ := ok t h M (xs (6 * t + 1)) (by omega) I
  refine a_aload_n X dL_law_737 rfl ?_
  refine a_xload_n X dL_law_738 rfl ?_
  refine a_iload_n X dL_law_739 rfl ?_
  refine a_iconst (x := 1) X dL_law_740 (by decide) ?_
  refine a_iadd X dL_law_741 ?_
  refine a_sld (jn := 6 * t + 1) X hX hbl hba (by omega) (nI_add (6 * t) 1) (by omega) dL_law_742 ?_
  refine a_callV (k' := k) (n' := n) (st := []) X (c_X3_give q1) yv_X3_give ml_L_84 rfl (Or.inl (hI0 _ _ _ I).2) ⟨by decide, by decide, by show k + 0 ≤ 1196082; omega, by show n + 0 ≤ 5514002; omega, Nat.le_of_ble_eq_true rfl⟩ rfl rfl dL_law_743 rfl rfl ?_
  show At_ v g 4 h' M (k) (n) 746 [(0, v_X b), (1, v_R (some 0)), (2, v_R (some 5)), (3, v_I (nI (6 * t)))] [v_I r]
  refine a_aload_n X dL_law_746 rfl ?_
  refine a_xload_n X dL_law_747 rfl ?_
  refine a_iload_n X dL_law_748 rfl ?_
  refine a_iconst (x := 1) X dL_law_749 (by decide) ?_
  refine a_iadd X dL_law_750 ?_
  refine a_sld (jn := 6 * t + 1) X hX hbl hba (by omega) (nI_add (6 * t) 1) (by omega) dL_law_751 ?_
  refine a_callV (k' := k) (n' := n) (st := [v_I r]) X (c_X4_give (hI0 _ _ _ I').1 q2) yv_X4_give ml_L_87 rfl (Or.inr (mr5_ (hI0 _ _ _ I').1)) ⟨by decide, by decide, by show k + 0 ≤ 1196082; omega, by show n + 0 ≤ 5514002; omega, Nat.le_of_ble_eq_true rfl⟩ rfl rfl dL_law_752 rfl rfl ?_
  show At_ v g 4 h' M' (k) (n) 755 [(0, v_X b), (1, v_R (some 0)), (2, v_R (some 5)), (3, v_I (nI (6 * t)))] [v_I r, v_I r]
  refine a_eqT (tgt := 1158) X dL_law_755 (by decide) ?_
  exact a_ghostM ag (kk h' M2 (k) (n) (by omega) (by omega) I')
set_option maxHeartbeats 4000000 in
theorem lc_told {nm : String} {v : Evx} {g : Gvx} {Inv : Nat → Hpx → Msx → Prop} {t b L k n : Nat} {xs : Nat → Int32} {h : Hpx} {M : Msx} (X : Cx_ v g code 4 RL nm ret room_1) (hX : va_X b L xs (e_s v) (e_s v).heap) (hbl : b < (e_s v).heap.size) (hba : ¬ g.2.2 ≤ b) (hL : 6 * t + 6 ≤ L) (hL2 : L ≤ 3072) (hI0 : ∀ n h M, Inv n h M → MR_ h ∧ h_k h 0 = 4) (I : Inv t h M) (hkn : k + 146 ≤ 1196082 ∧ n + 1124 ≤ 5514002) (ok : Ok_told Inv) (kk : ∀ (h' : Hpx) (M' : Msx) (k' n' : Nat), k' ≤ k + 146 → n' ≤ n + 1124 → Inv (t + 1) h' M' → At_ v g 4 h' M' k' n' 1158 [(0, v_X b), (1, v_R (some 0)), (2, v_R (some 5)), (3, v_I (nI (6 * t)))] []) : At_ v g 4 h M k n 760 [(0, v_X b), (1, v_R (some 0)), (2, v_R (some 5)), (3, v_I (nI (6 * t)))] [] := by
  obtain ⟨h', M', r, M2, q1, q2, ag, I'⟩ := ok t h M (xs (6 * t + 1)) (xs (6 * t + 2)) (by omega) I
  refine a_aload_n X dL_law_760 rfl ?_
  refine a_xload_n X dL_law_761 rfl ?_
  refine a_iload_n X dL_law_762 rfl ?_
  refine a_iconst (x := 1) X dL_law_763 (by decide) ?_
  refine a_iadd X dL_law_764 ?_
  refine a_sld (jn := 6 * t + 1) X hX hbl hba (by omega) (nI_add (6 * t) 1) (by omega) dL_law_765 ?_
  refine a_xload_n X dL_law_766 rfl ?_
  refine a_iload_n X dL_law_767 rfl ?_
  refine a_iconst (x := 2) X dL_law_768 (by decide) ?_
  refine a_iadd X dL_law_769 ?_
  refine a_sld (jn := 6 * t + 2) X hX hbl hba (by omega) (nI_add (6 * t) 2) (by omega) dL_law_770 ?_
  refine a_callV (k' := k) (n' := n) (st := []) X (c_X3_told q1) yv_X3_told ml_L_88 rfl (Or.inl (hI0 _ _ _ I).2) ⟨by decide, by decide, by show k + 0 ≤ 1196082; omega, by show n + 0 ≤ 5514002; omega, Nat.le_of_ble_eq_true rfl⟩ rfl rfl dL_law_771 rfl rfl ?_
  show At_ v g 4 h' M (k) (n) 774 [(0, v_X b), (1, v_R (some 0)), (2, v_R (some 5)), (3, v_I (nI (6 * t)))] [v_I r]
  refine a_aload_n X dL_law_774 rfl ?_
  refine a_xload_n X dL_law_775 rfl ?_
  refine a_iload_n X dL_law_776 rfl ?_
  refine a_iconst (x := 1) X dL_law_777 (by decide) ?_
  refine a_iadd X dL_law_778 ?_
  refine a_sld (jn := 6 * t + 1) X hX hbl hba (by omega) (nI_add (6 * t) 1) (by omega) dL_law_779 ?_
  refine a_xload_n X dL_law_780 rfl ?_
  refine a_iload_n X dL_law_781 rfl ?_
  refine a_iconst (x := 2) X dL_law_782 (by decide) ?_
  refine a_iadd X dL_law_783 ?_
  refine a_sld (jn := 6 * t + 2) X hX hbl hba (by omega) (nI_add (6 * t) 2) (by omega) dL_law_784 ?_
  refine a_callV (k' := k) (n' := n) (st := [v_I r]) X (c_X4_told (hI0 _ _ _ I').1 q2) yv_X4_told ml_L_91 rfl (Or.inr (mr5_ (hI0 _ _ _ I').1)) ⟨by decide, by decide, by show k + 0 ≤ 1196082; omega, by show n + 0 ≤ 5514002; omega, Nat.le_of_ble_eq_true rfl⟩ rfl rfl dL_law_785 rfl rfl ?_
  show At_ v g 4 h' M' (k) (n) 788 [(0, v_X b), (1, v_R (some 0)), (2, v_R (some 5)), (3, v_I (nI (6 * t)))] [v_I r, v_I r]
  refine a_eqT (tgt := 1158) X dL_law_788 (by decide) ?_
  exact a_ghostM ag (kk h' M2 (k) (n) (by omega) (by omega) I')
set_option maxHeartbeats 4000000 in
theorem lc_last {nm : String} {v : Evx} {g : Gvx} {Inv : Nat → Hpx → Msx → Prop} {t b L k n : Nat} {xs : Nat → Int32} {h : Hpx} {M : Msx} (X : Cx_ v g code 4 RL nm ret room_1) (hX : va_X b L xs (e_s v) (e_s v).heap) (hbl : b < (e_s v).heap.size) (hba : ¬ g.2.2 ≤ b) (hL : 6 * t + 6 ≤ L) (hL2 : L ≤ 3072) (hI0 : ∀ n h M, Inv n h M → MR_ h ∧ h_k h 0 = 4) (I : Inv t h M) (hkn : k + 146 ≤ 1196082 ∧ n + 1124 ≤ 5514002) (ok : Ok_last Inv) (kk : ∀ (h' : Hpx) (M' : Msx) (k' n' : Nat), k' ≤ k + 146 → n' ≤ n + 1124 → Inv (t + 1) h' M' → At_ v g 4 h' M' k' n' 1158 [(0, v_X b), (1, v_R (some 0)), (2, v_R (some 5)), (3, v_I (nI (6 * t)))] []) : At_ v g 4 h M k n 793 [(0, v_X b), (1, v_R (some 0)), (2, v_R (some 5)), (3, v_I (nI (6 * t)))] [] := by
  obtain ⟨r, M2, q1, q2, ag, I'⟩ := ok t h M (xs (6 * t + 1)) (by omega) I
  refine a_aload_n X dL_law_793 rfl ?_
  refine a_xload_n X dL_law_794 rfl ?_
  refine a_iload_n X dL_law_795 rfl ?_
  refine a_iconst (x := 1) X dL_law_796 (by decide) ?_
  refine a_iadd X dL_law_797 ?_
  refine a_sld (jn := 6 * t + 1) X hX hbl hba (by omega) (nI_add (6 * t) 1) (by omega) dL_law_798 ?_
  refine a_callV (k' := k) (n' := n) (st := []) X (c_X3_last q1) yv_X3_last ml_L_92 rfl (Or.inl (hI0 _ _ _ I).2) ⟨by decide, by decide, by show k + 0 ≤ 1196082; omega, by show n + 0 ≤ 5514002; omega, Nat.le_of_ble_eq_true rfl⟩ rfl rfl dL_law_799 rfl rfl ?_
  show At_ v g 4 h M (k) (n) 802 [(0, v_X b), (1, v_R (some 0)), (2, v_R (some 5)), (3, v_I (nI (6 * t)))] [v_J r]
  refine a_aload_n X dL_law_802 rfl ?_
  refine a_xload_n X dL_law_803 rfl ?_
  refine a_iload_n X dL_law_804 rfl ?_
  refine a_iconst (x := 1) X dL_law_805 (by decide) ?_
  refine a_iadd X dL_law_806 ?_
  refine a_sld (jn := 6 * t + 1) X hX hbl hba (by omega) (nI_add (6 * t) 1) (by omega) dL_law_807 ?_
  refine a_callV (k' := k) (n' := n) (st := [v_J r]) X (c_X4_last (hI0 _ _ _ I').1 q2) yv_X4_last ml_L_96 rfl (Or.inr (mr5_ (hI0 _ _ _ I').1)) ⟨by decide, by decide, by show k + 0 ≤ 1196082; omega, by show n + 0 ≤ 5514002; omega, Nat.le_of_ble_eq_true rfl⟩ rfl rfl dL_law_808 rfl rfl ?_
  show At_ v g 4 h M (k) (n) 811 [(0, v_X b), (1, v_R (some 0)), (2, v_R (some 5)), (3, v_I (nI (6 * t)))] [v_J r, v_J r]
  refine a_lcmp X dL_law_811 ?_
  refine a_eq0 (tgt := 1158) X (lcmp_self r) dL_law_812 (by decide) ?_
  exact a_ghostM ag (kk h M2 (k) (n) (by omega) (by omega) I')
set_option maxHeartbeats 4000000 in
theorem lc_read {nm : String} {v : Evx} {g : Gvx} {Inv : Nat → Hpx → Msx → Prop} {t b L k n : Nat} {xs : Nat → Int32} {h : Hpx} {M : Msx} (X : Cx_ v g code 4 RL nm ret room_1) (hX : va_X b L xs (e_s v) (e_s v).heap) (hbl : b < (e_s v).heap.size) (hba : ¬ g.2.2 ≤ b) (hL : 6 * t + 6 ≤ L) (hL2 : L ≤ 3072) (hI0 : ∀ n h M, Inv n h M → MR_ h ∧ h_k h 0 = 4) (I : Inv t h M) (hkn : k + 146 ≤ 1196082 ∧ n + 1124 ≤ 5514002) (ok : Ok_read Inv) (kk : ∀ (h' : Hpx) (M' : Msx) (k' n' : Nat), k' ≤ k + 146 → n' ≤ n + 1124 → Inv (t + 1) h' M' → At_ v g 4 h' M' k' n' 1158 [(0, v_X b), (1, v_R (some 0)), (2, v_R (some 5)), (3, v_I (nI (6 * t)))] []) : At_ v g 4 h M k n 817 [(0, v_X b), (1, v_R (some 0)), (2, v_R (some 5)), (3, v_I (nI (6 * t)))] [] := by
  obtain ⟨h', M', r, M2, q1, q2, ag, I'⟩ := ok t h M (xs (6 * t + 1)) (by omega) I
  refine a_aload_n X dL_law_817 rfl ?_
  refine a_xload_n X dL_law_818 rfl ?_
  refine a_iload_n X dL_law_819 rfl ?_
  refine a_iconst (x := 1) X dL_law_820 (by decide) ?_
  refine a_iadd X dL_law_821 ?_
  refine a_sld (jn := 6 * t + 1) X hX hbl hba (by omega) (nI_add (6 * t) 1) (by omega) dL_law_822 ?_
  refine a_callV (k' := k) (n' := n) (st := []) X (c_X3_read q1) yv_X3_read ml_L_97 rfl (Or.inl (hI0 _ _ _ I).2) ⟨by decide, by decide, by show k + 0 ≤ 1196082; omega, by show n + 0 ≤ 5514002; omega, Nat.le_of_ble_eq_true rfl⟩ rfl rfl dL_law_823 rfl rfl ?_
  show At_ v g 4 h' M (k) (n) 826 [(0, v_X b), (1, v_R (some 0)), (2, v_R (some 5)), (3, v_I (nI (6 * t)))] [v_I r]
  refine a_aload_n X dL_law_826 rfl ?_
  refine a_xload_n X dL_law_827 rfl ?_
  refine a_iload_n X dL_law_828 rfl ?_
  refine a_iconst (x := 1) X dL_law_829 (by decide) ?_
  refine a_iadd X dL_law_830 ?_
  refine a_sld (jn := 6 * t + 1) X hX hbl hba (by omega) (nI_add (6 * t) 1) (by omega) dL_law_831 ?_
  refine a_callV (k' := k) (n' := n) (st := [v_I r]) X (c_X4_read (hI0 _ _ _ I').1 q2) yv_X4_read ml_L_100 rfl (Or.inr (mr5_ (hI0 _ _ _ I').1)) ⟨by decide, by decide, by show k + 0 ≤ 1196082; omega, by show n + 0 ≤ 5514002; omega, Nat.le_of_ble_eq_true rfl⟩ rfl rfl dL_law_832 rfl rfl ?_
  show At_ v g 4 h' M' (k) (n) 835 [(0, v_X b), (1, v_R (some 0)), (2, v_R (some 5)), (3, v_I (nI (6 * t)))] [v_I r, v_I r]
  refine a_eqT (tgt := 1158) X dL_law_835 (by decide) ?_
  exact a_ghostM ag (kk h' M2 (k) (n) (by omega) (by omega) I')
set_option maxHeartbeats 4000000 in
theorem lc_round {nm : String} {v : Evx} {g : Gvx} {Inv : Nat → Hpx → Msx → Prop} {t b L k n : Nat} {xs : Nat → Int32} {h : Hpx} {M : Msx} (X : Cx_ v g code 4 RL nm ret room_1) (hX : va_X b L xs (e_s v) (e_s v).heap) (hbl : b < (e_s v).heap.size) (hba : ¬ g.2.2 ≤ b) (hL : 6 * t + 6 ≤ L) (hL2 : L ≤ 3072) (hI0 : ∀ n h M, Inv n h M → MR_ h ∧ h_k h 0 = 4) (I : Inv t h M) (hkn : k + 146 ≤ 1196082 ∧ n + 1124 ≤ 5514002) (ok : Ok_round Inv) (kk : ∀ (h' : Hpx) (M' : Msx) (k' n' : Nat), k' ≤ k + 146 → n' ≤ n + 1124 → Inv (t + 1) h' M' → At_ v g 4 h' M' k' n' 1158 [(0, v_X b), (1, v_R (some 0)), (2, v_R (some 5)), (3, v_I (nI (6 * t)))] []) : At_ v g 4 h M k n 840 [(0, v_X b), (1, v_R (some 0)), (2, v_R (some 5)), (3, v_I (nI (6 * t)))] [] := by
  obtain ⟨h', M', r, M2, q1, q2, ag, I'⟩ := ok t h M  (by omega) I
  refine a_aload_n X dL_law_840 rfl ?_
  refine a_callV (k' := k) (n' := n) (st := []) X (c_X3_round q1) yv_X3_round ml_L_101 rfl (Or.inl (hI0 _ _ _ I).2) ⟨by decide, by decide, by show k + 0 ≤ 1196082; omega, by show n + 0 ≤ 5514002; omega, Nat.le_of_ble_eq_true rfl⟩ rfl rfl dL_law_841 rfl rfl ?_
  show At_ v g 4 h' M (k) (n) 844 [(0, v_X b), (1, v_R (some 0)), (2, v_R (some 5)), (3, v_I (nI (6 * t)))] [v_I r]
  refine a_aload_n X dL_law_844 rfl ?_
  refine a_callV (k' := k) (n' := n) (st := [v_I r]) X (c_X4_round (hI0 _ _ _ I').1 q2) yv_X4_round ml_L_104 rfl (Or.inr (mr5_ (hI0 _ _ _ I').1)) ⟨by decide, by decide, by show k + 0 ≤ 1196082; omega, by show n + 0 ≤ 5514002; omega, Nat.le_of_ble_eq_true rfl⟩ rfl rfl dL_law_845 rfl rfl ?_
  show At_ v g 4 h' M' (k) (n) 848 [(0, v_X b), (1, v_R (some 0)), (2, v_R (some 5)), (3, v_I (nI (6 * t)))] [v_I r, v_I r]
  refine a_eqT (tgt := 1158) X dL_law_848 (by decide) ?_
  exact a_ghostM ag (kk h' M2 (k) (n) (by omega) (by omega) I')
set_option maxHeartbeats 4000000 in
theorem lc_got {nm : String} {v : Evx} {g : Gvx} {Inv : Nat → Hpx → Msx → Prop} {t b L k n : Nat} {xs : Nat → Int32} {h : Hpx} {M : Msx} (X : Cx_ v g code 4 RL nm ret room_1) (hX : va_X b L xs (e_s v) (e_s v).heap) (hbl : b < (e_s v).heap.size) (hba : ¬ g.2.2 ≤ b) (hL : 6 * t + 6 ≤ L) (hL2 : L ≤ 3072) (hI0 : ∀ n h M, Inv n h M → MR_ h ∧ h_k h 0 = 4) (I : Inv t h M) (hkn : k + 146 ≤ 1196082 ∧ n + 1124 ≤ 5514002) (ok : Ok_got Inv) (kk : ∀ (h' : Hpx) (M' : Msx) (k' n' : Nat), k' ≤ k + 146 → n' ≤ n + 1124 → Inv (t + 1) h' M' → At_ v g 4 h' M' k' n' 1158 [(0, v_X b), (1, v_R (some 0)), (2, v_R (some 5)), (3, v_I (nI (6 * t)))] []) : At_ v g 4 h M k n 853 [(0, v_X b), (1, v_R (some 0)), (2, v_R (some 5)), (3, v_I (nI (6 * t)))] [] := by
  obtain ⟨r, M2, q1, q2, ag, I'⟩ := ok t h M (xs (6 * t + 1)) (xs (6 * t + 2)) (by omega) I
  refine a_aload_n X dL_law_853 rfl ?_
  refine a_xload_n X dL_law_854 rfl ?_
  refine a_iload_n X dL_law_855 rfl ?_
  refine a_iconst (x := 1) X dL_law_856 (by decide) ?_
  refine a_iadd X dL_law_857 ?_
  refine a_sld (jn := 6 * t + 1) X hX hbl hba (by omega) (nI_add (6 * t) 1) (by omega) dL_law_858 ?_
  refine a_xload_n X dL_law_859 rfl ?_
  refine a_iload_n X dL_law_860 rfl ?_
  refine a_iconst (x := 2) X dL_law_861 (by decide) ?_
  refine a_iadd X dL_law_862 ?_
  refine a_sld (jn := 6 * t + 2) X hX hbl hba (by omega) (nI_add (6 * t) 2) (by omega) dL_law_863 ?_
  refine a_callV (k' := k) (n' := n) (st := []) X (c_X3_got q1) yv_X3_got ml_L_105 rfl (Or.inl (hI0 _ _ _ I).2) ⟨by decide, by decide, by show k + 0 ≤ 1196082; omega, by show n + 0 ≤ 5514002; omega, Nat.le_of_ble_eq_true rfl⟩ rfl rfl dL_law_864 rfl rfl ?_
  show At_ v g 4 h M (k) (n) 867 [(0, v_X b), (1, v_R (some 0)), (2, v_R (some 5)), (3, v_I (nI (6 * t)))] [v_J r]
  refine a_aload_n X dL_law_867 rfl ?_
  refine a_xload_n X dL_law_868 rfl ?_
  refine a_iload_n X dL_law_869 rfl ?_
  refine a_iconst (x := 1) X dL_law_870 (by decide) ?_
  refine a_iadd X dL_law_871 ?_
  refine a_sld (jn := 6 * t + 1) X hX hbl hba (by omega) (nI_add (6 * t) 1) (by omega) dL_law_872 ?_
  refine a_xload_n X dL_law_873 rfl ?_
  refine a_iload_n X dL_law_874 rfl ?_
  refine a_iconst (x := 2) X dL_law_875 (by decide) ?_
  refine a_iadd X dL_law_876 ?_
  refine a_sld (jn := 6 * t + 2) X hX hbl hba (by omega) (nI_add (6 * t) 2) (by omega) dL_law_877 ?_
  refine a_callV (k' := k) (n' := n) (st := [v_J r]) X (c_X4_got (hI0 _ _ _ I').1 q2) yv_X4_got ml_L_109 rfl (Or.inr (mr5_ (hI0 _ _ _ I').1)) ⟨by decide, by decide, by show k + 0 ≤ 1196082; omega, by show n + 0 ≤ 5514002; omega, Nat.le_of_ble_eq_true rfl⟩ rfl rfl dL_law_878 rfl rfl ?_
  show At_ v g 4 h M (k) (n) 881 [(0, v_X b), (1, v_R (some 0)), (2, v_R (some 5)), (3, v_I (nI (6 * t)))] [v_J r, v_J r]
  refine a_lcmp X dL_law_881 ?_
  refine a_eq0 (tgt := 1158) X (lcmp_self r) dL_law_882 (by decide) ?_
  exact a_ghostM ag (kk h M2 (k) (n) (by omega) (by omega) I')
set_option maxHeartbeats 4000000 in
theorem lc_word {nm : String} {v : Evx} {g : Gvx} {Inv : Nat → Hpx → Msx → Prop} {t b L k n : Nat} {xs : Nat → Int32} {h : Hpx} {M : Msx} (X : Cx_ v g code 4 RL nm ret room_1) (hX : va_X b L xs (e_s v) (e_s v).heap) (hbl : b < (e_s v).heap.size) (hba : ¬ g.2.2 ≤ b) (hL : 6 * t + 6 ≤ L) (hL2 : L ≤ 3072) (hI0 : ∀ n h M, Inv n h M → MR_ h ∧ h_k h 0 = 4) (I : Inv t h M) (hkn : k + 146 ≤ 1196082 ∧ n + 1124 ≤ 5514002) (ok : Ok_word Inv) (kk : ∀ (h' : Hpx) (M' : Msx) (k' n' : Nat), k' ≤ k + 146 → n' ≤ n + 1124 → Inv (t + 1) h' M' → At_ v g 4 h' M' k' n' 1158 [(0, v_X b), (1, v_R (some 0)), (2, v_R (some 5)), (3, v_I (nI (6 * t)))] []) : At_ v g 4 h M k n 887 [(0, v_X b), (1, v_R (some 0)), (2, v_R (some 5)), (3, v_I (nI (6 * t)))] [] := by
  obtain ⟨r, M2, q1, q2, ag, I'⟩ := ok t h M (xs (6 * t + 1)) (xs (6 * t + 2)) (by omega) I
  refine a_aload_n X dL_law_887 rfl ?_
  refine a_xload_n X dL_law_888 rfl ?_
  refine a_iload_n X dL_law_889 rfl ?_
  refine a_iconst (x := 1) X dL_law_890 (by decide) ?_
  refine a_iadd X dL_law_891 ?_
  refine a_sld (jn := 6 * t + 1) X hX hbl hba (by omega) (nI_add (6 * t) 1) (by omega) dL_law_892 ?_
  refine a_xload_n X dL_law_893 rfl ?_
  refine a_iload_n X dL_law_894 rfl ?_
  refine a_iconst (x := 2) X dL_law_895 (by decide) ?_
  refine a_iadd X dL_law_896 ?_
  refine a_sld (jn := 6 * t + 2) X hX hbl hba (by omega) (nI_add (6 * t) 2) (by omega) dL_law_897 ?_
  refine a_callV (k' := k) (n' := n) (st := []) X (c_X3_word q1) yv_X3_word ml_L_110 rfl (Or.inl (hI0 _ _ _ I).2) ⟨by decide, by decide, by show k + 0 ≤ 1196082; omega, by show n + 0 ≤ 5514002; omega, Nat.le_of_ble_eq_true rfl⟩ rfl rfl dL_law_898 rfl rfl ?_
  show At_ v g 4 h M (k) (n) 901 [(0, v_X b), (1, v_R (some 0)), (2, v_R (some 5)), (3, v_I (nI (6 * t)))] [v_J r]
  refine a_aload_n X dL_law_901 rfl ?_
  refine a_xload_n X dL_law_902 rfl ?_
  refine a_iload_n X dL_law_903 rfl ?_
  refine a_iconst (x := 1) X dL_law_904 (by decide) ?_
  refine a_iadd X dL_law_905 ?_
  refine a_sld (jn := 6 * t + 1) X hX hbl hba (by omega) (nI_add (6 * t) 1) (by omega) dL_law_906 ?_
  refine a_xload_n X dL_law_907 rfl ?_
  refine a_iload_n X dL_law_908 rfl ?_
  refine a_iconst (x := 2) X dL_law_909 (by decide) ?_
  refine a_iadd X dL_law_910 ?_
  refine a_sld (jn := 6 * t + 2) X hX hbl hba (by omega) (nI_add (6 * t) 2) (by omega) dL_law_911 ?_
  refine a_callV (k' := k) (n' := n) (st := [v_J r]) X (c_X4_word (hI0 _ _ _ I').1 q2) yv_X4_word ml_L_113 rfl (Or.inr (mr5_ (hI0 _ _ _ I').1)) ⟨by decide, by decide, by show k + 0 ≤ 1196082; omega, by show n + 0 ≤ 5514002; omega, Nat.le_of_ble_eq_true rfl⟩ rfl rfl dL_law_912 rfl rfl ?_
  show At_ v g 4 h M (k) (n) 915 [(0, v_X b), (1, v_R (some 0)), (2, v_R (some 5)), (3, v_I (nI (6 * t)))] [v_J r, v_J r]
  refine a_lcmp X dL_law_915 ?_
  refine a_eq0 (tgt := 1158) X (lcmp_self r) dL_law_916 (by decide) ?_
  exact a_ghostM ag (kk h M2 (k) (n) (by omega) (by omega) I')
set_option maxHeartbeats 4000000 in
theorem lc_of {nm : String} {v : Evx} {g : Gvx} {Inv : Nat → Hpx → Msx → Prop} {t b L k n : Nat} {xs : Nat → Int32} {h : Hpx} {M : Msx} (X : Cx_ v g code 4 RL nm ret room_1) (hX : va_X b L xs (e_s v) (e_s v).heap) (hbl : b < (e_s v).heap.size) (hba : ¬ g.2.2 ≤ b) (hL : 6 * t + 6 ≤ L) (hL2 : L ≤ 3072) (hI0 : ∀ n h M, Inv n h M → MR_ h ∧ h_k h 0 = 4) (I : Inv t h M) (hkn : k + 146 ≤ 1196082 ∧ n + 1124 ≤ 5514002) (ok : Ok_of Inv) (kk : ∀ (h' : Hpx) (M' : Msx) (k' n' : Nat), k' ≤ k + 146 → n' ≤ n + 1124 → Inv (t + 1) h' M' → At_ v g 4 h' M' k' n' 1158 [(0, v_X b), (1, v_R (some 0)), (2, v_R (some 5)), (3, v_I (nI (6 * t)))] []) : At_ v g 4 h M k n 921 [(0, v_X b), (1, v_R (some 0)), (2, v_R (some 5)), (3, v_I (nI (6 * t)))] [] := by
  obtain ⟨h', M', r, M2, q1, q2, ag, I'⟩ := ok t h M (xs (6 * t + 1)) (xs (6 * t + 2)) (by omega) I
  refine a_aload_n X dL_law_921 rfl ?_
  refine a_xload_n X dL_law_922 rfl ?_
  refine a_iload_n X dL_law_923 rfl ?_
  refine a_iconst (x := 1) X dL_law_924 (by decide) ?_
  refine a_iadd X dL_law_925 ?_
  refine a_sld (jn := 6 * t + 1) X hX hbl hba (by omega) (nI_add (6 * t) 1) (by omega) dL_law_926 ?_
  refine a_xload_n X dL_law_927 rfl ?_
  refine a_iload_n X dL_law_928 rfl ?_
  refine a_iconst (x := 2) X dL_law_929 (by decide) ?_
  refine a_iadd X dL_law_930 ?_
  refine a_sld (jn := 6 * t + 2) X hX hbl hba (by omega) (nI_add (6 * t) 2) (by omega) dL_law_931 ?_
  refine a_callV (k' := k) (n' := n) (st := []) X (c_X3_of q1) yv_X3_of ml_L_114 rfl (Or.inl (hI0 _ _ _ I).2) ⟨by decide, by decide, by show k + 0 ≤ 1196082; omega, by show n + 0 ≤ 5514002; omega, Nat.le_of_ble_eq_true rfl⟩ rfl rfl dL_law_932 rfl rfl ?_
  show At_ v g 4 h' M (k) (n) 935 [(0, v_X b), (1, v_R (some 0)), (2, v_R (some 5)), (3, v_I (nI (6 * t)))] [v_I r]
  refine a_aload_n X dL_law_935 rfl ?_
  refine a_xload_n X dL_law_936 rfl ?_
  refine a_iload_n X dL_law_937 rfl ?_
  refine a_iconst (x := 1) X dL_law_938 (by decide) ?_
  refine a_iadd X dL_law_939 ?_
  refine a_sld (jn := 6 * t + 1) X hX hbl hba (by omega) (nI_add (6 * t) 1) (by omega) dL_law_940 ?_
  refine a_xload_n X dL_law_941 rfl ?_
  refine a_iload_n X dL_law_942 rfl ?_
  refine a_iconst (x := 2) X dL_law_943 (by decide) ?_
  refine a_iadd X dL_law_944 ?_
  refine a_sld (jn := 6 * t + 2) X hX hbl hba (by omega) (nI_add (6 * t) 2) (by omega) dL_law_945 ?_
  refine a_callV (k' := k) (n' := n) (st := [v_I r]) X (c_X4_of (hI0 _ _ _ I').1 q2) yv_X4_of ml_L_117 rfl (Or.inr (mr5_ (hI0 _ _ _ I').1)) ⟨by decide, by decide, by show k + 0 ≤ 1196082; omega, by show n + 0 ≤ 5514002; omega, Nat.le_of_ble_eq_true rfl⟩ rfl rfl dL_law_946 rfl rfl ?_
  show At_ v g 4 h' M' (k) (n) 949 [(0, v_X b), (1, v_R (some 0)), (2, v_R (some 5)), (3, v_I (nI (6 * t)))] [v_I r, v_I r]
  refine a_eqT (tgt := 1158) X dL_law_949 (by decide) ?_
  exact a_ghostM ag (kk h' M2 (k) (n) (by omega) (by omega) I')
set_option maxHeartbeats 4000000 in
theorem lc_place {nm : String} {v : Evx} {g : Gvx} {Inv : Nat → Hpx → Msx → Prop} {t b L k n : Nat} {xs : Nat → Int32} {h : Hpx} {M : Msx} (X : Cx_ v g code 4 RL nm ret room_1) (hX : va_X b L xs (e_s v) (e_s v).heap) (hbl : b < (e_s v).heap.size) (hba : ¬ g.2.2 ≤ b) (hL : 6 * t + 6 ≤ L) (hL2 : L ≤ 3072) (hI0 : ∀ n h M, Inv n h M → MR_ h ∧ h_k h 0 = 4) (I : Inv t h M) (hkn : k + 146 ≤ 1196082 ∧ n + 1124 ≤ 5514002) (ok : Ok_place Inv) (kk : ∀ (h' : Hpx) (M' : Msx) (k' n' : Nat), k' ≤ k + 146 → n' ≤ n + 1124 → Inv (t + 1) h' M' → At_ v g 4 h' M' k' n' 1158 [(0, v_X b), (1, v_R (some 0)), (2, v_R (some 5)), (3, v_I (nI (6 * t)))] []) : At_ v g 4 h M k n 954 [(0, v_X b), (1, v_R (some 0)), (2, v_R (some 5)), (3, v_I (nI (6 * t)))] [] := by
  obtain ⟨r, M2, q1, q2, ag, I'⟩ := ok t h M (xs (6 * t + 1)) (xs (6 * t + 2)) (by omega) I
  refine a_aload_n X dL_law_954 rfl ?_
  refine a_xload_n X dL_law_955 rfl ?_
  refine a_iload_n X dL_law_956 rfl ?_
  refine a_iconst (x := 1) X dL_law_957 (by decide) ?_
  refine a_iadd X dL_law_958 ?_
  refine a_sld (jn := 6 * t + 1) X hX hbl hba (by omega) (nI_add (6 * t) 1) (by omega) dL_law_959 ?_
  refine a_xload_n X dL_law_960 rfl ?_
  refine a_iload_n X dL_law_961 rfl ?_
  refine a_iconst (x := 2) X dL_law_962 (by decide) ?_
  refine a_iadd X dL_law_963 ?_
  refine a_sld (jn := 6 * t + 2) X hX hbl hba (by omega) (nI_add (6 * t) 2) (by omega) dL_law_964 ?_
  refine a_callV (k' := k) (n' := n) (st := []) X (c_X3_place q1) yv_X3_place ml_L_118 rfl (Or.inl (hI0 _ _ _ I).2) ⟨by decide, by decide, by show k + 0 ≤ 1196082; omega, by show n + 0 ≤ 5514002; omega, Nat.le_of_ble_eq_true rfl⟩ rfl rfl dL_law_965 rfl rfl ?_
  show At_ v g 4 h M (k) (n) 968 [(0, v_X b), (1, v_R (some 0)), (2, v_R (some 5)), (3, v_I (nI (6 * t)))] [v_I r]
  refine a_aload_n X dL_law_968 rfl ?_
  refine a_xload_n X dL_law_969 rfl ?_
  refine a_iload_n X dL_law_970 rfl ?_
  refine a_iconst (x := 1) X dL_law_971 (by decide) ?_
  refine a_iadd X dL_law_972 ?_
  refine a_sld (jn := 6 * t + 1) X hX hbl hba (by omega) (nI_add (6 * t) 1) (by omega) dL_law_973 ?_
  refine a_xload_n X dL_law_974 rfl ?_
  refine a_iload_n X dL_law_975 rfl ?_
  refine a_iconst (x := 2) X dL_law_976 (by decide) ?_
  refine a_iadd X dL_law_977 ?_
  refine a_sld (jn := 6 * t + 2) X hX hbl hba (by omega) (nI_add (6 * t) 2) (by omega) dL_law_978 ?_
  refine a_callV (k' := k) (n' := n) (st := [v_I r]) X (c_X4_place (hI0 _ _ _ I').1 q2) yv_X4_place ml_L_121 rfl (Or.inr (mr5_ (hI0 _ _ _ I').1)) ⟨by decide, by decide, by show k + 0 ≤ 1196082; omega, by show n + 0 ≤ 5514002; omega, Nat.le_of_ble_eq_true rfl⟩ rfl rfl dL_law_979 rfl rfl ?_
  show At_ v g 4 h M (k) (n) 982 [(0, v_X b), (1, v_R (some 0)), (2, v_R (some 5)), (3, v_I (nI (6 * t)))] [v_I r, v_I r]
  refine a_eqT (tgt := 1158) X dL_law_982 (by decide) ?_
  exact a_ghostM ag (kk h M2 (k) (n) (by omega) (by omega) I')
set_option maxHeartbeats 4000000 in
theorem lc_named {nm : String} {v : Evx} {g : Gvx} {Inv : Nat → Hpx → Msx → Prop} {t b L k n : Nat} {xs : Nat → Int32} {h : Hpx} {M : Msx} (X : Cx_ v g code 4 RL nm ret room_1) (hX : va_X b L xs (e_s v) (e_s v).heap) (hbl : b < (e_s v).heap.size) (hba : ¬ g.2.2 ≤ b) (hL : 6 * t + 6 ≤ L) (hL2 : L ≤ 3072) (hI0 : ∀ n h M, Inv n h M → MR_ h ∧ h_k h 0 = 4) (I : Inv t h M) (hkn : k + 146 ≤ 1196082 ∧ n + 1124 ≤ 5514002) (ok : Ok_named Inv) (kk : ∀ (h' : Hpx) (M' : Msx) (k' n' : Nat), k' ≤ k + 146 → n' ≤ n + 1124 → Inv (t + 1) h' M' → At_ v g 4 h' M' k' n' 1158 [(0, v_X b), (1, v_R (some 0)), (2, v_R (some 5)), (3, v_I (nI (6 * t)))] []) : At_ v g 4 h M k n 987 [(0, v_X b), (1, v_R (some 0)), (2, v_R (some 5)), (3, v_I (nI (6 * t)))] [] := by
  obtain ⟨h', M', r, M2, q1, q2, ag, I'⟩ := ok t h M (xs (6 * t + 1)) (xs (6 * t + 2)) (by omega) I
  refine a_aload_n X dL_law_987 rfl ?_
  refine a_xload_n X dL_law_988 rfl ?_
  refine a_iload_n X dL_law_989 rfl ?_
  refine a_iconst (x := 1) X dL_law_990 (by decide) ?_
  refine a_iadd X dL_law_991 ?_
  refine a_sld (jn := 6 * t + 1) X hX hbl hba (by omega) (nI_add (6 * t) 1) (by omega) dL_law_992 ?_
  refine a_xload_n X dL_law_993 rfl ?_
  refine a_iload_n X dL_law_994 rfl ?_
  refine a_iconst (x := 2) X dL_law_995 (by decide) ?_
  refine a_iadd X dL_law_996 ?_
  refine a_sld (jn := 6 * t + 2) X hX hbl hba (by omega) (nI_add (6 * t) 2) (by omega) dL_law_997 ?_
  refine a_callV (k' := k) (n' := n) (st := []) X (c_X3_named q1) yv_X3_named ml_L_122 rfl (Or.inl (hI0 _ _ _ I).2) ⟨by decide, by decide, by show k + 0 ≤ 1196082; omega, by show n + 0 ≤ 5514002; omega, Nat.le_of_ble_eq_true rfl⟩ rfl rfl dL_law_998 rfl rfl ?_
  show At_ v g 4 h' M (k) (n) 1001 [(0, v_X b), (1, v_R (some 0)), (2, v_R (some 5)), (3, v_I (nI (6 * t)))] [v_I r]
  refine a_aload_n X dL_law_1001 rfl ?_
  refine a_xload_n X dL_law_1002 rfl ?_
  refine a_iload_n X dL_law_1003 rfl ?_
  refine a_iconst (x := 1) X dL_law_1004 (by decide) ?_
  refine a_iadd X dL_law_1005 ?_
  refine a_sld (jn := 6 * t + 1) X hX hbl hba (by omega) (nI_add (6 * t) 1) (by omega) dL_law_1006 ?_
  refine a_xload_n X dL_law_1007 rfl ?_
  refine a_iload_n X dL_law_1008 rfl ?_
  refine a_iconst (x := 2) X dL_law_1009 (by decide) ?_
  refine a_iadd X dL_law_1010 ?_
  refine a_sld (jn := 6 * t + 2) X hX hbl hba (by omega) (nI_add (6 * t) 2) (by omega) dL_law_1011 ?_
  refine a_callV (k' := k) (n' := n) (st := [v_I r]) X (c_X4_named (hI0 _ _ _ I').1 q2) yv_X4_named ml_L_125 rfl (Or.inr (mr5_ (hI0 _ _ _ I').1)) ⟨by decide, by decide, by show k + 0 ≤ 1196082; omega, by show n + 0 ≤ 5514002; omega, Nat.le_of_ble_eq_true rfl⟩ rfl rfl dL_law_1012 rfl rfl ?_
  show At_ v g 4 h' M' (k) (n) 1015 [(0, v_X b), (1, v_R (some 0)), (2, v_R (some 5)), (3, v_I (nI (6 * t)))] [v_I r, v_I r]
  refine a_eqT (tgt := 1158) X dL_law_1015 (by decide) ?_
  exact a_ghostM ag (kk h' M2 (k) (n) (by omega) (by omega) I')
set_option maxHeartbeats 4000000 in
theorem lc_entry {nm : String} {v : Evx} {g : Gvx} {Inv : Nat → Hpx → Msx → Prop} {t b L k n : Nat} {xs : Nat → Int32} {h : Hpx} {M : Msx} (X : Cx_ v g code 4 RL nm ret room_1) (hX : va_X b L xs (e_s v) (e_s v).heap) (hbl : b < (e_s v).heap.size) (hba : ¬ g.2.2 ≤ b) (hL : 6 * t + 6 ≤ L) (hL2 : L ≤ 3072) (hI0 : ∀ n h M, Inv n h M → MR_ h ∧ h_k h 0 = 4) (I : Inv t h M) (hkn : k + 146 ≤ 1196082 ∧ n + 1124 ≤ 5514002) (ok : Ok_entry Inv) (kk : ∀ (h' : Hpx) (M' : Msx) (k' n' : Nat), k' ≤ k + 146 → n' ≤ n + 1124 → Inv (t + 1) h' M' → At_ v g 4 h' M' k' n' 1158 [(0, v_X b), (1, v_R (some 0)), (2, v_R (some 5)), (3, v_I (nI (6 * t)))] []) : At_ v g 4 h M k n 1020 [(0, v_X b), (1, v_R (some 0)), (2, v_R (some 5)), (3, v_I (nI (6 * t)))] [] := by
  obtain ⟨h', M', r, M2, q1, q2, ag, I'⟩ := ok t h M (xs (6 * t + 1)) (xs (6 * t + 2)) (by omega) I
  refine a_aload_n X dL_law_1020 rfl ?_
  refine a_xload_n X dL_law_1021 rfl ?_
  refine a_iload_n X dL_law_1022 rfl ?_
  refine a_iconst (x := 1) X dL_law_1023 (by decide) ?_
  refine a_iadd X dL_law_1024 ?_
  refine a_sld (jn := 6 * t + 1) X hX hbl hba (by omega) (nI_add (6 * t) 1) (by omega) dL_law_1025 ?_
  refine a_xload_n X dL_law_1026 rfl ?_
  refine a_iload_n X dL_law_1027 rfl ?_
  refine a_iconst (x := 2) X dL_law_1028 (by decide) ?_
  refine a_iadd X dL_law_1029 ?_
  refine a_sld (jn := 6 * t + 2) X hX hbl hba (by omega) (nI_add (6 * t) 2) (by omega) dL_law_1030 ?_
  refine a_callV (k' := k) (n' := n) (st := []) X (c_X3_entry q1) yv_X3_entry ml_L_126 rfl (Or.inl (hI0 _ _ _ I).2) ⟨by decide, by decide, by show k + 0 ≤ 1196082; omega, by show n + 0 ≤ 5514002; omega, Nat.le_of_ble_eq_true rfl⟩ rfl rfl dL_law_1031 rfl rfl ?_
  show At_ v g 4 h' M (k) (n) 1034 [(0, v_X b), (1, v_R (some 0)), (2, v_R (some 5)), (3, v_I (nI (6 * t)))] [v_I r]
  refine a_aload_n X dL_law_1034 rfl ?_
  refine a_xload_n X dL_law_1035 rfl ?_
  refine a_iload_n X dL_law_1036 rfl ?_
  refine a_iconst (x := 1) X dL_law_1037 (by decide) ?_
  refine a_iadd X dL_law_1038 ?_
  refine a_sld (jn := 6 * t + 1) X hX hbl hba (by omega) (nI_add (6 * t) 1) (by omega) dL_law_1039 ?_
  refine a_xload_n X dL_law_1040 rfl ?_
  refine a_iload_n X dL_law_1041 rfl ?_
  refine a_iconst (x := 2) X dL_law_1042 (by decide) ?_
  refine a_iadd X dL_law_1043 ?_
  refine a_sld (jn := 6 * t + 2) X hX hbl hba (by omega) (nI_add (6 * t) 2) (by omega) dL_law_1044 ?_
  refine a_callV (k' := k) (n' := n) (st := [v_I r]) X (c_X4_entry (hI0 _ _ _ I').1 q2) yv_X4_entry ml_L_129 rfl (Or.inr (mr5_ (hI0 _ _ _ I').1)) ⟨by decide, by decide, by show k + 0 ≤ 1196082; omega, by show n + 0 ≤ 5514002; omega, Nat.le_of_ble_eq_true rfl⟩ rfl rfl dL_law_1045 rfl rfl ?_
  show At_ v g 4 h' M' (k) (n) 1048 [(0, v_X b), (1, v_R (some 0)), (2, v_R (some 5)), (3, v_I (nI (6 * t)))] [v_I r, v_I r]
  refine a_eqT (tgt := 1158) X dL_law_1048 (by decide) ?_
  exact a_ghostM ag (kk h' M2 (k) (n) (by omega) (by omega) I')
set_option maxHeartbeats 4000000 in
theorem lc_target {nm : String} {v : Evx} {g : Gvx} {Inv : Nat → Hpx → Msx → Prop} {t b L k n : Nat} {xs : Nat → Int32} {h : Hpx} {M : Msx} (X : Cx_ v g code 4 RL nm ret room_1) (hX : va_X b L xs (e_s v) (e_s v).heap) (hbl : b < (e_s v).heap.size) (hba : ¬ g.2.2 ≤ b) (hL : 6 * t + 6 ≤ L) (hL2 : L ≤ 3072) (hI0 : ∀ n h M, Inv n h M → MR_ h ∧ h_k h 0 = 4) (I : Inv t h M) (hkn : k + 146 ≤ 1196082 ∧ n + 1124 ≤ 5514002) (ok : Ok_target Inv) (kk : ∀ (h' : Hpx) (M' : Msx) (k' n' : Nat), k' ≤ k + 146 → n' ≤ n + 1124 → Inv (t + 1) h' M' → At_ v g 4 h' M' k' n' 1158 [(0, v_X b), (1, v_R (some 0)), (2, v_R (some 5)), (3, v_I (nI (6 * t)))] []) : At_ v g 4 h M k n 1053 [(0, v_X b), (1, v_R (some 0)), (2, v_R (some 5)), (3, v_I (nI (6 * t)))] [] := by
  obtain ⟨h', M', r, M2, q1, q2, ag, I'⟩ := ok t h M (xs (6 * t + 1)) (by omega) I
  refine a_aload_n X dL_law_1053 rfl ?_
  refine a_xload_n X dL_law_1054 rfl ?_
  refine a_iload_n X dL_law_1055 rfl ?_
  refine a_iconst (x := 1) X dL_law_1056 (by decide) ?_
  refine a_iadd X dL_law_1057 ?_
  refine a_sld (jn := 6 * t + 1) X hX hbl hba (by omega) (nI_add (6 * t) 1) (by omega) dL_law_1058 ?_
  refine a_callV (k' := k) (n' := n) (st := []) X (c_X3_target q1) yv_X3_target ml_L_130 rfl (Or.inl (hI0 _ _ _ I).2) ⟨by decide, by decide, by show k + 0 ≤ 1196082; omega, by show n + 0 ≤ 5514002; omega, Nat.le_of_ble_eq_true rfl⟩ rfl rfl dL_law_1059 rfl rfl ?_
  show At_ v g 4 h' M (k) (n) 1062 [(0, v_X b), (1, v_R (some 0)), (2, v_R (some 5)), (3, v_I (nI (6 * t)))] [v_I r]
  refine a_aload_n X dL_law_1062 rfl ?_
  refine a_xload_n X dL_law_1063 rfl ?_
  refine a_iload_n X dL_law_1064 rfl ?_
  refine a_iconst (x := 1) X dL_law_1065 (by decide) ?_
  refine a_iadd X dL_law_1066 ?_
  refine a_sld (jn := 6 * t + 1) X hX hbl hba (by omega) (nI_add (6 * t) 1) (by omega) dL_law_1067 ?_
  refine a_callV (k' := k) (n' := n) (st := [v_I r]) X (c_X4_target (hI0 _ _ _ I').1 q2) yv_X4_target ml_L_133 rfl (Or.inr (mr5_ (hI0 _ _ _ I').1)) ⟨by decide, by decide, by show k + 0 ≤ 1196082; omega, by show n + 0 ≤ 5514002; omega, Nat.le_of_ble_eq_true rfl⟩ rfl rfl dL_law_1068 rfl rfl ?_
  show At_ v g 4 h' M' (k) (n) 1071 [(0, v_X b), (1, v_R (some 0)), (2, v_R (some 5)), (3, v_I (nI (6 * t)))] [v_I r, v_I r]
  refine a_eqT (tgt := 1158) X dL_law_1071 (by decide) ?_
  exact a_ghostM ag (kk h' M2 (k) (n) (by omega) (by omega) I')
set_option maxHeartbeats 4000000 in
theorem lc_why {nm : String} {v : Evx} {g : Gvx} {Inv : Nat → Hpx → Msx → Prop} {t b L k n : Nat} {xs : Nat → Int32} {h : Hpx} {M : Msx} (X : Cx_ v g code 4 RL nm ret room_1) (hX : va_X b L xs (e_s v) (e_s v).heap) (hbl : b < (e_s v).heap.size) (hba : ¬ g.2.2 ≤ b) (hL : 6 * t + 6 ≤ L) (hL2 : L ≤ 3072) (hI0 : ∀ n h M, Inv n h M → MR_ h ∧ h_k h 0 = 4) (I : Inv t h M) (hkn : k + 146 ≤ 1196082 ∧ n + 1124 ≤ 5514002) (ok : Ok_why Inv) (kk : ∀ (h' : Hpx) (M' : Msx) (k' n' : Nat), k' ≤ k + 146 → n' ≤ n + 1124 → Inv (t + 1) h' M' → At_ v g 4 h' M' k' n' 1158 [(0, v_X b), (1, v_R (some 0)), (2, v_R (some 5)), (3, v_I (nI (6 * t)))] []) : At_ v g 4 h M k n 1076 [(0, v_X b), (1, v_R (some 0)), (2, v_R (some 5)), (3, v_I (nI (6 * t)))] [] := by
  obtain ⟨r, M2, q1, q2, ag, I'⟩ := ok t h M (xs (6 * t + 1)) (by omega) I
  refine a_aload_n X dL_law_1076 rfl ?_
  refine a_xload_n X dL_law_1077 rfl ?_
  refine a_iload_n X dL_law_1078 rfl ?_
  refine a_iconst (x := 1) X dL_law_1079 (by decide) ?_
  refine a_iadd X dL_law_1080 ?_
  refine a_sld (jn := 6 * t + 1) X hX hbl hba (by omega) (nI_add (6 * t) 1) (by omega) dL_law_1081 ?_
  refine a_callV (k' := k) (n' := n) (st := []) X (c_X3_why q1) yv_X3_why ml_L_134 rfl (Or.inl (hI0 _ _ _ I).2) ⟨by decide, by decide, by show k + 0 ≤ 1196082; omega, by show n + 0 ≤ 5514002; omega, Nat.le_of_ble_eq_true rfl⟩ rfl rfl dL_law_1082 rfl rfl ?_
  show At_ v g 4 h M (k) (n) 1085 [(0, v_X b), (1, v_R (some 0)), (2, v_R (some 5)), (3, v_I (nI (6 * t)))] [v_I r]
  refine a_aload_n X dL_law_1085 rfl ?_
  refine a_xload_n X dL_law_1086 rfl ?_
  refine a_iload_n X dL_law_1087 rfl ?_
  refine a_iconst (x := 1) X dL_law_1088 (by decide) ?_
  refine a_iadd X dL_law_1089 ?_
  refine a_sld (jn := 6 * t + 1) X hX hbl hba (by omega) (nI_add (6 * t) 1) (by omega) dL_law_1090 ?_
  refine a_callV (k' := k) (n' := n) (st := [v_I r]) X (c_X4_why (hI0 _ _ _ I').1 q2) yv_X4_why ml_L_137 rfl (Or.inr (mr5_ (hI0 _ _ _ I').1)) ⟨by decide, by decide, by show k + 0 ≤ 1196082; omega, by show n + 0 ≤ 5514002; omega, Nat.le_of_ble_eq_true rfl⟩ rfl rfl dL_law_1091 rfl rfl ?_
  show At_ v g 4 h M (k) (n) 1094 [(0, v_X b), (1, v_R (some 0)), (2, v_R (some 5)), (3, v_I (nI (6 * t)))] [v_I r, v_I r]
  refine a_eqT (tgt := 1158) X dL_law_1094 (by decide) ?_
  exact a_ghostM ag (kk h M2 (k) (n) (by omega) (by omega) I')
set_option maxHeartbeats 4000000 in
theorem lc_on {nm : String} {v : Evx} {g : Gvx} {Inv : Nat → Hpx → Msx → Prop} {t b L k n : Nat} {xs : Nat → Int32} {h : Hpx} {M : Msx} (X : Cx_ v g code 4 RL nm ret room_1) (hX : va_X b L xs (e_s v) (e_s v).heap) (hbl : b < (e_s v).heap.size) (hba : ¬ g.2.2 ≤ b) (hL : 6 * t + 6 ≤ L) (hL2 : L ≤ 3072) (hI0 : ∀ n h M, Inv n h M → MR_ h ∧ h_k h 0 = 4) (I : Inv t h M) (hkn : k + 146 ≤ 1196082 ∧ n + 1124 ≤ 5514002) (ok : Ok_on Inv) (kk : ∀ (h' : Hpx) (M' : Msx) (k' n' : Nat), k' ≤ k + 146 → n' ≤ n + 1124 → Inv (t + 1) h' M' → At_ v g 4 h' M' k' n' 1158 [(0, v_X b), (1, v_R (some 0)), (2, v_R (some 5)), (3, v_I (nI (6 * t)))] []) : At_ v g 4 h M k n 1099 [(0, v_X b), (1, v_R (some 0)), (2, v_R (some 5)), (3, v_I (nI (6 * t)))] [] := by
  obtain ⟨r, M2, q1, q2, ag, I'⟩ := ok t h M (xs (6 * t + 1)) (by omega) I
  refine a_aload_n X dL_law_1099 rfl ?_
  refine a_xload_n X dL_law_1100 rfl ?_
  refine a_iload_n X dL_law_1101 rfl ?_
  refine a_iconst (x := 1) X dL_law_1102 (by decide) ?_
  refine a_iadd X dL_law_1103 ?_
  refine a_sld (jn := 6 * t + 1) X hX hbl hba (by omega) (nI_add (6 * t) 1) (by omega) dL_law_1104 ?_
  refine a_callV (k' := k) (n' := n) (st := []) X (c_X3_on q1) yv_X3_on ml_L_138 rfl (Or.inl (hI0 _ _ _ I).2) ⟨by decide, by decide, by show k + 0 ≤ 1196082; omega, by show n + 0 ≤ 5514002; omega, Nat.le_of_ble_eq_true rfl⟩ rfl rfl dL_law_1105 rfl rfl ?_
  show At_ v g 4 h M (k) (n) 1108 [(0, v_X b), (1, v_R (some 0)), (2, v_R (some 5)), (3, v_I (nI (6 * t)))] [v_I r]
  refine a_aload_n X dL_law_1108 rfl ?_
  refine a_xload_n X dL_law_1109 rfl ?_
  refine a_iload_n X dL_law_1110 rfl ?_
  refine a_iconst (x := 1) X dL_law_1111 (by decide) ?_
  refine a_iadd X dL_law_1112 ?_
  refine a_sld (jn := 6 * t + 1) X hX hbl hba (by omega) (nI_add (6 * t) 1) (by omega) dL_law_1113 ?_
  refine a_callV (k' := k) (n' := n) (st := [v_I r]) X (c_X4_on (hI0 _ _ _ I').1 q2) yv_X4_on ml_L_141 rfl (Or.inr (mr5_ (hI0 _ _ _ I').1)) ⟨by decide, by decide, by show k + 0 ≤ 1196082; omega, by show n + 0 ≤ 5514002; omega, Nat.le_of_ble_eq_true rfl⟩ rfl rfl dL_law_1114 rfl rfl ?_
  show At_ v g 4 h M (k) (n) 1117 [(0, v_X b), (1, v_R (some 0)), (2, v_R (some 5)), (3, v_I (nI (6 * t)))] [v_I r, v_I r]
  refine a_eqT (tgt := 1158) X dL_law_1117 (by decide) ?_
  exact a_ghostM ag (kk h M2 (k) (n) (by omega) (by omega) I')
set_option maxHeartbeats 4000000 in
theorem lc_stuck {nm : String} {v : Evx} {g : Gvx} {Inv : Nat → Hpx → Msx → Prop} {t b L k n : Nat} {xs : Nat → Int32} {h : Hpx} {M : Msx} (X : Cx_ v g code 4 RL nm ret room_1) (hX : va_X b L xs (e_s v) (e_s v).heap) (hbl : b < (e_s v).heap.size) (hba : ¬ g.2.2 ≤ b) (hL : 6 * t + 6 ≤ L) (hL2 : L ≤ 3072) (hI0 : ∀ n h M, Inv n h M → MR_ h ∧ h_k h 0 = 4) (I : Inv t h M) (hkn : k + 146 ≤ 1196082 ∧ n + 1124 ≤ 5514002) (ok : Ok_stuck Inv) (kk : ∀ (h' : Hpx) (M' : Msx) (k' n' : Nat), k' ≤ k + 146 → n' ≤ n + 1124 → Inv (t + 1) h' M' → At_ v g 4 h' M' k' n' 1158 [(0, v_X b), (1, v_R (some 0)), (2, v_R (some 5)), (3, v_I (nI (6 * t)))] []) : At_ v g 4 h M k n 1122 [(0, v_X b), (1, v_R (some 0)), (2, v_R (some 5)), (3, v_I (nI (6 * t)))] [] := by
  obtain ⟨r, M2, q1, q2, ag, I'⟩ := ok t h M  (by omega) I
  refine a_aload_n X dL_law_1122 rfl ?_
  refine a_callV (k' := k) (n' := n) (st := []) X (c_X3_stuck q1) yv_X3_stuck ml_L_142 rfl (Or.inl (hI0 _ _ _ I).2) ⟨by decide, by decide, by show k + 0 ≤ 1196082; omega, by show n + 0 ≤ 5514002; omega, Nat.le_of_ble_eq_true rfl⟩ rfl rfl dL_law_1123 rfl rfl ?_
  show At_ v g 4 h M (k) (n) 1126 [(0, v_X b), (1, v_R (some 0)), (2, v_R (some 5)), (3, v_I (nI (6 * t)))] [v_I r]
  refine a_aload_n X dL_law_1126 rfl ?_
  refine a_callV (k' := k) (n' := n) (st := [v_I r]) X (c_X4_stuck (hI0 _ _ _ I').1 q2) yv_X4_stuck ml_L_146 rfl (Or.inr (mr5_ (hI0 _ _ _ I').1)) ⟨by decide, by decide, by show k + 0 ≤ 1196082; omega, by show n + 0 ≤ 5514002; omega, Nat.le_of_ble_eq_true rfl⟩ rfl rfl dL_law_1127 rfl rfl ?_
  show At_ v g 4 h M (k) (n) 1130 [(0, v_X b), (1, v_R (some 0)), (2, v_R (some 5)), (3, v_I (nI (6 * t)))] [v_I r, v_I r]
  refine a_eqT (tgt := 1158) X dL_law_1130 (by decide) ?_
  exact a_ghostM ag (kk h M2 (k) (n) (by omega) (by omega) I')
set_option maxHeartbeats 4000000 in
theorem lc_found {nm : String} {v : Evx} {g : Gvx} {Inv : Nat → Hpx → Msx → Prop} {t b L k n : Nat} {xs : Nat → Int32} {h : Hpx} {M : Msx} (X : Cx_ v g code 4 RL nm ret room_1) (hX : va_X b L xs (e_s v) (e_s v).heap) (hbl : b < (e_s v).heap.size) (hba : ¬ g.2.2 ≤ b) (hL : 6 * t + 6 ≤ L) (hL2 : L ≤ 3072) (hI0 : ∀ n h M, Inv n h M → MR_ h ∧ h_k h 0 = 4) (I : Inv t h M) (hkn : k + 146 ≤ 1196082 ∧ n + 1124 ≤ 5514002) (ok : Ok_found Inv) (kk : ∀ (h' : Hpx) (M' : Msx) (k' n' : Nat), k' ≤ k + 146 → n' ≤ n + 1124 → Inv (t + 1) h' M' → At_ v g 4 h' M' k' n' 1158 [(0, v_X b), (1, v_R (some 0)), (2, v_R (some 5)), (3, v_I (nI (6 * t)))] []) : At_ v g 4 h M k n 1135 [(0, v_X b), (1, v_R (some 0)), (2, v_R (some 5)), (3, v_I (nI (6 * t)))] [] := by
  obtain ⟨r, M2, q1, q2, ag, I'⟩ := ok t h M (xs (6 * t + 1)) (by omega) I
  refine a_aload_n X dL_law_1135 rfl ?_
  refine a_xload_n X dL_law_1136 rfl ?_
  refine a_iload_n X dL_law_1137 rfl ?_
  refine a_iconst (x := 1) X dL_law_1138 (by decide) ?_
  refine a_iadd X dL_law_1139 ?_
  refine a_sld (jn := 6 * t + 1) X hX hbl hba (by omega) (nI_add (6 * t) 1) (by omega) dL_law_1140 ?_
  refine a_callV (k' := k) (n' := n) (st := []) X (c_X3_found q1) yv_X3_found ml_L_147 rfl (Or.inl (hI0 _ _ _ I).2) ⟨by decide, by decide, by show k + 0 ≤ 1196082; omega, by show n + 0 ≤ 5514002; omega, Nat.le_of_ble_eq_true rfl⟩ rfl rfl dL_law_1141 rfl rfl ?_
  show At_ v g 4 h M (k) (n) 1144 [(0, v_X b), (1, v_R (some 0)), (2, v_R (some 5)), (3, v_I (nI (6 * t)))] [v_I r]
  refine a_aload_n X dL_law_1144 rfl ?_
  refine a_xload_n X dL_law_1145 rfl ?_
  refine a_iload_n X dL_law_1146 rfl ?_
  refine a_iconst (x := 1) X dL_law_1147 (by decide) ?_
  refine a_iadd X dL_law_1148 ?_
  refine a_sld (jn := 6 * t + 1) X hX hbl hba (by omega) (nI_add (6 * t) 1) (by omega) dL_law_1149 ?_
  refine a_callV (k' := k) (n' := n) (st := [v_I r]) X (c_X4_found (hI0 _ _ _ I').1 q2) yv_X4_found ml_L_150 rfl (Or.inr (mr5_ (hI0 _ _ _ I').1)) ⟨by decide, by decide, by show k + 0 ≤ 1196082; omega, by show n + 0 ≤ 5514002; omega, Nat.le_of_ble_eq_true rfl⟩ rfl rfl dL_law_1150 rfl rfl ?_
  show At_ v g 4 h M (k) (n) 1153 [(0, v_X b), (1, v_R (some 0)), (2, v_R (some 5)), (3, v_I (nI (6 * t)))] [v_I r, v_I r]
  refine a_eqT (tgt := 1158) X dL_law_1153 (by decide) ?_
  exact a_ghostM ag (kk h M2 (k) (n) (by omega) (by omega) I')
