section YQ
def cy_ps (f c : Nat → Int32) (e n : Nat) : Nat → Int32 := fun p => if e ≤ p ∧ p < e + n then c (p - e) else f p
theorem cy_ps_0 (f c : Nat → Int32) (e : Nat) : cy_ps f c e 0 = f := by
  funext p; exact if_neg (by omega)
theorem cy_ps_s {f c : Nat → Int32} {e i : Nat} : upd (cy_ps f c e i) (e + i) (c i) = cy_ps f c e (i + 1) := by
  funext p
  unfold upd cy_ps
  by_cases h : p = e + i
  · rw [if_pos h, if_pos (by omega), h, Nat.add_sub_cancel_left]
  · rw [if_neg h]
    by_cases h2 : e ≤ p ∧ p < e + i
    · rw [if_pos h2, if_pos (by omega)]
    · rw [if_neg h2, if_neg (by omega)]
theorem cy_ps_in {f c : Nat → Int32} {e n j : Nat} (h : j < n) : cy_ps f c e n (e + j) = c j := by
  unfold cy_ps; rw [if_pos (by omega), Nat.add_sub_cancel_left]
theorem cy_ps_out {f c : Nat → Int32} {e n p : Nat} (h : p < e ∨ e + n ≤ p) : cy_ps f c e n p = f p := if_neg (by omega)
theorem cy_ps_B {f c : Nat → Int32} {e n : Nat} (h : rl_B f) (hc : ∀ j, j < n → cy_B (c j)) : rl_B (cy_ps f c e n) := by
  intro p
  rw [vp_nar_byte]
  unfold cy_ps
  by_cases h2 : e ≤ p ∧ p < e + n
  · rw [if_pos h2]; exact hc _ (by omega)
  · rw [if_neg h2]; exact rl_Bv h p
theorem cy_ps_S {f c : Nat → Int32} {e n : Nat} (h : rl_S f) (hc : ∀ j, j < n → cy_S (c j)) : rl_S (cy_ps f c e n) := by
  intro p
  rw [vp_nar_short]
  unfold cy_ps
  by_cases h2 : e ≤ p ∧ p < e + n
  · rw [if_pos h2]; exact hc _ (by omega)
  · rw [if_neg h2]; exact rl_Sv h p
theorem fg_q_ps {O W F G o w f g : Nat → Int32} {e n j : Nat} (h : j < n) : fg_q (cy_ps O o e n) (cy_ps W w e n) (cy_ps F f e n) (cy_ps G g e n) (e + j) = fg_q o w f g j := by
  unfold fg_q; rw [cy_ps_in h, cy_ps_in h, cy_ps_in h, cy_ps_in h]
theorem fg_q_pn {O W F G o w f g : Nat → Int32} {e n p : Nat} (h : p < e ∨ e + n ≤ p) : fg_q (cy_ps O o e n) (cy_ps W w e n) (cy_ps F f e n) (cy_ps G g e n) p = fg_q O W F G p := by
  unfold fg_q; rw [cy_ps_out h, cy_ps_out h, cy_ps_out h, cy_ps_out h]
/-- the buffer of the copied atom -/
def cy_cc (c f : Nat → Int32) (o i : Nat) : Nat → Int32 := fun j => if j < i then f (o + j) else c j
theorem cy_cc_0 (c f : Nat → Int32) (o : Nat) : cy_cc c f o 0 = c := by
  funext j; exact if_neg (by omega)
theorem cy_cc_s {c f : Nat → Int32} {o i : Nat} : upd (cy_cc c f o i) i (f (o + i)) = cy_cc c f o (i + 1) := by
  funext j
  unfold upd cy_cc
  by_cases h : j = i
  · rw [if_pos h, if_pos (by omega), h]
  · rw [if_neg h]
    by_cases h2 : j < i
    · rw [if_pos h2, if_pos (by omega)]
    · rw [if_neg h2, if_neg (by omega)]
theorem cy_cc_in {c f : Nat → Int32} {o i j : Nat} (h : j < i) : cy_cc c f o i j = f (o + j) := if_pos h
variable {g_count g_place g_end g_size g_large g_ready g_depth g_groups g_atom g_atomSize g_length g_found : Int32} {b_kind b_value b_op b_with b_one b_two b_copyOp b_copyWith b_copyOne b_copyTwo b_opened b_branch b_sizes b_jumps b_groupOf b_text : Nat → Int32} {b_met : Nat → Int64} {b_todo b_notes : Nat → Int32}
theorem cy_paste {post : SY → Prop} {en n : Nat} (hn : en + n ≤ 160) (B1 : ∀ j, j < n → cy_B (b_copyOp j)) (B2 : ∀ j, j < n → cy_B (b_copyWith j)) (S1 : ∀ j, j < n → cy_S (b_copyOne j)) (S2 : ∀ j, j < n → cy_S (b_copyTwo j))
    (h : post (g_count, g_place, nI (en + n), g_size, 0, g_ready, g_depth, g_groups, g_atom, g_atomSize, g_length, g_found, b_kind, b_value, cy_ps b_op b_copyOp en n, cy_ps b_with b_copyWith en n, cy_ps b_one b_copyOne en n, cy_ps b_two b_copyTwo en n, b_copyOp, b_copyWith, b_copyOne, b_copyTwo, b_opened, b_branch, b_sizes, b_jumps, b_groupOf, b_text, b_met, b_todo, b_notes)) : wpY_paste post (g_count, g_place, nI en, g_size, 0, g_ready, g_depth, g_groups, g_atom, g_atomSize, g_length, g_found, b_kind, b_value, b_op, b_with, b_one, b_two, b_copyOp, b_copyWith, b_copyOne, b_copyTwo, b_opened, b_branch, b_sizes, b_jumps, b_groupOf, b_text, b_met, b_todo, b_notes) (nI n) := by
  have key : ∀ (d i : Nat), i + d = n → wY_paste_2 post (nI n) (d + 1) (nI i) g_count g_place (nI (en + i)) g_size 0 g_ready g_depth g_groups g_atom g_atomSize g_length g_found b_kind b_value (cy_ps b_op b_copyOp en i) (cy_ps b_with b_copyWith en i) (cy_ps b_one b_copyOne en i) (cy_ps b_two b_copyTwo en i) b_copyOp b_copyWith b_copyOne b_copyTwo b_opened b_branch b_sizes b_jumps b_groupOf b_text b_met b_todo b_notes := by
    intro d
    induction d with
    | zero =>
      intro i hi
      obtain rfl : i = n := by omega
      exact br_t (nI_le (Nat.le_refl _) (by omega)) h
    | succ d ih =>
      intro i hi
      have hv : vp_in (nI i) 160 := vp_in_nI (by omega) (by omega)
      have ec : (nI i).toNatClampNeg = i := nI_clamp (by omega)
      refine br_f (nI_ge (by omega) (by omega)) ⟨hv, hv, hv, hv, ?_⟩
      rw [ec]
      refine cy_emit (by omega) (B1 i (by omega)) (B2 i (by omega)) (S1 i (by omega)) (S2 i (by omega)) ?_
      refine nm_r (nI_1 i) ?_
      rw [cy_ps_s, cy_ps_s, cy_ps_s, cy_ps_s]
      exact ih (i + 1) (by omega)
  refine ⟨n + 1, ?_⟩
  have := key n 0 (by omega)
  rw [cy_ps_0, cy_ps_0, cy_ps_0, cy_ps_0, Nat.add_zero, nI_0] at this
  exact this
theorem cy_q169 {post : SY → Prop} {x1 x3 x4 x5 : Int32} {o n : Nat} (hn : o + n ≤ 160) (B1 : rl_B b_op) (B2 : rl_B b_with) (S1 : rl_S b_one) (S2 : rl_S b_two)
    (h : ∃ k, wY_quantify_269 post x1 x3 x4 x5 (nI n) k 0 g_count g_place (nI o) g_size g_large g_ready g_depth g_groups (nI o) g_atomSize g_length g_found b_kind b_value b_op b_with b_one b_two (cy_cc b_copyOp b_op o n) (cy_cc b_copyWith b_with o n) (cy_cc b_copyOne b_one o n) (cy_cc b_copyTwo b_two o n) b_opened b_branch b_sizes b_jumps b_groupOf b_text b_met b_todo b_notes) : ∀ (d i : Nat), i + d = n →
    wY_quantify_169 post x1 x3 x4 x5 (nI n) g_count g_place g_end g_size g_large g_ready g_depth g_groups (nI o) g_atomSize g_length g_found (d + 1) (nI i) b_kind b_value b_op b_with b_one b_two (cy_cc b_copyOp b_op o i) (cy_cc b_copyWith b_with o i) (cy_cc b_copyOne b_one o i) (cy_cc b_copyTwo b_two o i) b_opened b_branch b_sizes b_jumps b_groupOf b_text b_met b_todo b_notes := by
  intro d
  induction d with
  | zero =>
    intro i hi
    obtain rfl : i = n := by omega
    exact br_t (nI_le (Nat.le_refl _) (by omega)) h
  | succ d ih =>
    intro i hi
    have hv : vp_in (nI i) 160 := vp_in_nI (by omega) (by omega)
    have hv2 : vp_in (nI (o + i)) 160 := vp_in_nI (by omega) (by omega)
    have ec : (nI i).toNatClampNeg = i := nI_clamp (by omega)
    have ec2 : (nI (o + i)).toNatClampNeg = o + i := nI_clamp (by omega)
    refine br_f (nI_ge (by omega) (by omega)) ?_
    rw [nI_add, ec, ec2]
    refine ⟨hv2, hv, nm_r (e' := cy_cc b_copyOp b_op o (i + 1)) (by rw [B1, cy_cc_s]) ⟨hv2, hv, nm_r (e' := cy_cc b_copyWith b_with o (i + 1)) (by rw [B2, cy_cc_s]) ⟨hv2, hv, nm_r (e' := cy_cc b_copyOne b_one o (i + 1)) (by rw [S1, cy_cc_s]) ⟨hv2, hv, nm_r (e' := cy_cc b_copyTwo b_two o (i + 1)) (by rw [S2, cy_cc_s]) (nm_r (nI_1 i) (ih (i + 1) (by omega)))⟩⟩⟩⟩
end YQ
