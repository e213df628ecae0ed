section YB
/-! the reference's building steps -/
def cq_la (z : Nat) : Int32 := if z ≤ 36 then 0 else 1
theorem cq_la0 {z : Nat} (h : z ≤ 36) : cq_la z = 0 := if_pos h
theorem cq_la1 {z : Nat} (h : 36 < z) : cq_la z = 1 := if_neg (by omega)
def cy_B (p : Int32) : Prop := p.toInt8.toInt32 = p
def cy_S (p : Int32) : Prop := p.toInt16.toInt32 = p
theorem cy_nB {p : Int32} (h : cy_B p) : vp_nar .byte p.toInt8.toInt32 = p := by
  rw [vp_nar_byte, show p.toInt8.toInt32 = p from h, show p.toInt8.toInt32 = p from h]
theorem cy_nS {p : Int32} (h : cy_S p) : vp_nar .short p.toInt16.toInt32 = p := by
  rw [vp_nar_short, show p.toInt16.toInt32 = p from h, show p.toInt16.toInt32 = p from h]
theorem cy_Bn {n : Nat} (h : n < 128) : cy_B (nI n) := lg_i2b_small (by rw [nI_toInt (by omega)]; omega) (by rw [nI_toInt (by omega)]; omega)
theorem cy_Sn {n : Nat} (h : n < 32768) : cy_S (nI n) := lg_i2s_small (by rw [nI_toInt (by omega)]; omega) (by rw [nI_toInt (by omega)]; omega)
theorem cy_Sm : cy_S (-1) := by unfold cy_S; decide
theorem cy_Sneg : ∀ n, n < 160 → cy_S (-(nI n) - 1) := by unfold cy_S; decide +kernel
theorem rl_Bv {f : Nat → Int32} (h : rl_B f) (j : Nat) : cy_B (f j) := by
  have := h j
  rw [vp_nar_byte] at this; exact this
theorem rl_Sv {f : Nat → Int32} (h : rl_S f) (j : Nat) : cy_S (f j) := by
  have := h j
  rw [vp_nar_short] at this; exact this
theorem rl_Bu {f : Nat → Int32} {k : Nat} {x : Int32} (h : rl_B f) (hx : cy_B x) : rl_B (upd f k x) := by
  intro j
  rw [vp_nar_byte]
  by_cases e : j = k
  · rw [e, rl_us]; exact hx
  · rw [rl_un e]; exact rl_Bv h j
theorem rl_Su {f : Nat → Int32} {k : Nat} {x : Int32} (h : rl_S f) (hx : cy_S x) : rl_S (upd f k x) := by
  intro j
  rw [vp_nar_short]
  by_cases e : j = k
  · rw [e, rl_us]; exact hx
  · rw [rl_un e]; exact rl_Sv h j
variable {g_count g_place g_end g_size g_large g_ready g_depth g_groups g_atom g_atomSize g_length g_found : Int32} {b_kind b_value b_op b_with b_one b_two b_copyOp b_copyWith b_copyOne b_copyTwo b_opened b_branch b_sizes b_jumps b_groupOf b_text : Nat → Int32} {b_met : Nat → Int64} {b_todo b_notes : Nat → Int32}
theorem cy_emit {post : SY → Prop} {en : Nat} {p0 p1 p2 p3 : Int32} (he : en < 160) (b0 : cy_B p0) (b1 : cy_B p1) (s2 : cy_S p2) (s3 : cy_S p3)
    (h : post (g_count, g_place, nI (en + 1), g_size, 0, g_ready, g_depth, g_groups, g_atom, g_atomSize, g_length, g_found, b_kind, b_value, upd b_op en p0, upd b_with en p1, upd b_one en p2, upd b_two en p3, b_copyOp, b_copyWith, b_copyOne, b_copyTwo, b_opened, b_branch, b_sizes, b_jumps, b_groupOf, b_text, b_met, b_todo, b_notes)) : wpY_emit post (g_count, g_place, nI en, g_size, 0, g_ready, g_depth, g_groups, g_atom, g_atomSize, g_length, g_found, b_kind, b_value, b_op, b_with, b_one, b_two, b_copyOp, b_copyWith, b_copyOne, b_copyTwo, b_opened, b_branch, b_sizes, b_jumps, b_groupOf, b_text, b_met, b_todo, b_notes) p0 p1 p2 p3 := by
  have hv : vp_in (nI en) 160 := vp_in_nI he (by omega)
  have ec : (nI en).toNatClampNeg = en := nI_clamp (by omega)
  exact br_t rfl ⟨hv, nm_r (by rw [ec, cy_nB b0]) ⟨hv, nm_r (by rw [ec, cy_nB b1]) ⟨hv, nm_r (by rw [ec, cy_nS s2]) (nm_r (nI_1 en) ⟨hv, nm_r (by rw [ec, cy_nS s3]) h⟩)⟩⟩⟩
theorem cy_emit1 {post : SY → Prop} {p0 p1 p2 p3 : Int32} (h : post (g_count, g_place, g_end, g_size, 1, g_ready, g_depth, g_groups, g_atom, g_atomSize, g_length, g_found, b_kind, b_value, b_op, b_with, b_one, b_two, b_copyOp, b_copyWith, b_copyOne, b_copyTwo, b_opened, b_branch, b_sizes, b_jumps, b_groupOf, b_text, b_met, b_todo, b_notes)) : wpY_emit post (g_count, g_place, g_end, g_size, 1, g_ready, g_depth, g_groups, g_atom, g_atomSize, g_length, g_found, b_kind, b_value, b_op, b_with, b_one, b_two, b_copyOp, b_copyWith, b_copyOne, b_copyTwo, b_opened, b_branch, b_sizes, b_jumps, b_groupOf, b_text, b_met, b_todo, b_notes) p0 p1 p2 p3 := br_f (by decide) h
theorem cy_grow {post : SY → Prop} {sz k : Nat} (hs : sz + k < 2 ^ 31) (h : post (g_count, g_place, g_end, nI (sz + k), cq_la (sz + k), g_ready, g_depth, g_groups, g_atom, g_atomSize, g_length, g_found, b_kind, b_value, b_op, b_with, b_one, b_two, b_copyOp, b_copyWith, b_copyOne, b_copyTwo, b_opened, b_branch, b_sizes, b_jumps, b_groupOf, b_text, b_met, b_todo, b_notes)) : wpY_grow post (g_count, g_place, g_end, nI sz, cq_la sz, g_ready, g_depth, g_groups, g_atom, g_atomSize, g_length, g_found, b_kind, b_value, b_op, b_with, b_one, b_two, b_copyOp, b_copyWith, b_copyOne, b_copyTwo, b_opened, b_branch, b_sizes, b_jumps, b_groupOf, b_text, b_met, b_todo, b_notes) (nI k) := by
  refine nm_r (nI_add sz k) ?_
  by_cases e : sz + k ≤ 36
  · rw [cq_la0 e] at h
    rw [cq_la0 (show sz ≤ 36 by omega)]
    exact br_t (nI_le (b := 36) e (by omega)) h
  · rw [cq_la1 (show 36 < sz + k by omega)] at h
    exact br_f (nI_ge (a := 36) (by omega) hs) h
theorem cy_grow1 {post : SY → Prop} {k : Int32} (h : post (g_count, g_place, g_end, g_size + k, 1, g_ready, g_depth, g_groups, g_atom, g_atomSize, g_length, g_found, b_kind, b_value, b_op, b_with, b_one, b_two, b_copyOp, b_copyWith, b_copyOne, b_copyTwo, b_opened, b_branch, b_sizes, b_jumps, b_groupOf, b_text, b_met, b_todo, b_notes)) : wpY_grow post (g_count, g_place, g_end, g_size, 1, g_ready, g_depth, g_groups, g_atom, g_atomSize, g_length, g_found, b_kind, b_value, b_op, b_with, b_one, b_two, b_copyOp, b_copyWith, b_copyOne, b_copyTwo, b_opened, b_branch, b_sizes, b_jumps, b_groupOf, b_text, b_met, b_todo, b_notes) k :=
  nm_e (br_c (fun _ => h) (fun _ => h))
theorem cy_singleC {post : Int32 → SY → Prop} {en sz : Nat} {p0 p1 : Int32} (he : en < 160) (hs : sz + 1 ≤ 36) (b0 : cy_B p0) (b1 : cy_B p1)
    (h : post 1 (g_count, g_place, nI (en + 1), nI (sz + 1), 0, g_ready, g_depth, g_groups, nI en, 1, g_length, g_found, b_kind, b_value, upd b_op en p0, upd b_with en p1, upd b_one en 1, upd b_two en 0, b_copyOp, b_copyWith, b_copyOne, b_copyTwo, b_opened, b_branch, b_sizes, b_jumps, b_groupOf, b_text, b_met, b_todo, b_notes)) : wpY_single post (g_count, g_place, nI en, nI sz, cq_la sz, g_ready, g_depth, g_groups, g_atom, g_atomSize, g_length, g_found, b_kind, b_value, b_op, b_with, b_one, b_two, b_copyOp, b_copyWith, b_copyOne, b_copyTwo, b_opened, b_branch, b_sizes, b_jumps, b_groupOf, b_text, b_met, b_todo, b_notes) p0 p1 := by
  unfold wpY_single
  refine cy_grow (sz := sz) (k := 1) (by omega) ?_
  rw [cq_la0 hs]
  exact cy_emit he b0 b1 (cy_Sn (n := 1) (by omega)) (cy_Sn (n := 0) (by omega)) h
theorem cy_singleL {post : Int32 → SY → Prop} {sz : Nat} {p0 p1 : Int32} (hs : 36 < sz + 1) (hs2 : sz < 1000)
    (h : post 1 (g_count, g_place, g_end, nI (sz + 1), 1, g_ready, g_depth, g_groups, g_end, 1, g_length, g_found, b_kind, b_value, b_op, b_with, b_one, b_two, b_copyOp, b_copyWith, b_copyOne, b_copyTwo, b_opened, b_branch, b_sizes, b_jumps, b_groupOf, b_text, b_met, b_todo, b_notes)) : wpY_single post (g_count, g_place, g_end, nI sz, cq_la sz, g_ready, g_depth, g_groups, g_atom, g_atomSize, g_length, g_found, b_kind, b_value, b_op, b_with, b_one, b_two, b_copyOp, b_copyWith, b_copyOne, b_copyTwo, b_opened, b_branch, b_sizes, b_jumps, b_groupOf, b_text, b_met, b_todo, b_notes) p0 p1 := by
  unfold wpY_single
  refine cy_grow (sz := sz) (k := 1) (by omega) ?_
  rw [cq_la1 hs]
  exact cy_emit1 h
theorem cy_single1 {post : Int32 → SY → Prop} {p0 p1 : Int32} (h : post 1 (g_count, g_place, g_end, g_size + 1, 1, g_ready, g_depth, g_groups, g_end, 1, g_length, g_found, b_kind, b_value, b_op, b_with, b_one, b_two, b_copyOp, b_copyWith, b_copyOne, b_copyTwo, b_opened, b_branch, b_sizes, b_jumps, b_groupOf, b_text, b_met, b_todo, b_notes)) : wpY_single post (g_count, g_place, g_end, g_size, 1, g_ready, g_depth, g_groups, g_atom, g_atomSize, g_length, g_found, b_kind, b_value, b_op, b_with, b_one, b_two, b_copyOp, b_copyWith, b_copyOne, b_copyTwo, b_opened, b_branch, b_sizes, b_jumps, b_groupOf, b_text, b_met, b_todo, b_notes) p0 p1 := by
  unfold wpY_single
  refine cy_grow1 ?_
  exact cy_emit1 h
/-- a plain bracket -/
theorem cy_open0 {post : SY → Prop} {en dp : Nat} (he : en < 1000) (hd : dp < 25)
    (h : post (g_count, g_place, nI en, g_size, g_large, g_ready, nI (dp + 1), g_groups, (-1), g_atomSize, g_length, g_found, b_kind, b_value, b_op, b_with, b_one, b_two, b_copyOp, b_copyWith, b_copyOne, b_copyTwo, upd b_opened dp (nI en), upd b_branch dp (nI en), upd b_sizes dp (vp_nar .short g_size.toInt16.toInt32), upd b_jumps dp (-1), upd b_groupOf dp (nI 0), b_text, b_met, b_todo, b_notes)) : wpY_open post (g_count, g_place, nI en, g_size, g_large, g_ready, nI dp, g_groups, g_atom, g_atomSize, g_length, g_found, b_kind, b_value, b_op, b_with, b_one, b_two, b_copyOp, b_copyWith, b_copyOne, b_copyTwo, b_opened, b_branch, b_sizes, b_jumps, b_groupOf, b_text, b_met, b_todo, b_notes) (nI 0) := by
  have hv : vp_in (nI dp) 25 := vp_in_nI hd (by omega)
  have ec : (nI dp).toNatClampNeg = dp := nI_clamp (by omega)
  have m1 : vp_nar .short (-1) = -1 := by rw [vp_nar_short]; decide
  refine ⟨hv, nm_r (by rw [ec, cy_nS (cy_Sn (show en < 32768 by omega))]) ⟨hv, nm_r (by rw [ec]) ⟨hv, nm_r (by rw [ec, cy_nB (cy_Bn (show 0 < 128 by omega))]) ⟨hv, nm_r (by rw [ec, m1]) (br_t (by decide) (nm_r (nI_1 dp) ⟨hv, nm_r (by rw [ec, cy_nS (cy_Sn (show en < 32768 by omega))]) h⟩))⟩⟩⟩⟩
/-- a group -/
theorem cy_openC {post : SY → Prop} {en dp sz g : Nat} (he : en < 160) (hd : dp < 25) (hg : 1 ≤ g) (hg3 : g ≤ 3) (hs : sz + 2 ≤ 36)
    (h : post (g_count, g_place, nI (en + 1), nI (sz + 2), 0, g_ready, nI (dp + 1), g_groups, (-1), g_atomSize, g_length, g_found, b_kind, b_value, upd b_op en 5, upd b_with en (nI (2 * g)), upd b_one en 1, upd b_two en 0, b_copyOp, b_copyWith, b_copyOne, b_copyTwo, upd b_opened dp (nI en), upd b_branch dp (nI (en + 1)), upd b_sizes dp (nI sz), upd b_jumps dp (-1), upd b_groupOf dp (nI g), b_text, b_met, b_todo, b_notes)) : wpY_open post (g_count, g_place, nI en, nI sz, cq_la sz, g_ready, nI dp, g_groups, g_atom, g_atomSize, g_length, g_found, b_kind, b_value, b_op, b_with, b_one, b_two, b_copyOp, b_copyWith, b_copyOne, b_copyTwo, b_opened, b_branch, b_sizes, b_jumps, b_groupOf, b_text, b_met, b_todo, b_notes) (nI g) := by
  have hv : vp_in (nI dp) 25 := vp_in_nI hd (by omega)
  have ec : (nI dp).toNatClampNeg = dp := nI_clamp (by omega)
  have m1 : vp_nar .short (-1) = -1 := by rw [vp_nar_short]; decide
  refine ⟨hv, nm_r (by rw [ec, cy_nS (cy_Sn (show en < 32768 by omega))]) ⟨hv, nm_r (by rw [ec, cy_nS (cy_Sn (show sz < 32768 by omega))]) ⟨hv, nm_r (by rw [ec, cy_nB (cy_Bn (show g < 128 by omega))]) ⟨hv, nm_r (by rw [ec, m1]) (br_f (nI_nle (by omega) (by omega)) ?_)⟩⟩⟩⟩
  refine cy_grow (k := 2) (by omega) ?_
  rw [cq_la0 hs, show 2 * nI g = nI (2 * g) from pk_mul 2 g]
  refine cy_emit he (cy_Bn (n := 5) (by omega)) (cy_Bn (by omega)) (cy_Sn (n := 1) (by omega)) (cy_Sn (n := 0) (by omega)) ?_
  exact nm_r (nI_1 dp) ⟨hv, nm_r (by rw [ec, cy_nS (cy_Sn (show en + 1 < 32768 by omega))]) h⟩
theorem cy_openL {post : SY → Prop} {en dp sz g : Nat} (he : en < 1000) (hd : dp < 25) (hg : 1 ≤ g) (hg3 : g ≤ 3) (hs : 36 < sz + 2) (hs2 : sz < 1000)
    (h : post (g_count, g_place, nI en, nI (sz + 2), 1, g_ready, nI (dp + 1), g_groups, (-1), g_atomSize, g_length, g_found, b_kind, b_value, b_op, b_with, b_one, b_two, b_copyOp, b_copyWith, b_copyOne, b_copyTwo, upd b_opened dp (nI en), upd b_branch dp (nI en), upd b_sizes dp (nI sz), upd b_jumps dp (-1), upd b_groupOf dp (nI g), b_text, b_met, b_todo, b_notes)) : wpY_open post (g_count, g_place, nI en, nI sz, cq_la sz, g_ready, nI dp, g_groups, g_atom, g_atomSize, g_length, g_found, b_kind, b_value, b_op, b_with, b_one, b_two, b_copyOp, b_copyWith, b_copyOne, b_copyTwo, b_opened, b_branch, b_sizes, b_jumps, b_groupOf, b_text, b_met, b_todo, b_notes) (nI g) := by
  have hv : vp_in (nI dp) 25 := vp_in_nI hd (by omega)
  have ec : (nI dp).toNatClampNeg = dp := nI_clamp (by omega)
  have m1 : vp_nar .short (-1) = -1 := by rw [vp_nar_short]; decide
  refine ⟨hv, nm_r (by rw [ec, cy_nS (cy_Sn (show en < 32768 by omega))]) ⟨hv, nm_r (by rw [ec, cy_nS (cy_Sn (show sz < 32768 by omega))]) ⟨hv, nm_r (by rw [ec, cy_nB (cy_Bn (show g < 128 by omega))]) ⟨hv, nm_r (by rw [ec, m1]) (br_f (nI_nle (by omega) (by omega)) ?_)⟩⟩⟩⟩
  refine cy_grow (k := 2) (by omega) ?_
  rw [cq_la1 hs]
  refine cy_emit1 ?_
  exact nm_r (nI_1 dp) ⟨hv, nm_r (by rw [ec, cy_nS (cy_Sn (show en < 32768 by omega))]) h⟩
theorem cy_open1 {post : SY → Prop} {en dp g : Nat} (he : en < 1000) (hd : dp < 25) (hg : 1 ≤ g) (hg3 : g ≤ 3)
    (h : post (g_count, g_place, nI en, g_size + 2, 1, g_ready, nI (dp + 1), g_groups, (-1), g_atomSize, g_length, g_found, b_kind, b_value, b_op, b_with, b_one, b_two, b_copyOp, b_copyWith, b_copyOne, b_copyTwo, upd b_opened dp (nI en), upd b_branch dp (nI en), upd b_sizes dp (vp_nar .short g_size.toInt16.toInt32), upd b_jumps dp (-1), upd b_groupOf dp (nI g), b_text, b_met, b_todo, b_notes)) : wpY_open post (g_count, g_place, nI en, g_size, 1, g_ready, nI dp, g_groups, g_atom, g_atomSize, g_length, g_found, b_kind, b_value, b_op, b_with, b_one, b_two, b_copyOp, b_copyWith, b_copyOne, b_copyTwo, b_opened, b_branch, b_sizes, b_jumps, b_groupOf, b_text, b_met, b_todo, b_notes) (nI g) := by
  have hv : vp_in (nI dp) 25 := vp_in_nI hd (by omega)
  have ec : (nI dp).toNatClampNeg = dp := nI_clamp (by omega)
  have m1 : vp_nar .short (-1) = -1 := by rw [vp_nar_short]; decide
  refine ⟨hv, nm_r (by rw [ec, cy_nS (cy_Sn (show en < 32768 by omega))]) ⟨hv, nm_r (by rw [ec]) ⟨hv, nm_r (by rw [ec, cy_nB (cy_Bn (show g < 128 by omega))]) ⟨hv, nm_r (by rw [ec, m1]) (br_f (nI_nle (by omega) (by omega)) ?_)⟩⟩⟩⟩
  refine cy_grow1 ?_
  refine cy_emit1 ?_
  exact nm_r (nI_1 dp) ⟨hv, nm_r (by rw [ec, cy_nS (cy_Sn (show en < 32768 by omega))]) h⟩
end YB
