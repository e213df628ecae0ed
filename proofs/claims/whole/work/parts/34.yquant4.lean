section YT
/-- the numbers of a quantifier: at least, optional, star -/
def yq_K (kk : Nat) (v : Int32) (least opt st : Nat) : Prop :=
  (kk = 7 ∧ least = 0 ∧ opt = 0 ∧ st = 1) ∨ (kk = 8 ∧ least = 1 ∧ opt = 0 ∧ st = 1) ∨ (kk = 9 ∧ least = 0 ∧ opt = 1 ∧ st = 0) ∨ (kk = 10 ∧ least = 0 ∧ opt = 0 ∧ st = 1) ∨ (kk = 11 ∧ least = 1 ∧ opt = 0 ∧ st = 1) ∨ (kk = 12 ∧ least = 0 ∧ opt = 1 ∧ st = 0) ∨ (kk = 14 ∧ st = 0 ∧ least ≤ 4 ∧ 1 ≤ least + opt ∧ least + opt ≤ 4 ∧ v = nI (8 * least + (least + opt)))
theorem yq_K_b {kk : Nat} {v : Int32} {least opt st : Nat} (h : yq_K kk v least opt st) : kk ≤ 15 ∧ least ≤ 4 ∧ opt ≤ 4 ∧ st ≤ 1 ∧ 1 ≤ least + opt + st := by
  unfold yq_K at h; omega
theorem yq_14 {least opt : Nat} (h1 : 1 ≤ least + opt) (h2 : least + opt ≤ 4) : nI (8 * least + (least + opt)) / 8 = nI least ∧ (nI (8 * least + (least + opt)) - nI (8 * least + (least + opt)) / 8 * 8) - nI least = nI opt := by
  have e1 : nI (8 * least + (least + opt)) / 8 = nI least := by
    rw [show (8 : Int32) = nI 8 from rfl, pk_div (by omega) (by omega) (by omega)]
    congr 1; omega
  have e2 : nI (8 * least + (least + opt)) - nI (8 * least + (least + opt)) / 8 * 8 = nI (least + opt) := by
    rw [show (8 : Int32) = nI 8 from rfl, pk_rem (by omega) (by omega) (by omega)]
    congr 1; omega
  refine ⟨e1, ?_⟩
  rw [e2, pk_sub (by omega)]
  congr 1; omega
variable {g_count g_place g_end g_size g_large g_ready g_depth g_groups g_atom g_atomSize g_length g_found : Int32} {b_kind b_value b_op b_with b_one b_two b_copyOp b_copyWith b_copyOne b_copyTwo b_opened b_branch b_sizes b_jumps b_groupOf b_text : Nat → Int32} {b_met : Nat → Int64} {b_todo b_notes : Nat → Int32}
theorem cy_disp {post : SY → Prop} {kk least opt st : Nat} {v : Int32} (hK : yq_K kk v least opt st) (h : wY_quantify_94 post (nI kk) (nI least) (nI opt) (nI st) g_count g_place g_end g_size g_large g_ready g_depth g_groups g_atom g_atomSize g_length g_found b_kind b_value b_op b_with b_one b_two b_copyOp b_copyWith b_copyOne b_copyTwo b_opened b_branch b_sizes b_jumps b_groupOf b_text b_met b_todo b_notes) : wpY_quantify post (g_count, g_place, g_end, g_size, g_large, g_ready, g_depth, g_groups, g_atom, g_atomSize, g_length, g_found, b_kind, b_value, b_op, b_with, b_one, b_two, b_copyOp, b_copyWith, b_copyOne, b_copyTwo, b_opened, b_branch, b_sizes, b_jumps, b_groupOf, b_text, b_met, b_todo, b_notes) (nI kk) v := by
  rcases hK with ⟨rfl, rfl, rfl, rfl⟩ | ⟨rfl, rfl, rfl, rfl⟩ | ⟨rfl, rfl, rfl, rfl⟩ | ⟨rfl, rfl, rfl, rfl⟩ | ⟨rfl, rfl, rfl, rfl⟩ | ⟨rfl, rfl, rfl, rfl⟩ | ⟨rfl, rfl, h1, h2, h3, rfl⟩
  · exact br_f (by decide) (br_f (by decide) (br_f (by decide) (br_f (by decide) (br_f (by decide) (br_f (by decide) (br_t rfl h))))))
  · exact br_t rfl (br_f (by decide) (br_f (by decide) (br_f (by decide) (br_f (by decide) (br_t rfl h)))))
  · exact br_f (by decide) (br_f (by decide) (br_f (by decide) (br_t rfl (br_f (by decide) (br_f (by decide) (br_f (by decide) (br_f (by decide) h)))))))
  · exact br_f (by decide) (br_f (by decide) (br_f (by decide) (br_f (by decide) (br_f (by decide) (br_f (by decide) (br_f (by decide) (br_f (by decide) (br_t rfl h))))))))
  · exact br_f (by decide) (br_t rfl (br_f (by decide) (br_f (by decide) (br_f (by decide) (br_f (by decide) (br_f (by decide) (br_f (by decide) (br_t rfl h))))))))
  · exact br_f (by decide) (br_f (by decide) (br_f (by decide) (br_f (by decide) (br_t rfl (br_f (by decide) (br_f (by decide) (br_f (by decide) (br_f (by decide) h))))))))
  · obtain ⟨e1, e2⟩ := yq_14 h2 h3
    refine br_f (by decide) (br_f (by decide) (br_t rfl ⟨by decide, br_f (by decide) (br_f (by decide) (br_t rfl ⟨by decide, ?_⟩))⟩))
    rw [e1] at e2
    rw [e1, e2]
    exact br_f (by decide) (br_f (by decide) (br_f (by decide) (br_f (by decide) h)))
/-- the sum of pieces that a quantifier adds -/
def yq_P (least opt st A : Nat) : Nat := (least + opt + st) * A + opt + st - A
theorem yq_P_le {least opt st A : Nat} (h : 1 ≤ least + opt + st) : A ≤ (least + opt + st) * A + opt + st := by
  have : 1 * A ≤ (least + opt + st) * A := Nat.mul_le_mul_right A h
  omega
theorem cy_94 {post : SY → Prop} {kk least opt st A : Nat} (hst : st ≤ 1) (hc : 1 ≤ least + opt + st)
    (h : ∀ z0 z1 : Int32, z1 + z0 - nI A = nI (yq_P least opt st A) → wY_quantify_133 post (nI kk) (nI least) (nI opt) (nI st) z0 z1 g_count g_place g_end g_size g_large g_ready g_depth g_groups g_atom (nI A) g_length g_found b_kind b_value b_op b_with b_one b_two b_copyOp b_copyWith b_copyOne b_copyTwo b_opened b_branch b_sizes b_jumps b_groupOf b_text b_met b_todo b_notes) : wY_quantify_94 post (nI kk) (nI least) (nI opt) (nI st) g_count g_place g_end g_size g_large g_ready g_depth g_groups g_atom (nI A) g_length g_found b_kind b_value b_op b_with b_one b_two b_copyOp b_copyWith b_copyOne b_copyTwo b_opened b_branch b_sizes b_jumps b_groupOf b_text b_met b_todo b_notes := by
  have hle := yq_P_le (A := A) hc
  have hst01 : st = 0 ∨ st = 1 := by omega
  rcases hst01 with rfl | rfl
  · refine br_t rfl (nm_r (e' := nI (least + opt + 0)) ?_ (br_t rfl ?_))
    · rw [nI_add]; exact Int32.add_zero _
    · refine h _ _ ?_
      rw [pk_mul, nI_add]
      unfold yq_P
      rw [← pk_sub hle]
      congr 1
      exact Int32.add_zero _
  · refine br_f (by decide) (nm_r (e' := nI (least + opt + 1)) ?_ (br_f (by decide) ?_))
    · rw [nI_add]; exact nI_1 _
    · refine h _ _ ?_
      rw [pk_mul, nI_add, nI_1]
      unfold yq_P
      rw [← pk_sub hle]
theorem cy_quantC {kk o n least opt st A sz : Nat} {v : Int32} (hK : yq_K kk v least opt st) (hs : sz + yq_P least opt st A ≤ 36) (hon : o + n ≤ 160) (hn : qf_at o n least (least + opt) + st * (n + 2) ≤ 160) (B1 : rl_B b_op) (B2 : rl_B b_with) (S1 : rl_S b_one) (S2 : rl_S b_two) :
    ∃ (O W F G c1 c2 c3 c4 : Nat → Int32), rl_B O ∧ rl_B W ∧ rl_S F ∧ rl_S G ∧ yq_R kk o n least opt st (fg_q b_op b_with b_one b_two) (fg_q O W F G) ∧
      (∀ post : SY → Prop, post (g_count, g_place, nI (qf_at o n least (least + opt) + st * (n + 2)), nI (sz + yq_P least opt st A), 0, g_ready, g_depth, g_groups, nI o, nI A, g_length, g_found, b_kind, b_value, O, W, F, G, c1, c2, c3, c4, b_opened, b_branch, b_sizes, b_jumps, b_groupOf, b_text, b_met, b_todo, b_notes) → wpY_quantify post (g_count, g_place, nI (o + n), nI sz, cq_la sz, g_ready, g_depth, g_groups, nI o, nI A, g_length, g_found, b_kind, b_value, b_op, b_with, b_one, b_two, b_copyOp, b_copyWith, b_copyOne, b_copyTwo, b_opened, b_branch, b_sizes, b_jumps, b_groupOf, b_text, b_met, b_todo, b_notes) (nI kk) v) := by
  obtain ⟨k1, k2, k3, k4, k5⟩ := yq_K_b hK
  obtain ⟨O, W, F, G, a1, a2, a3, a4, a5, a6⟩ := cy_q269C (g_count := g_count) (g_place := g_place) (g_size := nI (sz + yq_P least opt st A)) (g_ready := g_ready) (g_depth := g_depth) (g_groups := g_groups) (g_atom := nI o) (g_atomSize := nI A) (g_length := g_length) (g_found := g_found) (b_kind := b_kind) (b_value := b_value) (b_op := b_op) (b_with := b_with) (b_one := b_one) (b_two := b_two) (b_copyOp := b_copyOp) (b_copyWith := b_copyWith) (b_copyOne := b_copyOne) (b_copyTwo := b_copyTwo) (b_opened := b_opened) (b_branch := b_branch) (b_sizes := b_sizes) (b_jumps := b_jumps) (b_groupOf := b_groupOf) (b_text := b_text) (b_met := b_met) (b_todo := b_todo) (b_notes := b_notes) (kk := kk) (o := o) (n := n) (least := least) (opt := opt) (st := st) k1 k2 k3 k4 hon hn B1 B2 S1 S2
  refine ⟨O, W, F, G, cy_cc b_copyOp b_op o n, cy_cc b_copyWith b_with o n, cy_cc b_copyOne b_one o n, cy_cc b_copyTwo b_two o n, a1, a2, a3, a4, a5, fun post h => cy_disp hK (cy_94 k4 k5 (fun z0 z1 hz => nm_r hz ?_))⟩
  refine cy_grow (sz := sz) (k := yq_P least opt st A) (by omega) ?_
  rw [cq_la0 hs]
  refine br_t rfl (nm_r (e' := nI n) (by rw [pk_sub (by omega)]; congr 1; omega) ⟨n + 1, ?_⟩)
  have T := cy_q169 (x1 := nI kk) (x3 := nI least) (x4 := nI opt) (x5 := nI st) (g_count := g_count) (g_place := g_place) (g_end := nI (o + n)) (g_size := nI (sz + yq_P least opt st A)) (g_large := 0) (g_ready := g_ready) (g_depth := g_depth) (g_groups := g_groups) (g_atomSize := nI A) (g_length := g_length) (g_found := g_found) (b_kind := b_kind) (b_value := b_value) (b_op := b_op) (b_with := b_with) (b_one := b_one) (b_two := b_two) (b_copyOp := b_copyOp) (b_copyWith := b_copyWith) (b_copyOne := b_copyOne) (b_copyTwo := b_copyTwo) (b_opened := b_opened) (b_branch := b_branch) (b_sizes := b_sizes) (b_jumps := b_jumps) (b_groupOf := b_groupOf) (b_text := b_text) (b_met := b_met) (b_todo := b_todo) (b_notes := b_notes) hon B1 B2 S1 S2 (a6 post h) n 0 (by omega)
  rw [cy_cc_0, cy_cc_0, cy_cc_0, cy_cc_0] at T
  exact T
theorem cy_quantL {post : SY → Prop} {kk least opt st A sz : Nat} {v : Int32} (hK : yq_K kk v least opt st) (hs : 36 < sz + yq_P least opt st A) (hs2 : sz + yq_P least opt st A < 2 ^ 31)
    (h : post (g_count, g_place, g_end, nI (sz + yq_P least opt st A), 1, g_ready, g_depth, g_groups, g_atom, nI A, g_length, g_found, b_kind, b_value, b_op, b_with, b_one, b_two, b_copyOp, b_copyWith, b_copyOne, b_copyTwo, b_opened, b_branch, b_sizes, b_jumps, b_groupOf, b_text, b_met, b_todo, b_notes)) : wpY_quantify post (g_count, g_place, g_end, nI sz, cq_la sz, g_ready, g_depth, g_groups, g_atom, nI A, g_length, g_found, b_kind, b_value, b_op, b_with, b_one, b_two, b_copyOp, b_copyWith, b_copyOne, b_copyTwo, b_opened, b_branch, b_sizes, b_jumps, b_groupOf, b_text, b_met, b_todo, b_notes) (nI kk) v := by
  obtain ⟨k1, k2, k3, k4, k5⟩ := yq_K_b hK
  refine cy_disp hK (cy_94 k4 k5 (fun z0 z1 hz => nm_r hz ?_))
  refine cy_grow (sz := sz) (k := yq_P least opt st A) hs2 ?_
  rw [cq_la1 hs]
  exact br_f (by decide) h
theorem cy_q133_1 {post : SY → Prop} {x1 x3 x4 x5 z0 z1 : Int32} (h : ∀ s, post (g_count, g_place, g_end, s, 1, g_ready, g_depth, g_groups, g_atom, g_atomSize, g_length, g_found, b_kind, b_value, b_op, b_with, b_one, b_two, b_copyOp, b_copyWith, b_copyOne, b_copyTwo, b_opened, b_branch, b_sizes, b_jumps, b_groupOf, b_text, b_met, b_todo, b_notes)) : wY_quantify_133 post x1 x3 x4 x5 z0 z1 g_count g_place g_end g_size 1 g_ready g_depth g_groups g_atom g_atomSize g_length g_found b_kind b_value b_op b_with b_one b_two b_copyOp b_copyWith b_copyOne b_copyTwo b_opened b_branch b_sizes b_jumps b_groupOf b_text b_met b_todo b_notes := by
  refine nm_e ?_
  refine cy_grow1 ?_
  exact br_f (by decide) (h _)
theorem cy_q94_1 {post : SY → Prop} {x1 x3 x4 z0 : Int32} (h : ∀ s, post (g_count, g_place, g_end, s, 1, g_ready, g_depth, g_groups, g_atom, g_atomSize, g_length, g_found, b_kind, b_value, b_op, b_with, b_one, b_two, b_copyOp, b_copyWith, b_copyOne, b_copyTwo, b_opened, b_branch, b_sizes, b_jumps, b_groupOf, b_text, b_met, b_todo, b_notes)) : wY_quantify_94 post x1 x3 x4 z0 g_count g_place g_end g_size 1 g_ready g_depth g_groups g_atom g_atomSize g_length g_found b_kind b_value b_op b_with b_one b_two b_copyOp b_copyWith b_copyOne b_copyTwo b_opened b_branch b_sizes b_jumps b_groupOf b_text b_met b_todo b_notes :=
  br_c (fun _ => nm_e (br_c (fun _ => cy_q133_1 h) (fun _ => cy_q133_1 h))) (fun _ => nm_e (br_c (fun _ => cy_q133_1 h) (fun _ => cy_q133_1 h)))
theorem cy_q63_1 {post : SY → Prop} {x1 x3 z0 : Int32} (h : ∀ s, post (g_count, g_place, g_end, s, 1, g_ready, g_depth, g_groups, g_atom, g_atomSize, g_length, g_found, b_kind, b_value, b_op, b_with, b_one, b_two, b_copyOp, b_copyWith, b_copyOne, b_copyTwo, b_opened, b_branch, b_sizes, b_jumps, b_groupOf, b_text, b_met, b_todo, b_notes)) : wY_quantify_63 post x1 x3 z0 g_count g_place g_end g_size 1 g_ready g_depth g_groups g_atom g_atomSize g_length g_found b_kind b_value b_op b_with b_one b_two b_copyOp b_copyWith b_copyOne b_copyTwo b_opened b_branch b_sizes b_jumps b_groupOf b_text b_met b_todo b_notes :=
  br_c (fun _ => cy_q94_1 h) (fun _ => br_c (fun _ => cy_q94_1 h) (fun _ => br_c (fun _ => cy_q94_1 h) (fun _ => br_c (fun _ => cy_q94_1 h) (fun _ => cy_q94_1 h))))
theorem cy_q30_1 {post : SY → Prop} {x1 x2 z0 : Int32} (h : ∀ s, post (g_count, g_place, g_end, s, 1, g_ready, g_depth, g_groups, g_atom, g_atomSize, g_length, g_found, b_kind, b_value, b_op, b_with, b_one, b_two, b_copyOp, b_copyWith, b_copyOne, b_copyTwo, b_opened, b_branch, b_sizes, b_jumps, b_groupOf, b_text, b_met, b_todo, b_notes)) : wY_quantify_30 post x1 x2 z0 g_count g_place g_end g_size 1 g_ready g_depth g_groups g_atom g_atomSize g_length g_found b_kind b_value b_op b_with b_one b_two b_copyOp b_copyWith b_copyOne b_copyTwo b_opened b_branch b_sizes b_jumps b_groupOf b_text b_met b_todo b_notes :=
  br_c (fun _ => cy_q63_1 h) (fun _ => br_c (fun _ => cy_q63_1 h) (fun _ => br_c (fun _ => ⟨by decide, cy_q63_1 h⟩) (fun _ => cy_q63_1 h)))
theorem cy_quant1 {post : SY → Prop} {k v : Int32} (h : ∀ s, post (g_count, g_place, g_end, s, 1, g_ready, g_depth, g_groups, g_atom, g_atomSize, g_length, g_found, b_kind, b_value, b_op, b_with, b_one, b_two, b_copyOp, b_copyWith, b_copyOne, b_copyTwo, b_opened, b_branch, b_sizes, b_jumps, b_groupOf, b_text, b_met, b_todo, b_notes)) : wpY_quantify post (g_count, g_place, g_end, g_size, 1, g_ready, g_depth, g_groups, g_atom, g_atomSize, g_length, g_found, b_kind, b_value, b_op, b_with, b_one, b_two, b_copyOp, b_copyWith, b_copyOne, b_copyTwo, b_opened, b_branch, b_sizes, b_jumps, b_groupOf, b_text, b_met, b_todo, b_notes) k v :=
  br_c (fun _ => cy_q30_1 h) (fun _ => br_c (fun _ => cy_q30_1 h) (fun _ => br_c (fun _ => ⟨by decide, cy_q30_1 h⟩) (fun _ => cy_q30_1 h)))
end YT
