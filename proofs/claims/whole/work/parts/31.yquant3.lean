section YS
theorem qf_at_b (o n least i : Nat) : qf_at o n least (least + i) = o + least * n + i * (n + 1) := by
  unfold qf_at
  rw [Nat.add_mul, Nat.mul_add, Nat.mul_one, show least + i - least = i by omega]
  omega
theorem qf_at_s {o n least c : Nat} (h : c ≤ least) : qf_at o n least c = o + c * n := by
  unfold qf_at; omega
/-- what a quantifier leaves in the program -/
def yq_R (kk o n least opt st : Nat) (m m' : Nat → fg_I) : Prop :=
  (∀ p, p < o → m' p = m p) ∧
  (∀ c j, c < least + opt → j < n → m' (qf_ca o n least c + j) = m (o + j)) ∧
  (∀ c, c < least + opt → least ≤ c → ((kk = 12 ∧ qf_S m' (qf_at o n least c) (qf_at o n least (least + opt)) (qf_at o n least c + 1)) ∨ (¬ kk = 12 ∧ qf_S m' (qf_at o n least c) (qf_at o n least c + 1) (qf_at o n least (least + opt))))) ∧
  (st = 1 → (∀ j, j < n → m' (qf_at o n least (least + opt) + 1 + j) = m (o + j)) ∧
    ((kk ≤ 9 ∧ qf_S m' (qf_at o n least (least + opt)) (qf_at o n least (least + opt) + 1) (qf_at o n least (least + opt) + n + 2)) ∨ (9 < kk ∧ qf_S m' (qf_at o n least (least + opt)) (qf_at o n least (least + opt) + n + 2) (qf_at o n least (least + opt) + 1))) ∧
    qf_J m' (qf_at o n least (least + opt) + n + 1) (qf_at o n least (least + opt)))
theorem cy_jmp (e n : Nat) : nI (e + n + 1) + (-(nI n) - 1) = nI e := by
  rw [← nI_1, ← nI_add]; grind
variable {g_count g_place g_end g_size g_large g_ready g_depth g_groups g_atom g_atomSize g_length g_found : Int32} {b_kind b_value b_op b_with b_one b_two b_copyOp b_copyWith b_copyOne b_copyTwo b_opened b_branch b_sizes b_jumps b_groupOf b_text : Nat → Int32} {b_met : Nat → Int64} {b_todo b_notes : Nat → Int32}
theorem cy_q269C {kk o n least opt st : Nat} (hk : kk ≤ 15) (hl : least ≤ 4) (ho : opt ≤ 4) (hst : st ≤ 1) (hon : o + n ≤ 160) (hn : qf_at o n least (least + opt) + st * (n + 2) ≤ 160) (B1 : rl_B b_op) (B2 : rl_B b_with) (S1 : rl_S b_one) (S2 : rl_S b_two) :
    ∃ (O W F G : Nat → Int32), rl_B O ∧ rl_B W ∧ rl_S F ∧ rl_S G ∧ yq_R kk o n least opt st (fg_q b_op b_with b_one b_two) (fg_q O W F G) ∧
      (∀ post : SY → Prop, post (g_count, g_place, nI (qf_at o n least (least + opt) + st * (n + 2)), g_size, 0, g_ready, g_depth, g_groups, g_atom, g_atomSize, g_length, g_found, b_kind, b_value, O, W, F, G, cy_cc b_copyOp b_op o n, cy_cc b_copyWith b_with o n, cy_cc b_copyOne b_one o n, cy_cc b_copyTwo b_two o n, b_opened, b_branch, b_sizes, b_jumps, b_groupOf, b_text, b_met, b_todo, b_notes) →
        ∃ k, wY_quantify_269 post (nI kk) (nI least) (nI opt) (nI st) (nI n) k 0 g_count g_place (nI o) g_size 0 g_ready g_depth g_groups g_atom g_atomSize g_length g_found b_kind b_value b_op b_with b_one b_two (cy_cc b_copyOp b_op o n) (cy_cc b_copyWith b_with o n) (cy_cc b_copyOne b_one o n) (cy_cc b_copyTwo b_two o n) b_opened b_branch b_sizes b_jumps b_groupOf b_text b_met b_todo b_notes) := by
  have hE := qf_at_b o n least opt
  rw [hE] at hn ⊢
  have C1 : ∀ j, j < n → cy_B (cy_cc b_copyOp b_op o n j) := fun j hj => by rw [cy_cc_in hj]; exact rl_Bv B1 _
  have C2 : ∀ j, j < n → cy_B (cy_cc b_copyWith b_with o n j) := fun j hj => by rw [cy_cc_in hj]; exact rl_Bv B2 _
  have C3 : ∀ j, j < n → cy_S (cy_cc b_copyOne b_one o n j) := fun j hj => by rw [cy_cc_in hj]; exact rl_Sv S1 _
  have C4 : ∀ j, j < n → cy_S (cy_cc b_copyTwo b_two o n j) := fun j hj => by rw [cy_cc_in hj]; exact rl_Sv S2 _
  have cq : ∀ j, j < n → fg_q (cy_cc b_copyOp b_op o n) (cy_cc b_copyWith b_with o n) (cy_cc b_copyOne b_one o n) (cy_cc b_copyTwo b_two o n) j = fg_q b_op b_with b_one b_two (o + j) := fun j hj => by
    unfold fg_q; rw [cy_cc_in hj, cy_cc_in hj, cy_cc_in hj, cy_cc_in hj]
  obtain ⟨P1, P2⟩ := cy_p1_q (O := b_op) (W := b_with) (F := b_one) (G := b_two) (o := cy_cc b_copyOp b_op o n) (w := cy_cc b_copyWith b_with o n) (f := cy_cc b_copyOne b_one o n) (g := cy_cc b_copyTwo b_two o n) (s := o) (n := n) least
  obtain ⟨Q1, Q2, Q3⟩ := cy_p2_q (O := cy_p1 b_op (cy_cc b_copyOp b_op o n) o n least) (W := cy_p1 b_with (cy_cc b_copyWith b_with o n) o n least) (F := cy_p1 b_one (cy_cc b_copyOne b_one o n) o n least) (G := cy_p1 b_two (cy_cc b_copyTwo b_two o n) o n least) (o := cy_cc b_copyOp b_op o n) (w := cy_cc b_copyWith b_with o n) (f := cy_cc b_copyOne b_one o n) (g := cy_cc b_copyTwo b_two o n) (v0 := fun _ => 3) (v1 := fun _ => 0) (v2 := fun i => if kk = 12 then nI ((opt - i) * (n + 1)) else 1) (v3 := fun i => if kk = 12 then 1 else nI ((opt - i) * (n + 1))) (b := o + least * n) (n := n) opt
  have hz : ∀ i, i < opt → (opt - i) * (n + 1) < 32768 := fun i hi => by
    have : (opt - i) * (n + 1) ≤ opt * (n + 1) := Nat.mul_le_mul_right (n + 1) (by omega)
    omega
  have hv2 : ∀ i, i < opt → cy_S ((fun i => if kk = 12 then nI ((opt - i) * (n + 1)) else 1) i) := fun i hi => by
    dsimp only
    split
    · exact cy_Sn (hz i hi)
    · exact cy_Sn (n := 1) (by omega)
  have hv3 : ∀ i, i < opt → cy_S ((fun i => if kk = 12 then 1 else nI ((opt - i) * (n + 1))) i) := fun i hi => by
    dsimp only
    split
    · exact cy_Sn (n := 1) (by omega)
    · exact cy_Sn (hz i hi)
  have R1 := cy_p2_B (v := fun _ => 3) (b := o + least * n) (cy_p1_B (o := o) B1 C1 least) C1 (fun _ => cy_Bn (n := 3) (by omega)) opt
  have R2 := cy_p2_B (v := fun _ => 0) (b := o + least * n) (cy_p1_B (o := o) B2 C2 least) C2 (fun _ => cy_Bn (n := 0) (by omega)) opt
  have R3 := cy_p2_S (b := o + least * n) (cy_p1_S (o := o) S1 C3 least) C3 hv2 opt (Nat.le_refl _)
  have R4 := cy_p2_S (b := o + least * n) (cy_p1_S (o := o) S2 C4 least) C4 hv3 opt (Nat.le_refl _)
  -- the part without a star
  have low : ∀ p, p < o → fg_q (cy_p2 (cy_p1 b_op (cy_cc b_copyOp b_op o n) o n least) (cy_cc b_copyOp b_op o n) (fun _ => 3) (o + least * n) n opt) (cy_p2 (cy_p1 b_with (cy_cc b_copyWith b_with o n) o n least) (cy_cc b_copyWith b_with o n) (fun _ => 0) (o + least * n) n opt) (cy_p2 (cy_p1 b_one (cy_cc b_copyOne b_one o n) o n least) (cy_cc b_copyOne b_one o n) (fun i => if kk = 12 then nI ((opt - i) * (n + 1)) else 1) (o + least * n) n opt) (cy_p2 (cy_p1 b_two (cy_cc b_copyTwo b_two o n) o n least) (cy_cc b_copyTwo b_two o n) (fun i => if kk = 12 then 1 else nI ((opt - i) * (n + 1))) (o + least * n) n opt) p = fg_q b_op b_with b_one b_two p := fun p hp => by rw [Q1 p (by omega), P1 p hp]
  generalize hO : cy_p2 (cy_p1 b_op (cy_cc b_copyOp b_op o n) o n least) (cy_cc b_copyOp b_op o n) (fun _ => 3) (o + least * n) n opt = O at *
  generalize hW : cy_p2 (cy_p1 b_with (cy_cc b_copyWith b_with o n) o n least) (cy_cc b_copyWith b_with o n) (fun _ => 0) (o + least * n) n opt = W at *
  generalize hF : cy_p2 (cy_p1 b_one (cy_cc b_copyOne b_one o n) o n least) (cy_cc b_copyOne b_one o n) (fun i => if kk = 12 then nI ((opt - i) * (n + 1)) else 1) (o + least * n) n opt = F at *
  generalize hG : cy_p2 (cy_p1 b_two (cy_cc b_copyTwo b_two o n) o n least) (cy_cc b_copyTwo b_two o n) (fun i => if kk = 12 then 1 else nI ((opt - i) * (n + 1))) (o + least * n) n opt = G at *
  have A2 : ∀ c j, c < least + opt → j < n → fg_q O W F G (qf_ca o n least c + j) = fg_q b_op b_with b_one b_two (o + j) := by
    intro c j hc hj
    by_cases e : c < least
    · have e1 : qf_ca o n least c = o + c * n := by
        unfold qf_ca; rw [if_neg (by omega), qf_at_s (by omega), Nat.add_zero]
      have : (c + 1) * n ≤ least * n := Nat.mul_le_mul_right n (by omega)
      rw [Nat.succ_mul] at this
      rw [e1, Q1 _ (by omega), P2 c j e hj, cq j hj]
    · obtain ⟨i, rfl⟩ : ∃ i, c = least + i := ⟨c - least, by omega⟩
      have e1 : qf_ca o n least (least + i) = o + least * n + i * (n + 1) + 1 := by
        unfold qf_ca; rw [if_pos (by omega), qf_at_b]
      rw [e1, Q3 i j (by omega) hj, cq j hj]
  have A3 : ∀ c, c < least + opt → least ≤ c → ((kk = 12 ∧ qf_S (fg_q O W F G) (qf_at o n least c) (o + least * n + opt * (n + 1)) (qf_at o n least c + 1)) ∨ (¬ kk = 12 ∧ qf_S (fg_q O W F G) (qf_at o n least c) (qf_at o n least c + 1) (o + least * n + opt * (n + 1)))) := by
    intro c hc hlc
    obtain ⟨i, rfl⟩ : ∃ i, c = least + i := ⟨c - least, by omega⟩
    have hq := Q2 i (by omega)
    have hs : nI (o + least * n + i * (n + 1)) + nI ((opt - i) * (n + 1)) = nI (o + least * n + opt * (n + 1)) := by
      have : i * (n + 1) ≤ opt * (n + 1) := Nat.mul_le_mul_right (n + 1) (by omega)
      rw [nI_add, ← cy_z (by omega)]; congr 1; omega
    rw [qf_at_b]
    by_cases e : kk = 12
    · rw [if_pos e, if_pos e] at hq
      exact Or.inl ⟨e, by rw [hq], by rw [hq]; exact hs, by rw [hq]; exact nI_1 _⟩
    · rw [if_neg e, if_neg e] at hq
      exact Or.inr ⟨e, by rw [hq], by rw [hq]; exact nI_1 _, by rw [hq]; exact hs⟩
  have key : ∀ post : SY → Prop, (∀ k, wY_quantify_304 post (nI kk) (nI opt) (nI st) (nI n) (nI (o + least * n + opt * (n + 1))) (k + 1) (nI opt) g_count g_place (nI (o + least * n + opt * (n + 1))) g_size 0 g_ready g_depth g_groups g_atom g_atomSize g_length g_found b_kind b_value O W F G (cy_cc b_copyOp b_op o n) (cy_cc b_copyWith b_with o n) (cy_cc b_copyOne b_one o n) (cy_cc b_copyTwo b_two o n) b_opened b_branch b_sizes b_jumps b_groupOf b_text b_met b_todo b_notes) →
      ∃ k, wY_quantify_269 post (nI kk) (nI least) (nI opt) (nI st) (nI n) k 0 g_count g_place (nI o) g_size 0 g_ready g_depth g_groups g_atom g_atomSize g_length g_found b_kind b_value b_op b_with b_one b_two (cy_cc b_copyOp b_op o n) (cy_cc b_copyWith b_with o n) (cy_cc b_copyOne b_one o n) (cy_cc b_copyTwo b_two o n) b_opened b_branch b_sizes b_jumps b_groupOf b_text b_met b_todo b_notes := by
    intro post h
    have T := cy_q269 (post := post) (kk := kk) (o := o) (n := n) (least := least) (opt := opt) (x5 := nI st) (g_count := g_count) (g_place := g_place) (g_size := g_size) (g_ready := g_ready) (g_depth := g_depth) (g_groups := g_groups) (g_atom := g_atom) (g_atomSize := g_atomSize) (g_length := g_length) (g_found := g_found) (b_kind := b_kind) (b_value := b_value) (b_op := b_op) (b_with := b_with) (b_one := b_one) (b_two := b_two) (b_copyOp := cy_cc b_copyOp b_op o n) (b_copyWith := cy_cc b_copyWith b_with o n) (b_copyOne := cy_cc b_copyOne b_one o n) (b_copyTwo := cy_cc b_copyTwo b_two o n) (b_opened := b_opened) (b_branch := b_branch) (b_sizes := b_sizes) (b_jumps := b_jumps) (b_groupOf := b_groupOf) (b_text := b_text) (b_met := b_met) (b_todo := b_todo) (b_notes := b_notes) hk hl ho (by omega) C1 C2 C3 C4 ⟨opt + 1, by
      have U := cy_q304 (post := post) (kk := kk) (b := o + least * n) (n := n) (opt := opt) (x5 := nI st) (g_count := g_count) (g_place := g_place) (g_size := g_size) (g_ready := g_ready) (g_depth := g_depth) (g_groups := g_groups) (g_atom := g_atom) (g_atomSize := g_atomSize) (g_length := g_length) (g_found := g_found) (b_kind := b_kind) (b_value := b_value) (b_op := cy_p1 b_op (cy_cc b_copyOp b_op o n) o n least) (b_with := cy_p1 b_with (cy_cc b_copyWith b_with o n) o n least) (b_one := cy_p1 b_one (cy_cc b_copyOne b_one o n) o n least) (b_two := cy_p1 b_two (cy_cc b_copyTwo b_two o n) o n least) (b_copyOp := cy_cc b_copyOp b_op o n) (b_copyWith := cy_cc b_copyWith b_with o n) (b_copyOne := cy_cc b_copyOne b_one o n) (b_copyTwo := cy_cc b_copyTwo b_two o n) (b_opened := b_opened) (b_branch := b_branch) (b_sizes := b_sizes) (b_jumps := b_jumps) (b_groupOf := b_groupOf) (b_text := b_text) (b_met := b_met) (b_todo := b_todo) (b_notes := b_notes) hk ho (by omega) C1 C2 C3 C4 (by rw [hO, hW, hF, hG]; exact h) opt 0 (by omega)
      rw [Nat.zero_mul, Nat.add_zero] at U
      exact U⟩ least 0 (by omega)
    rw [Nat.zero_mul, Nat.add_zero] at T
    exact ⟨_, T⟩
  have hle : nI opt ≤ nI opt := nI_le (Nat.le_refl _) (by omega)
  have hst01 : st = 0 ∨ st = 1 := by omega
  rcases hst01 with rfl | rfl
  · refine ⟨O, W, F, G, R1, R2, R3, R4, ⟨low, A2, by rw [hE]; exact A3, fun h => by omega⟩, fun post h => key post (fun k => ?_)⟩
    rw [Nat.zero_mul, Nat.add_zero] at h
    exact br_t hle (br_t rfl h)
  · rw [Nat.one_mul] at hn
    have fin : ∀ (z1 z0 : Int32), cy_S z1 → cy_S z0 → ((kk ≤ 9 ∧ z1 = 1 ∧ z0 = nI (n + 2)) ∨ (9 < kk ∧ z1 = nI (n + 2) ∧ z0 = 1)) →
        ∃ (O W F G : Nat → Int32), rl_B O ∧ rl_B W ∧ rl_S F ∧ rl_S G ∧ yq_R kk o n least opt 1 (fg_q b_op b_with b_one b_two) (fg_q O W F G) ∧
          (∀ post : SY → Prop, post (g_count, g_place, nI (o + least * n + opt * (n + 1) + 1 * (n + 2)), g_size, 0, g_ready, g_depth, g_groups, g_atom, g_atomSize, g_length, g_found, b_kind, b_value, O, W, F, G, cy_cc b_copyOp b_op o n, cy_cc b_copyWith b_with o n, cy_cc b_copyOne b_one o n, cy_cc b_copyTwo b_two o n, b_opened, b_branch, b_sizes, b_jumps, b_groupOf, b_text, b_met, b_todo, b_notes) →
            ∃ k, wY_quantify_269 post (nI kk) (nI least) (nI opt) (nI 1) (nI n) k 0 g_count g_place (nI o) g_size 0 g_ready g_depth g_groups g_atom g_atomSize g_length g_found b_kind b_value b_op b_with b_one b_two (cy_cc b_copyOp b_op o n) (cy_cc b_copyWith b_with o n) (cy_cc b_copyOne b_one o n) (cy_cc b_copyTwo b_two o n) b_opened b_branch b_sizes b_jumps b_groupOf b_text b_met b_todo b_notes) := by
      intro z1 z0 hz1 hz0 hzz
      generalize hEE : o + least * n + opt * (n + 1) = E at *
      refine ⟨upd (cy_ps (upd O E 3) (cy_cc b_copyOp b_op o n) (E + 1) n) (E + n + 1) 4, upd (cy_ps (upd W E 0) (cy_cc b_copyWith b_with o n) (E + 1) n) (E + n + 1) 0, upd (cy_ps (upd F E z1) (cy_cc b_copyOne b_one o n) (E + 1) n) (E + n + 1) (-(nI n) - 1), upd (cy_ps (upd G E z0) (cy_cc b_copyTwo b_two o n) (E + 1) n) (E + n + 1) 0,
        rl_Bu (cy_ps_B (rl_Bu R1 (cy_Bn (n := 3) (by omega))) C1) (cy_Bn (n := 4) (by omega)), rl_Bu (cy_ps_B (rl_Bu R2 (cy_Bn (n := 0) (by omega))) C2) (cy_Bn (n := 0) (by omega)), rl_Su (cy_ps_S (rl_Su R3 hz1) C3) (cy_Sneg n (by omega)), rl_Su (cy_ps_S (rl_Su R4 hz0) C4) (cy_Sn (n := 0) (by omega)), ?_, ?_⟩
      · have lowE : ∀ p, p < E → fg_q (upd (cy_ps (upd O E 3) (cy_cc b_copyOp b_op o n) (E + 1) n) (E + n + 1) 4) (upd (cy_ps (upd W E 0) (cy_cc b_copyWith b_with o n) (E + 1) n) (E + n + 1) 0) (upd (cy_ps (upd F E z1) (cy_cc b_copyOne b_one o n) (E + 1) n) (E + n + 1) (-(nI n) - 1)) (upd (cy_ps (upd G E z0) (cy_cc b_copyTwo b_two o n) (E + 1) n) (E + n + 1) 0) p = fg_q O W F G p := fun p hp => by
          rw [fg_q_un (by omega), fg_q_pn (Or.inl (by omega)), fg_q_un (by omega)]
        have atE : fg_q (upd (cy_ps (upd O E 3) (cy_cc b_copyOp b_op o n) (E + 1) n) (E + n + 1) 4) (upd (cy_ps (upd W E 0) (cy_cc b_copyWith b_with o n) (E + 1) n) (E + n + 1) 0) (upd (cy_ps (upd F E z1) (cy_cc b_copyOne b_one o n) (E + 1) n) (E + n + 1) (-(nI n) - 1)) (upd (cy_ps (upd G E z0) (cy_cc b_copyTwo b_two o n) (E + 1) n) (E + n + 1) 0) E = (3, 0, z1, z0) := by
          rw [fg_q_un (by omega), fg_q_pn (Or.inl (by omega)), fg_q_us]
        have caE : ∀ c, c < least + opt → qf_ca o n least c + n ≤ E := fun c hc => by
          rw [qf_ca_n]
          have := qf_at_le o n least (show c + 1 ≤ least + opt by omega)
          omega
        have atl : ∀ c, c < least + opt → qf_at o n least c < E ∨ ¬ least ≤ c := fun c hc => by
          by_cases h : least ≤ c
          · left
            have := caE c hc
            unfold qf_ca at this
            rw [if_pos h] at this
            omega
          · exact Or.inr h
        refine ⟨fun p hp => by rw [lowE p (by omega)]; exact low p hp, fun c j hc hj => by rw [lowE _ (by have := caE c hc; omega)]; exact A2 c j hc hj, ?_, fun _ => ⟨?_, ?_, ?_⟩⟩
        · rw [hE]
          intro c hc hlc
          have hlt := (atl c hc).resolve_right (fun h => h hlc)
          unfold qf_S
          rw [lowE _ hlt]
          exact A3 c hc hlc
        · rw [hE]
          intro j hj
          rw [fg_q_un (by omega), fg_q_ps hj, cq j hj]
        · rw [hE]
          unfold qf_S
          rw [atE]
          rcases hzz with ⟨k1, k2, k3⟩ | ⟨k1, k2, k3⟩
          · exact Or.inl ⟨k1, rfl, by rw [k2]; exact nI_1 E, by rw [k3, nI_add]; rfl⟩
          · exact Or.inr ⟨k1, rfl, by rw [k2, nI_add]; rfl, by rw [k3]; exact nI_1 E⟩
        · rw [hE]
          unfold qf_J
          rw [fg_q_us]
          exact ⟨rfl, cy_jmp E n⟩
      · intro post h
        rw [Nat.one_mul] at h
        refine key post (fun k => br_t hle (br_f (by decide) ?_))
        rcases hzz with ⟨k1, k2, k3⟩ | ⟨k1, k2, k3⟩
        · have h9 : nI kk ≤ 9 := nI_le (b := 9) k1 (by omega)
          refine br_t h9 (br_t h9 ?_)
          rw [show nI n + 2 = z0 by rw [k3]; exact nI_add n 2, show (1 : Int32) = z1 from k2.symm]
          exact cy_q398 (by omega) hz1 hz0 C1 C2 C3 C4 h
        · have h9 : ¬ nI kk ≤ 9 := nI_ge (a := 9) k1 (by omega)
          refine br_f h9 (br_f h9 ?_)
          rw [show nI n + 2 = z1 by rw [k2]; exact nI_add n 2, show (1 : Int32) = z0 from k3.symm]
          exact cy_q398 (by omega) hz1 hz0 C1 C2 C3 C4 h
    by_cases h9 : kk ≤ 9
    · exact fin 1 (nI (n + 2)) (cy_Sn (n := 1) (by omega)) (cy_Sn (by omega)) (Or.inl ⟨h9, rfl, rfl⟩)
    · exact fin (nI (n + 2)) 1 (cy_Sn (by omega)) (cy_Sn (n := 1) (by omega)) (Or.inr ⟨by omega, rfl, rfl⟩)
end YS
