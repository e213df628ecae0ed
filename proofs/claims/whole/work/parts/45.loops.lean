section TQ
theorem ff_at {kk : Nat → Nat} {c i : Nat} {r : Int32} (hR : ff_R kk c r) (hi : i < c) (hcl : ∀ j, j < i → ¬ cs_bad (kk j) (cs_st kk j)) (hb : cs_bad (kk i) (cs_st kk i)) : r = nI i := by
  rcases hR with ⟨_, h, _⟩ | ⟨i0, h1, h2, h3, h4⟩ | ⟨_, h, _⟩
  · exact absurd hb (h i hi)
  · have : i0 = i := by
      rcases Nat.lt_trichotomy i0 i with e | e | e
      · exact absurd h4 (hcl i0 e)
      · exact e
      · exact absurd hb (h3 i e)
    rw [← this]; exact h2
  · exact absurd hb (h i hi)
theorem ff_end {kk : Nat → Nat} {c : Nat} {r : Int32} (hR : ff_R kk c r) (hcl : ∀ j, j < c → ¬ cs_bad (kk j) (cs_st kk j)) : (r = -1 ∧ (cs_st kk c).1 = 0) ∨ (r = nI c ∧ 0 < (cs_st kk c).1) := by
  rcases hR with ⟨h1, _, h3⟩ | ⟨i0, h1, _, _, h4⟩ | ⟨h1, _, h3⟩
  · exact Or.inl ⟨h1, h3⟩
  · exact absurd h4 (hcl i0 h1)
  · exact Or.inr ⟨h1, h3⟩
def cm_P1 (g_count g_place g_end g_size g_large g_ready g_depth g_groups g_atom g_atomSize g_length g_found : Int32) (b_kind b_value b_op b_with b_one b_two b_copyOp b_copyWith b_copyOne b_copyTwo b_opened b_branch b_sizes b_jumps b_groupOf b_text : Nat → Int32) (b_met : Nat → Int64) (b_todo b_notes : Nat → Int32) (post : Int32 → SY → Prop) (c : Nat) (r : Int32) : Prop := ∀ (en sz la dp gr at_ az : Int32) (O W F G c1 c2 c3 c4 opd brn szs jmp gof : Nat → Int32), rl_B O → rl_B W → rl_S F → rl_S G → post 1 (nI c, r, en, sz, la, g_ready, dp, gr, at_, az, g_length, g_found, b_kind, b_value, O, W, F, G, c1, c2, c3, c4, opd, brn, szs, jmp, gof, b_text, b_met, b_todo, b_notes)
def cm_P2 (g_count g_place g_end g_size g_large g_ready g_depth g_groups g_atom g_atomSize g_length g_found : Int32) (b_kind b_value b_op b_with b_one b_two b_copyOp b_copyWith b_copyOne b_copyTwo b_opened b_branch b_sizes b_jumps b_groupOf b_text : Nat → Int32) (b_met : Nat → Int64) (b_todo b_notes : Nat → Int32) (post : Int32 → SY → Prop) (c : Nat) : Prop := ∀ (en sz dp gr at_ az : Int32) (O W F G c1 c2 c3 c4 opd brn szs jmp gof : Nat → Int32), rl_B O → rl_B W → rl_S F → rl_S G → post 2 (nI c, nI c, en, sz, 1, g_ready, dp, gr, at_, az, g_length, g_found, b_kind, b_value, O, W, F, G, c1, c2, c3, c4, opd, brn, szs, jmp, gof, b_text, b_met, b_todo, b_notes)
variable {f_tokens f_faultPlace f_length f_pieces f_patternEntry f_hasPattern f_tooLarge f_level f_groups f_atomStart f_atomEntry f_choices f_wayPiece f_wayPlace : Int32} {f_wayNotes : Int64} {f_hasResult f_resultStart f_resultEnd : Int32} {f_resultNotes : Int64} {a_tokenKind a_tokenValue a_text a_pieceKind a_pieceValue a_pieceNext a_pieceSecond a_levelGroup a_levelStart a_levelEntry a_branchStart a_branchEntry : Nat → Int32} {a_placesSeen : Nat → Int64} {a_choicePiece a_choicePlace : Nat → Int32} {a_choiceNotes : Nat → Int64}
variable {g_count g_place g_end g_size g_large g_ready g_depth g_groups g_atom g_atomSize g_length g_found : Int32} {b_kind b_value b_op b_with b_one b_two b_copyOp b_copyWith b_copyOne b_copyTwo b_opened b_branch b_sizes b_jumps b_groupOf b_text : Nat → Int32} {b_met : Nat → Int64} {b_todo b_notes : Nat → Int32}
/-- one token of the reference's loop -/
theorem yl_tok {post : Int32 → SY → Prop} {n i c kk : Nat} (hc : c ≤ 24) (hi : i < c) (hK : b_kind i = nI kk)
    (h : wpY_accept (fun r u => match u with | (g_count, g_place, g_end, g_size, g_large, g_ready, g_depth, g_groups, g_atom, g_atomSize, g_length, g_found, b_kind, b_value, b_op, b_with, b_one, b_two, b_copyOp, b_copyWith, b_copyOne, b_copyTwo, b_opened, b_branch, b_sizes, b_jumps, b_groupOf, b_text, b_met, b_todo, b_notes) => (((r = 0 → (post 1 (g_count, g_place, g_end, g_size, g_large, g_ready, g_depth, g_groups, g_atom, g_atomSize, g_length, g_found, b_kind, b_value, b_op, b_with, b_one, b_two, b_copyOp, b_copyWith, b_copyOne, b_copyTwo, b_opened, b_branch, b_sizes, b_jumps, b_groupOf, b_text, b_met, b_todo, b_notes))) ∧ (¬ r = 0 → (∀ y : Int32, y = nI i + 1 → (wY_compile_47 post n y g_count g_place g_end g_size g_large g_ready g_depth g_groups g_atom g_atomSize g_length g_found b_kind b_value b_op b_with b_one b_two b_copyOp b_copyWith b_copyOne b_copyTwo b_opened b_branch b_sizes b_jumps b_groupOf b_text b_met b_todo b_notes)))))) (nI c, nI i, g_end, g_size, g_large, g_ready, g_depth, g_groups, g_atom, g_atomSize, g_length, g_found, b_kind, b_value, b_op, b_with, b_one, b_two, b_copyOp, b_copyWith, b_copyOne, b_copyTwo, b_opened, b_branch, b_sizes, b_jumps, b_groupOf, b_text, b_met, b_todo, b_notes) (nI kk) (b_value i)) : wY_compile_47 post (n + 1) (nI i) (nI c) g_place g_end g_size g_large g_ready g_depth g_groups g_atom g_atomSize g_length g_found b_kind b_value b_op b_with b_one b_two b_copyOp b_copyWith b_copyOne b_copyTwo b_opened b_branch b_sizes b_jumps b_groupOf b_text b_met b_todo b_notes := by
  have hv : vp_in (nI i) 24 := vp_in_nI (by omega) (by omega)
  have ec : (nI i).toNatClampNeg = i := nI_clamp (by omega)
  refine br_f (nI_ge hi (by omega)) ⟨hv, hv, ?_⟩
  rw [ec, hK]
  exact h
theorem y3_loop {kk : Nat → Nat} {c : Nat} {r : Int32} {post : Int32 → SY → Prop} (hc : c ≤ 24) (hKY : ∀ j, j < c → kk j ≤ 15 ∧ b_kind j = nI (kk j)) (hR : ff_R kk c r) (B1 : rl_B b_op) (B2 : rl_B b_with) (S1 : rl_S b_one) (S2 : rl_S b_two)
    (h2 : r = -1 → cm_P2 g_count g_place g_end g_size g_large g_ready g_depth g_groups g_atom g_atomSize g_length g_found b_kind b_value b_op b_with b_one b_two b_copyOp b_copyWith b_copyOne b_copyTwo b_opened b_branch b_sizes b_jumps b_groupOf b_text b_met b_todo b_notes post c) (h1 : ¬ r = -1 → cm_P1 g_count g_place g_end g_size g_large g_ready g_depth g_groups g_atom g_atomSize g_length g_found b_kind b_value b_op b_with b_one b_two b_copyOp b_copyWith b_copyOne b_copyTwo b_opened b_branch b_sizes b_jumps b_groupOf b_text b_met b_todo b_notes post c r) : ∀ (d i : Nat) (pl sz la dp gr at_ az : Int32) (opd brn szs jmp gof : Nat → Int32), i + d = c → (∀ j, j < i → ¬ cs_bad (kk j) (cs_st kk j)) → ys_S (cs_st kk i) g_end la dp gr at_ opd →
    wY_compile_47 post (d + 1) (nI i) (nI c) pl g_end sz la g_ready dp gr at_ az g_length g_found b_kind b_value b_op b_with b_one b_two b_copyOp b_copyWith b_copyOne b_copyTwo opd brn szs jmp gof b_text b_met b_todo b_notes := by
  intro d
  induction d with
  | zero =>
    intro i pl sz la dp gr at_ az opd brn szs jmp gof hi hcl hS
    obtain rfl : i = c := by omega
    obtain ⟨rfl, rfl, rfl, he, ha, hb, ho⟩ := hS
    have hle : nI i ≤ nI i := nI_le (Nat.le_refl _) (by omega)
    have ho' := cs_o kk i
    rcases ff_end hR hcl with ⟨q1, q2⟩ | ⟨q1, q2⟩
    · rw [q2]
      refine br_t hle (br_t rfl ?_)
      refine cy_close1 (lv := 0) (by omega) ?_
      exact br_f (by decide) (h2 q1 _ _ _ _ _ _ _ _ _ _ _ _ _ _ _ _ _ _ _ B1 B2 S1 S2)
    · have n1 : ¬ nI ((cs_st kk i).1 + 1) = 1 := fun e => by
        have := (nI_eq (b := 1) (by omega) (by omega)).mp e
        omega
      refine br_t hle (br_f n1 ?_)
      have h1' := h1 (by rw [q1]; exact fg_ne (by omega))
      rw [q1] at h1'
      exact h1' _ _ _ _ _ _ _ _ _ _ _ _ _ _ _ _ _ _ _ _ B1 B2 S1 S2
  | succ d ih =>
    intro i pl sz la dp gr at_ az opd brn szs jmp gof hi hcl hS
    obtain ⟨hk, hkk⟩ := hKY i (by omega)
    have ho' := cs_o kk i
    have hg' := cs_g kk i hcl
    refine yl_tok hc (by omega) hkk ?_
    by_cases hbad : cs_bad (kk i) (cs_st kk i)
    · have hr := ff_at hR (by omega) hcl hbad
      have hr1 : ¬ r = -1 := by rw [hr]; exact fg_ne (by omega)
      obtain ⟨rfl, rfl, rfl, he, ha, hb, ho⟩ := hS
      refine ya_bad (o := (cs_st kk i).1) (g := (cs_st kk i).2.1) (b := (cs_st kk i).2.2) hk (by omega) hbad hb ?_
      refine br_t rfl ?_
      rw [← hr]
      exact h1 hr1 _ _ _ _ _ _ _ _ _ _ _ _ _ _ _ _ _ _ _ _ B1 B2 S1 S2
    · refine ys_step (v' := 0) (vx := 0) hS hk hbad (by omega) hg' (fun sz' dp' gr' at' az' opd' brn' szs' jmp' gof' hS' => ?_)
      refine br_f (by decide) (nm_r (nI_1 i) ?_)
      exact ih (i + 1) _ _ _ _ _ _ _ _ _ _ _ _ (by omega) (fun j hj => by
        by_cases e : j = i
        · rw [e]; exact hbad
        · exact hcl j (by omega)) hS'
variable {lv pc en sz g c i : Nat} {gg lsN bsN od br : Nat → Nat} {J : Nat → List Nat}
/-- no fault: both build -/
theorem cm_loop {kk : Nat → Nat} (hc : c ≤ 24) (hKX : ∀ j, j < c → kk j ≤ 15 ∧ a_tokenKind j = nI (kk j) ∧ b_kind j = nI (kk j) ∧ rl_tok (nI (kk j)) (a_tokenValue j) (b_value j)) (hcl : ∀ j, j < c → ¬ cs_bad (kk j) (cs_st kk j)) (h0 : (cs_st kk c).1 = 0) (d : Nat)
    (hi : i + d = c) (hlv : lv = (cs_st kk i).1) (hg : g = (cs_st kk i).2.1)
    (H : cq_A (cs_st kk i).2.2 lv pc en sz gg lsN bsN od br J f_atomStart f_atomEntry g_atom g_atomSize a_pieceKind a_pieceValue a_pieceNext a_pieceSecond a_levelGroup a_levelStart a_levelEntry a_branchStart a_branchEntry b_op b_with b_one b_two b_opened b_branch b_sizes b_jumps b_groupOf) :
    cm_R (nI c) f_faultPlace f_length (nI pc) f_patternEntry f_hasPattern 0 (nI lv) (nI g) f_atomStart f_atomEntry f_choices f_wayPiece f_wayPlace f_wayNotes f_hasResult f_resultStart f_resultEnd f_resultNotes a_tokenKind a_tokenValue a_text a_pieceKind a_pieceValue a_pieceNext a_pieceSecond a_levelGroup a_levelStart a_levelEntry a_branchStart a_branchEntry a_placesSeen a_choicePiece a_choicePlace a_choiceNotes (nI c) g_place (nI en) (nI sz) (cq_la sz) g_ready (nI (lv + 1)) (nI g) g_atom g_atomSize g_length g_found b_kind b_value b_op b_with b_one b_two b_copyOp b_copyWith b_copyOne b_copyTwo b_opened b_branch b_sizes b_jumps b_groupOf b_text b_met b_todo b_notes c i d := by
  induction d generalizing i lv pc en sz g gg lsN bsN od br J f_atomStart f_atomEntry a_pieceKind a_pieceValue a_pieceNext a_pieceSecond a_levelGroup a_levelStart a_levelEntry a_branchStart a_branchEntry g_place g_atom g_atomSize b_op b_with b_one b_two b_copyOp b_copyWith b_copyOne b_copyTwo b_opened b_branch b_sizes b_jumps b_groupOf with
  | zero =>
    obtain rfl : i = c := by omega
    rw [h0] at hlv
    subst hlv
    exact tk_end hc H
  | succ d ih =>
    obtain ⟨hk, hkx, hky, htok⟩ := hKX i (by omega)
    have hcl' : ∀ j, j < i → ¬ cs_bad (kk j) (cs_st kk j) := fun j hj => hcl j (by omega)
    have ho := cs_o kk i
    have hg3 := cs_g kk i hcl'
    have es : (lv, g, (cs_st kk i).2.2) = cs_st kk i := by rw [hlv, hg]
    have hS := H.2.2.2.2
    have T := tk_step (w := b_value i) (g := g) (f_faultPlace := f_faultPlace) (f_length := f_length) (f_patternEntry := f_patternEntry) (f_hasPattern := f_hasPattern) (f_atomStart := f_atomStart) (f_atomEntry := f_atomEntry) (f_choices := f_choices) (f_wayPiece := f_wayPiece) (f_wayPlace := f_wayPlace) (f_wayNotes := f_wayNotes) (f_hasResult := f_hasResult) (f_resultStart := f_resultStart) (f_resultEnd := f_resultEnd) (f_resultNotes := f_resultNotes) (a_tokenKind := a_tokenKind) (a_tokenValue := a_tokenValue) (a_text := a_text) (a_pieceKind := a_pieceKind) (a_pieceValue := a_pieceValue) (a_pieceNext := a_pieceNext) (a_pieceSecond := a_pieceSecond) (a_levelGroup := a_levelGroup) (a_levelStart := a_levelStart) (a_levelEntry := a_levelEntry) (a_branchStart := a_branchStart) (a_branchEntry := a_branchEntry) (a_placesSeen := a_placesSeen) (a_choicePiece := a_choicePiece) (a_choicePlace := a_choicePlace) (a_choiceNotes := a_choiceNotes) (g_count := nI c) (g_place := nI i) (g_ready := g_ready) (g_atom := g_atom) (g_atomSize := g_atomSize) (g_length := g_length) (g_found := g_found) (b_kind := b_kind) (b_value := b_value) (b_op := b_op) (b_with := b_with) (b_one := b_one) (b_two := b_two) (b_copyOp := b_copyOp) (b_copyWith := b_copyWith) (b_copyOne := b_copyOne) (b_copyTwo := b_copyTwo) (b_opened := b_opened) (b_branch := b_branch) (b_sizes := b_sizes) (b_jumps := b_jumps) (b_groupOf := b_groupOf) (b_text := b_text) (b_met := b_met) (b_todo := b_todo) (b_notes := b_notes) hc (show i < c by omega) hk hkx htok (by rw [es]; exact hcl i (by omega)) (by omega) (by omega) H
    rw [es] at T
    rcases T with ⟨lv', pc', en', sz', gg', lsN', bsN', od', br', J', as', ae', at', az', K, V, N, S, lg, ls, le, bs, be, O, W, F, G, c1, c2, c3, c4, opd, brn, szs, jmp, gof, e1, HA, hX, hY⟩ | ⟨hX, sz', dp, gr, at', az', opd, brn, szs, jmp, gof, hS', hY⟩
    · have I := ih (i := i + 1) (lv := lv') (g := (cs_st kk (i + 1)).2.1) (g_place := nI i) (b_copyOp := c1) (b_copyWith := c2) (b_copyOne := c3) (b_copyTwo := c4) (by omega) e1 rfl HA
      rcases I with ⟨P, E, pe, K', V', N', S', O', W', F', G', q1, q2, q3, q4, q5, q6, q7, q8, iX, iY⟩ | ⟨iX, iY⟩
      · refine Or.inl ⟨P, E, pe, K', V', N', S', O', W', F', G', q1, q2, q3, q4, q5, q6, q7, q8, fun post h => hX post (d + 2) (iX post h), fun post h => ?_⟩
        refine yl_tok hc (by omega) hky ?_
        refine hY _ ?_
        exact br_f (by decide) (nm_r (nI_1 i) (iY post h))
      · refine Or.inr ⟨fun post h => hX post (d + 2) (iX post h), fun post h => ?_⟩
        refine yl_tok hc (by omega) hky ?_
        refine hY _ ?_
        exact br_f (by decide) (nm_r (nI_1 i) (iY post h))
    · refine Or.inr ⟨fun post h => hX post (d + 1) h, fun post h => ?_⟩
      refine yl_tok hc (by omega) hky ?_
      refine hY _ ?_
      refine br_f (by decide) (nm_r (nI_1 i) ?_)
      exact y3_loop (g_count := 0) (g_place := 0) (g_size := 0) (g_large := 0) (g_depth := 0) (g_groups := 0) (g_atom := 0) (g_atomSize := 0) (b_opened := fun _ => 0) (b_branch := fun _ => 0) (b_sizes := fun _ => 0) (b_jumps := fun _ => 0) (b_groupOf := fun _ => 0) hc (fun j hj => ⟨(hKX j hj).1, (hKX j hj).2.2.1⟩) (Or.inl ⟨rfl, hcl, h0⟩) hS.1 hS.2.1 hS.2.2.1 hS.2.2.2 (fun _ => h) (fun hh => absurd rfl hh) d (i + 1) _ _ _ _ _ _ _ _ _ _ _ _ (by omega) (fun j hj => hcl j (by omega)) hS'
/-- a fault: the reference finds it too -/
theorem fl_loop {kk : Nat → Nat} {r : Int32} {post : Int32 → SY → Prop} (hc : c ≤ 24) (hKX : ∀ j, j < c → kk j ≤ 15 ∧ a_tokenKind j = nI (kk j) ∧ b_kind j = nI (kk j) ∧ rl_tok (nI (kk j)) (a_tokenValue j) (b_value j)) (hR : ff_R kk c r) (hr : ¬ r = -1) (d : Nat)
    (hi : i + d = c) (hcl : ∀ j, j < i → ¬ cs_bad (kk j) (cs_st kk j)) (hlv : lv = (cs_st kk i).1) (hg : g = (cs_st kk i).2.1)
    (H : cq_A (cs_st kk i).2.2 lv pc en sz gg lsN bsN od br J f_atomStart f_atomEntry g_atom g_atomSize a_pieceKind a_pieceValue a_pieceNext a_pieceSecond a_levelGroup a_levelStart a_levelEntry a_branchStart a_branchEntry b_op b_with b_one b_two b_opened b_branch b_sizes b_jumps b_groupOf)
    (h : cm_P1 g_count g_place g_end g_size g_large g_ready g_depth g_groups g_atom g_atomSize g_length g_found b_kind b_value b_op b_with b_one b_two b_copyOp b_copyWith b_copyOne b_copyTwo b_opened b_branch b_sizes b_jumps b_groupOf b_text b_met b_todo b_notes post c r) :
    wY_compile_47 post (d + 1) (nI i) (nI c) g_place (nI en) (nI sz) (cq_la sz) g_ready (nI (lv + 1)) (nI g) g_atom g_atomSize g_length g_found b_kind b_value b_op b_with b_one b_two b_copyOp b_copyWith b_copyOne b_copyTwo b_opened b_branch b_sizes b_jumps b_groupOf b_text b_met b_todo b_notes := by
  induction d generalizing i lv pc en sz g gg lsN bsN od br J f_atomStart f_atomEntry a_pieceKind a_pieceValue a_pieceNext a_pieceSecond a_levelGroup a_levelStart a_levelEntry a_branchStart a_branchEntry g_place g_atom g_atomSize b_op b_with b_one b_two b_copyOp b_copyWith b_copyOne b_copyTwo b_opened b_branch b_sizes b_jumps b_groupOf with
  | zero =>
    obtain rfl : i = c := by omega
    have hS := H.2.2.2.2
    have hle : nI i ≤ nI i := nI_le (Nat.le_refl _) (by omega)
    have ho' := cs_o kk i
    rcases ff_end hR hcl with ⟨q1, q2⟩ | ⟨q1, q2⟩
    · exact absurd q1 hr
    · have n1 : ¬ nI (lv + 1) = 1 := fun e => by
        have := (nI_eq (b := 1) (by omega) (by omega)).mp e
        omega
      refine br_t hle (br_f n1 ?_)
      rw [q1] at h
      exact h _ _ _ _ _ _ _ _ _ _ _ _ _ _ _ _ _ _ _ _ hS.1 hS.2.1 hS.2.2.1 hS.2.2.2
  | succ d ih =>
    obtain ⟨hk, hkx, hky, htok⟩ := hKX i (by omega)
    have ho := cs_o kk i
    have hg3 := cs_g kk i hcl
    have es : (lv, g, (cs_st kk i).2.2) = cs_st kk i := by rw [hlv, hg]
    have hS := H.2.2.2.2
    refine yl_tok hc (by omega) hky ?_
    by_cases hbad : cs_bad (kk i) (cs_st kk i)
    · have hri := ff_at hR (by omega) hcl hbad
      refine ya_bad (o := lv) (g := g) (b := (cs_st kk i).2.2) hk (by omega) (by rw [es]; exact hbad) H.2.2.2.1 ?_
      refine br_t rfl ?_
      rw [← hri]
      exact h _ _ _ _ _ _ _ _ _ _ _ _ _ _ _ _ _ _ _ _ hS.1 hS.2.1 hS.2.2.1 hS.2.2.2
    · have hcl2 : ∀ j, j < i + 1 → ¬ cs_bad (kk j) (cs_st kk j) := fun j hj => by
        by_cases e : j = i
        · rw [e]; exact hbad
        · exact hcl j (by omega)
      have T := tk_step (w := b_value i) (g := g) (f_faultPlace := 0) (f_length := 0) (f_patternEntry := 0) (f_hasPattern := 0) (f_atomStart := f_atomStart) (f_atomEntry := f_atomEntry) (f_choices := 0) (f_wayPiece := 0) (f_wayPlace := 0) (f_wayNotes := 0) (f_hasResult := 0) (f_resultStart := 0) (f_resultEnd := 0) (f_resultNotes := 0) (a_tokenKind := a_tokenKind) (a_tokenValue := a_tokenValue) (a_text := fun _ => 0) (a_pieceKind := a_pieceKind) (a_pieceValue := a_pieceValue) (a_pieceNext := a_pieceNext) (a_pieceSecond := a_pieceSecond) (a_levelGroup := a_levelGroup) (a_levelStart := a_levelStart) (a_levelEntry := a_levelEntry) (a_branchStart := a_branchStart) (a_branchEntry := a_branchEntry) (a_placesSeen := fun _ => 0) (a_choicePiece := fun _ => 0) (a_choicePlace := fun _ => 0) (a_choiceNotes := fun _ => 0) (g_count := nI c) (g_place := nI i) (g_ready := g_ready) (g_atom := g_atom) (g_atomSize := g_atomSize) (g_length := g_length) (g_found := g_found) (b_kind := b_kind) (b_value := b_value) (b_op := b_op) (b_with := b_with) (b_one := b_one) (b_two := b_two) (b_copyOp := b_copyOp) (b_copyWith := b_copyWith) (b_copyOne := b_copyOne) (b_copyTwo := b_copyTwo) (b_opened := b_opened) (b_branch := b_branch) (b_sizes := b_sizes) (b_jumps := b_jumps) (b_groupOf := b_groupOf) (b_text := b_text) (b_met := b_met) (b_todo := b_todo) (b_notes := b_notes) hc (show i < c by omega) hk hkx htok (by rw [es]; exact hbad) (by omega) (by omega) H
      rw [es] at T
      rcases T with ⟨lv', pc', en', sz', gg', lsN', bsN', od', br', J', as', ae', at', az', K, V, N, S, lg, ls, le, bs, be, O, W, F, G, c1, c2, c3, c4, opd, brn, szs, jmp, gof, e1, HA, hX, hY⟩ | ⟨hX, sz', dp, gr, at', az', opd, brn, szs, jmp, gof, hS', hY⟩
      · refine hY _ ?_
        refine br_f (by decide) (nm_r (nI_1 i) ?_)
        exact ih (i := i + 1) (lv := lv') (g := (cs_st kk (i + 1)).2.1) (g_place := nI i) (b_copyOp := c1) (b_copyWith := c2) (b_copyOne := c3) (b_copyTwo := c4) (by omega) hcl2 e1 rfl HA h
      · refine hY _ ?_
        refine br_f (by decide) (nm_r (nI_1 i) ?_)
        exact y3_loop (g_count := 0) (g_place := 0) (g_size := 0) (g_large := 0) (g_depth := 0) (g_groups := 0) (g_atom := 0) (g_atomSize := 0) (b_opened := fun _ => 0) (b_branch := fun _ => 0) (b_sizes := fun _ => 0) (b_jumps := fun _ => 0) (b_groupOf := fun _ => 0) hc (fun j hj => ⟨(hKX j hj).1, (hKX j hj).2.2.1⟩) hR hS.1 hS.2.1 hS.2.2.1 hS.2.2.2 (fun hh => absurd hh hr) (fun _ => h) d (i + 1) _ _ _ _ _ _ _ _ _ _ _ _ (by omega) hcl2 hS'
end TQ
