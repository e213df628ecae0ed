section CZ
/-- how a building begins -/
theorem cz_init (K V N S lg ls le bs be O W F G opd brn szs jmp gof : Nat → Int32) (as_ az : Int32) (B1 : rl_B O) (B2 : rl_B W) (S1 : rl_S F) (S2 : rl_S G) :
    cq_A false 0 0 0 0 (fun _ => 0) (fun _ => 0) (fun _ => 0) (fun _ => 0) (fun _ => 0) (fun _ => []) as_ (-1) (-1) az K V N S (upd lg 0 (nI 0)) (upd ls 0 (nI 0)) (upd le 0 (-2)) (upd bs 0 (nI 0)) (upd be 0 (-1)) O W F G (upd opd 0 (nI 0)) (upd brn 0 (nI 0)) (upd szs 0 (nI 0)) (upd jmp 0 (-1)) (upd gof 0 (nI 0)) := by
  refine ⟨⟨by omega, by omega, by omega, rfl, rfl, rfl, Nat.le_refl _, Nat.zero_le 80, ?_, Or.inl rfl, fun _ => rfl, fun d hd => ?_, fun _ => ⟨fun d hd => ?_, fg_empty _ _ 0 0⟩⟩, Or.inl rfl, (fun h => by cases h), fun _ => rfl, B1, B2, S1, S2⟩
  · show 0 = 0 + (0 + cp_lag 0 (upd le 0 (-2) 0))
    rw [rl_us, cp_lag_2]
    rfl
  · obtain rfl : d = 0 := by omega
    exact ⟨rl_us, rl_us, Nat.zero_le 3, rl_us, rl_us, rl_us, Nat.le_refl _, Nat.le_refl _, by rw [rl_us]; exact Or.inl rfl, fun _ => rfl, rl_us, Nat.zero_le 80, fun _ => rfl⟩
  · obtain rfl : d = 0 := by omega
    rw [rl_us, rl_us, rl_us, rl_us]
    exact ⟨rfl, (fun h => absurd h (Nat.lt_irrefl 0)), Or.inl ⟨rfl, rfl, rfl, rfl⟩, fg_empty _ _ 0 0⟩
theorem cz_n0 : vp_nar .short (0 : Int32).toInt16.toInt32 = nI 0 := cy_nS (cy_Sn (n := 0) (by omega))
theorem i_vc_compile {k : Nat} {u : SX} {v : SY} (I : i_Rel k u v) (hk : k + 3 ≤ 1536) : wpX_compile (fun r u' => wpY_compile (fun r' v' => r' = r ∧ i_Rel (k + 3) u' v') v) u := by
  obtain ⟨f_tokens, f_faultPlace, f_length, f_pieces, f_patternEntry, f_hasPattern, f_tooLarge, f_level, f_groups, f_atomStart, f_atomEntry, f_choices, f_wayPiece, f_wayPlace, f_wayNotes, f_hasResult, f_resultStart, f_resultEnd, f_resultNotes, a_tokenKind, a_tokenValue, a_text, a_pieceKind, a_pieceValue, a_pieceNext, a_pieceSecond, a_levelGroup, a_levelStart, a_levelEntry, a_branchStart, a_branchEntry, a_placesSeen, a_choicePiece, a_choicePlace, a_choiceNotes⟩ := u
  obtain ⟨g_count, g_place, g_end, g_size, g_large, g_ready, g_depth, g_groups, g_atom, g_atomSize, g_length, g_found, b_kind, b_value, b_op, b_with, b_one, b_two, b_copyOp, b_copyWith, b_copyOne, b_copyTwo, b_opened, b_branch, b_sizes, b_jumps, b_groupOf, b_text, b_met, b_todo, b_notes⟩ := v
  obtain ⟨c, n, hc, rfl, rfl, rfl, htok, rfl, hn, rfl, rfl, rfl, rfl, hpat, rfl, hres, hB1, hB2, hS1, hS2⟩ := I
  obtain ⟨kk, hKX⟩ : ∃ kk : Nat → Nat, ∀ j, j < c → kk j ≤ 15 ∧ b_kind j = nI (kk j) ∧ b_kind j = nI (kk j) ∧ rl_tok (nI (kk j)) (a_tokenValue j) (b_value j) := by
    refine ⟨fun j => (b_kind j).toNatClampNeg, fun j hj => ?_⟩
    have ht := htok j hj
    obtain ⟨k2, hk2, ek, _⟩ := ht
    have e : (b_kind j).toNatClampNeg = k2 := by rw [ek, nI_clamp (by omega)]
    dsimp only
    rw [e, ← ek]
    exact ⟨hk2, rfl, rfl, htok j hj⟩
  obtain ⟨r, hR, hE⟩ := ff_eval (f_faultPlace := g_place) (f_length := nI n) (f_pieces := f_pieces) (f_patternEntry := f_patternEntry) (f_hasPattern := 0) (f_tooLarge := f_tooLarge) (f_level := f_level) (f_groups := f_groups) (f_atomStart := f_atomStart) (f_atomEntry := f_atomEntry) (f_choices := f_choices) (f_wayPiece := f_wayPiece) (f_wayPlace := f_wayPlace) (f_wayNotes := f_wayNotes) (f_hasResult := 0) (f_resultStart := f_resultStart) (f_resultEnd := f_resultEnd) (f_resultNotes := f_resultNotes) (a_tokenKind := b_kind) (a_tokenValue := a_tokenValue) (a_text := b_text) (a_pieceKind := a_pieceKind) (a_pieceValue := a_pieceValue) (a_pieceNext := a_pieceNext) (a_pieceSecond := a_pieceSecond) (a_levelGroup := a_levelGroup) (a_levelStart := a_levelStart) (a_levelEntry := a_levelEntry) (a_branchStart := a_branchStart) (a_branchEntry := a_branchEntry) (a_placesSeen := a_placesSeen) (a_choicePiece := a_choicePiece) (a_choicePlace := a_choicePlace) (a_choiceNotes := a_choiceNotes) hc (fun j hj => ⟨(hKX j hj).1, (hKX j hj).2.1⟩)
  have H := cz_init a_pieceKind a_pieceValue a_pieceNext a_pieceSecond a_levelGroup a_levelStart a_levelEntry a_branchStart a_branchEntry b_op b_with b_one b_two b_opened b_branch b_sizes b_jumps b_groupOf f_atomStart g_atomSize hB1 hB2 hS1 hS2
  unfold wpX_compile
  refine hE _ ?_
  by_cases hr : r = -1
  · have hcl : (∀ j, j < c → ¬ cs_bad (kk j) (cs_st kk j)) ∧ (cs_st kk c).1 = 0 := by
      rcases hR with ⟨_, h1, h2⟩ | ⟨i0, h1, h2, _⟩ | ⟨h1, _⟩
      · exact ⟨h1, h2⟩
      · rw [h2] at hr; exact absurd hr (fg_ne (by omega))
      · rw [h1] at hr; exact absurd hr (fg_ne (by omega))
    have M := cm_loop (f_faultPlace := r) (f_length := nI n) (f_patternEntry := f_patternEntry) (f_hasPattern := 0) (f_atomStart := f_atomStart) (f_atomEntry := (-1)) (f_choices := f_choices) (f_wayPiece := f_wayPiece) (f_wayPlace := f_wayPlace) (f_wayNotes := f_wayNotes) (f_hasResult := 0) (f_resultStart := f_resultStart) (f_resultEnd := f_resultEnd) (f_resultNotes := f_resultNotes) (a_tokenKind := b_kind) (a_tokenValue := a_tokenValue) (a_text := b_text) (a_pieceKind := a_pieceKind) (a_pieceValue := a_pieceValue) (a_pieceNext := a_pieceNext) (a_pieceSecond := a_pieceSecond) (a_levelGroup := upd a_levelGroup 0 (nI 0)) (a_levelStart := upd a_levelStart 0 (nI 0)) (a_levelEntry := upd a_levelEntry 0 (-2)) (a_branchStart := upd a_branchStart 0 (nI 0)) (a_branchEntry := upd a_branchEntry 0 (-1)) (a_placesSeen := a_placesSeen) (a_choicePiece := a_choicePiece) (a_choicePlace := a_choicePlace) (a_choiceNotes := a_choiceNotes) (g_place := g_place) (g_ready := 0) (g_atom := (-1)) (g_atomSize := g_atomSize) (g_length := nI n) (g_found := 0) (b_kind := b_kind) (b_value := b_value) (b_op := b_op) (b_with := b_with) (b_one := b_one) (b_two := b_two) (b_copyOp := b_copyOp) (b_copyWith := b_copyWith) (b_copyOne := b_copyOne) (b_copyTwo := b_copyTwo) (b_opened := upd b_opened 0 (nI 0)) (b_branch := upd b_branch 0 (nI 0)) (b_sizes := upd b_sizes 0 (nI 0)) (b_jumps := upd b_jumps 0 (-1)) (b_groupOf := upd b_groupOf 0 (nI 0)) (b_text := b_text) (b_met := b_met) (b_todo := b_todo) (b_notes := b_notes) (c := c) (i := 0) (lv := 0) (g := 0) (kk := kk) hc hKX hcl.1 hcl.2 c (by omega) rfl rfl H
    refine br_t hr ?_
    unfold wpX_buildPattern
    refine cx_begin (lv := 0) (by omega) ?_
    rcases M with ⟨P, E, pe, K, V, N, S, O, W, F, G, q1, q2, q3, q4, q5, q6, q7, q8, iX, iY⟩ | ⟨iX, iY⟩
    · refine ⟨c + 2, iX _ (fun lv gr as_ ae lg ls le bs be => br_t rfl ?_)⟩
      unfold wpY_compile
      refine cy_open0 (en := 0) (dp := 0) (by omega) (by omega) ?_
      rw [cz_n0]
      refine ⟨c + 1, iY _ (fun sz la dp gr at_ az c1 c2 c3 c4 opd brn szs jmp gof => ⟨rfl, ?_⟩)⟩
      exact ⟨c, n, hc, rfl, rfl, rfl, htok, hr.symm, hn, rfl, rfl, rfl, rfl, Or.inr ⟨rfl, P, E, q1, q2, rfl, rfl, q3, q4⟩, rfl, Or.inl rfl, q5, q6, q7, q8⟩
    · refine ⟨c + 2, iX _ (fun pc pe lv gr as_ ae K V N S lg ls le bs be => br_f (by decide) ?_)⟩
      unfold wpY_compile
      refine cy_open0 (en := 0) (dp := 0) (by omega) (by omega) ?_
      rw [cz_n0]
      refine ⟨c + 1, iY _ (fun en sz dp gr at_ az O W F G c1 c2 c3 c4 opd brn szs jmp gof y1 y2 y3 y4 => ⟨rfl, ?_⟩)⟩
      exact ⟨c, n, hc, rfl, rfl, rfl, htok, rfl, hn, rfl, rfl, rfl, rfl, Or.inl rfl, rfl, Or.inl rfl, y1, y2, y3, y4⟩
  · refine br_f hr ?_
    unfold wpY_compile
    refine cy_open0 (en := 0) (dp := 0) (by omega) (by omega) ?_
    rw [cz_n0]
    refine ⟨c + 1, ?_⟩
    have M := fl_loop (post := fun r' v' => r' = 1 ∧ i_Rel (k + 3) (nI c, r, nI n, f_pieces, f_patternEntry, 0, f_tooLarge, f_level, f_groups, f_atomStart, f_atomEntry, f_choices, f_wayPiece, f_wayPlace, f_wayNotes, 0, f_resultStart, f_resultEnd, f_resultNotes, b_kind, a_tokenValue, b_text, a_pieceKind, a_pieceValue, a_pieceNext, a_pieceSecond, a_levelGroup, a_levelStart, a_levelEntry, a_branchStart, a_branchEntry, a_placesSeen, a_choicePiece, a_choicePlace, a_choiceNotes) v') (r := r) (f_atomStart := f_atomStart) (f_atomEntry := (-1)) (a_tokenKind := b_kind) (a_tokenValue := a_tokenValue) (a_pieceKind := a_pieceKind) (a_pieceValue := a_pieceValue) (a_pieceNext := a_pieceNext) (a_pieceSecond := a_pieceSecond) (a_levelGroup := upd a_levelGroup 0 (nI 0)) (a_levelStart := upd a_levelStart 0 (nI 0)) (a_levelEntry := upd a_levelEntry 0 (-2)) (a_branchStart := upd a_branchStart 0 (nI 0)) (a_branchEntry := upd a_branchEntry 0 (-1)) (g_count := nI c) (g_place := g_place) (g_end := nI 0) (g_size := 0) (g_large := 0) (g_ready := 0) (g_depth := nI 1) (g_groups := 0) (g_atom := (-1)) (g_atomSize := g_atomSize) (g_length := nI n) (g_found := 0) (b_kind := b_kind) (b_value := b_value) (b_op := b_op) (b_with := b_with) (b_one := b_one) (b_two := b_two) (b_copyOp := b_copyOp) (b_copyWith := b_copyWith) (b_copyOne := b_copyOne) (b_copyTwo := b_copyTwo) (b_opened := upd b_opened 0 (nI 0)) (b_branch := upd b_branch 0 (nI 0)) (b_sizes := upd b_sizes 0 (nI 0)) (b_jumps := upd b_jumps 0 (-1)) (b_groupOf := upd b_groupOf 0 (nI 0)) (b_text := b_text) (b_met := b_met) (b_todo := b_todo) (b_notes := b_notes) (c := c) (i := 0) (lv := 0) (g := 0) (kk := kk) hc hKX hR hr c (by omega) (fun j hj => by omega) rfl rfl H (fun en sz la dp gr at_ az O W F G c1 c2 c3 c4 opd brn szs jmp gof y1 y2 y3 y4 => ⟨rfl, c, n, hc, rfl, rfl, rfl, htok, rfl, hn, rfl, rfl, rfl, rfl, Or.inl rfl, rfl, Or.inl rfl, y1, y2, y3, y4⟩)
    exact M
end CZ
