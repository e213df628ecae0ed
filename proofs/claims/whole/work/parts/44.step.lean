section TP
variable {f_tokens f_faultPlace f_length f_pieces f_patternEntry f_hasPattern f_tooLarge f_level f_groups f_atomStart f_atomEntry f_choices f_wayPiece f_wayPlace : Int32} {f_wayNotes : Int64} {f_hasResult f_resultStart f_resultEnd : Int32} {f_resultNotes : Int64} {a_tokenKind a_tokenValue a_text a_pieceKind a_pieceValue a_pieceNext a_pieceSecond a_levelGroup a_levelStart a_levelEntry a_branchStart a_branchEntry : Nat → Int32} {a_placesSeen : Nat → Int64} {a_choicePiece a_choicePlace : Nat → Int32} {a_choiceNotes : Nat → Int64}
variable {g_count g_place g_end g_size g_large g_ready g_depth g_groups g_atom g_atomSize g_length g_found : Int32} {b_kind b_value b_op b_with b_one b_two b_copyOp b_copyWith b_copyOne b_copyTwo b_opened b_branch b_sizes b_jumps b_groupOf b_text : Nat → Int32} {b_met : Nat → Int64} {b_todo b_notes : Nat → Int32}
variable {lv pc en sz g c i kk : Nat} {gg lsN bsN od br : Nat → Nat} {J : Nat → List Nat} {b : Bool} {w : Int32}
theorem tk_step (hc : c ≤ 24) (hi : i < c) (hk : kk ≤ 15) (hK : a_tokenKind i = nI kk) (ht : rl_tok (nI kk) (a_tokenValue i) w) (hbad : ¬ cs_bad kk (lv, g, b)) (hl : lv ≤ i) (hg : g ≤ 3)
    (H : cq_A b lv pc en sz gg lsN bsN od br J f_atomStart f_atomEntry g_atom g_atomSize a_pieceKind a_pieceValue a_pieceNext a_pieceSecond a_levelGroup a_levelStart a_levelEntry a_branchStart a_branchEntry b_op b_with b_one b_two b_opened b_branch b_sizes b_jumps b_groupOf) :
    tk_C (nI c) f_faultPlace f_length (nI pc) f_patternEntry f_hasPattern 0 (nI lv) (nI g) f_atomStart f_atomEntry f_choices f_wayPiece f_wayPlace f_wayNotes f_hasResult f_resultStart f_resultEnd f_resultNotes a_tokenKind a_tokenValue a_text a_pieceKind a_pieceValue a_pieceNext a_pieceSecond a_levelGroup a_levelStart a_levelEntry a_branchStart a_branchEntry a_placesSeen a_choicePiece a_choicePlace a_choiceNotes g_count g_place (nI en) (nI sz) (cq_la sz) g_ready (nI (lv + 1)) (nI g) g_atom g_atomSize g_length g_found b_kind b_value b_op b_with b_one b_two b_copyOp b_copyWith b_copyOne b_copyTwo b_opened b_branch b_sizes b_jumps b_groupOf b_text b_met b_todo b_notes i kk w (cs_step kk (lv, g, b)) := by
  by_cases hq : cs_q kk = true
  · have hb : b = true := by
      cases b with
      | true => rfl
      | false => exact absurd (Or.inl ⟨hq, rfl⟩) hbad
    subst hb
    have hq' := cs_qi.mp hq
    have es : cs_step kk (lv, g, true) = (lv, g, false) := by
      unfold cs_step cs_b
      rw [hq]
      dsimp only
      rw [if_neg (by omega), if_neg (by omega), if_neg (by omega)]
      simp
    rw [es]
    exact tk_quant hc hi hk hq hK ht H
  · have hq' : ¬ ((7 ≤ kk ∧ kk ≤ 12) ∨ kk = 14) := fun h => hq (cs_qi.mpr h)
    by_cases k3 : kk = 3
    · subst k3
      have g3 : ¬ g = 3 := fun e => hbad (Or.inr (Or.inr ⟨rfl, e⟩))
      exact tk_open3 hc hi hK (by omega) (by omega) H
    · by_cases k4 : kk = 4
      · subst k4
        exact tk_open4 hc hi hK (by omega) H
      · by_cases k5 : kk = 5
        · subst k5
          obtain ⟨l, rfl⟩ : ∃ l, lv = l + 1 := by
            rcases Nat.eq_zero_or_pos lv with e | e
            · exact absurd (Or.inr (Or.inl ⟨rfl, e⟩)) hbad
            · exact ⟨lv - 1, by omega⟩
          exact tk_close hc hi hK H
        · by_cases k6 : kk = 6
          · subst k6
            exact tk_bar hc hi hK H
          · exact tk_atom hc hi hk hK ht (by omega) H
/-- behind the last token -/
def cm_R (f_tokens f_faultPlace f_length f_pieces f_patternEntry f_hasPattern f_tooLarge f_level f_groups f_atomStart f_atomEntry f_choices f_wayPiece f_wayPlace : Int32) (f_wayNotes : Int64) (f_hasResult f_resultStart f_resultEnd : Int32) (f_resultNotes : Int64) (a_tokenKind a_tokenValue a_text a_pieceKind a_pieceValue a_pieceNext a_pieceSecond a_levelGroup a_levelStart a_levelEntry a_branchStart a_branchEntry : Nat → Int32) (a_placesSeen : Nat → Int64) (a_choicePiece a_choicePlace : Nat → Int32) (a_choiceNotes : Nat → Int64) (g_count g_place g_end g_size g_large g_ready g_depth g_groups g_atom g_atomSize g_length g_found : Int32) (b_kind b_value b_op b_with b_one b_two b_copyOp b_copyWith b_copyOne b_copyTwo b_opened b_branch b_sizes b_jumps b_groupOf b_text : Nat → Int32) (b_met : Nat → Int64) (b_todo b_notes : Nat → Int32) (c i d : Nat) : Prop :=
  (∃ (P E : Nat) (pe : Int32) (K V N S O W F G : Nat → Int32), P ≤ 36 ∧ E ≤ 72 ∧ O E = 6 ∧ fg_F (fg_q O W F G) (fg_q K V N S) 0 E 0 P pe ∧ rl_B O ∧ rl_B W ∧ rl_S F ∧ rl_S G ∧
    (∀ post : SX → Prop, (∀ (lv gr as_ ae : Int32) (lg ls le bs be : Nat → Int32), post (f_tokens, f_faultPlace, f_length, nI P, pe, f_hasPattern, 0, lv, gr, as_, ae, f_choices, f_wayPiece, f_wayPlace, f_wayNotes, f_hasResult, f_resultStart, f_resultEnd, f_resultNotes, a_tokenKind, a_tokenValue, a_text, K, V, N, S, lg, ls, le, bs, be, a_placesSeen, a_choicePiece, a_choicePlace, a_choiceNotes)) → wX_buildPattern_32 post (d + 2) (nI i) f_tokens f_faultPlace f_length f_pieces f_patternEntry f_hasPattern f_tooLarge f_level f_groups f_atomStart f_atomEntry f_choices f_wayPiece f_wayPlace f_wayNotes f_hasResult f_resultStart f_resultEnd f_resultNotes a_tokenKind a_tokenValue a_text a_pieceKind a_pieceValue a_pieceNext a_pieceSecond a_levelGroup a_levelStart a_levelEntry a_branchStart a_branchEntry a_placesSeen a_choicePiece a_choicePlace a_choiceNotes) ∧
    (∀ post : Int32 → SY → Prop, (∀ (sz la dp gr at_ az : Int32) (c1 c2 c3 c4 opd brn szs jmp gof : Nat → Int32), post 0 (g_count, (-1), nI (E + 1), sz, la, 1, dp, gr, at_, az, g_length, g_found, b_kind, b_value, O, W, F, G, c1, c2, c3, c4, opd, brn, szs, jmp, gof, b_text, b_met, b_todo, b_notes)) → wY_compile_47 post (d + 1) (nI i) g_count g_place g_end g_size g_large g_ready g_depth g_groups g_atom g_atomSize g_length g_found b_kind b_value b_op b_with b_one b_two b_copyOp b_copyWith b_copyOne b_copyTwo b_opened b_branch b_sizes b_jumps b_groupOf b_text b_met b_todo b_notes)) ∨
  ((∀ post : SX → Prop, (∀ (pc pe lv gr as_ ae : Int32) (K V N S lg ls le bs be : Nat → Int32), post (f_tokens, f_faultPlace, f_length, pc, pe, f_hasPattern, 1, lv, gr, as_, ae, f_choices, f_wayPiece, f_wayPlace, f_wayNotes, f_hasResult, f_resultStart, f_resultEnd, f_resultNotes, a_tokenKind, a_tokenValue, a_text, K, V, N, S, lg, ls, le, bs, be, a_placesSeen, a_choicePiece, a_choicePlace, a_choiceNotes)) → wX_buildPattern_32 post (d + 2) (nI i) f_tokens f_faultPlace f_length f_pieces f_patternEntry f_hasPattern f_tooLarge f_level f_groups f_atomStart f_atomEntry f_choices f_wayPiece f_wayPlace f_wayNotes f_hasResult f_resultStart f_resultEnd f_resultNotes a_tokenKind a_tokenValue a_text a_pieceKind a_pieceValue a_pieceNext a_pieceSecond a_levelGroup a_levelStart a_levelEntry a_branchStart a_branchEntry a_placesSeen a_choicePiece a_choicePlace a_choiceNotes) ∧
    (∀ post : Int32 → SY → Prop, (∀ (en sz dp gr at_ az : Int32) (O W F G c1 c2 c3 c4 opd brn szs jmp gof : Nat → Int32), rl_B O → rl_B W → rl_S F → rl_S G → post 2 (g_count, nI c, en, sz, 1, g_ready, dp, gr, at_, az, g_length, g_found, b_kind, b_value, O, W, F, G, c1, c2, c3, c4, opd, brn, szs, jmp, gof, b_text, b_met, b_todo, b_notes)) → wY_compile_47 post (d + 1) (nI i) g_count g_place g_end g_size g_large g_ready g_depth g_groups g_atom g_atomSize g_length g_found b_kind b_value b_op b_with b_one b_two b_copyOp b_copyWith b_copyOne b_copyTwo b_opened b_branch b_sizes b_jumps b_groupOf b_text b_met b_todo b_notes))
theorem tk_end (hc : c ≤ 24)
    (H : cq_A b 0 pc en sz gg lsN bsN od br J f_atomStart f_atomEntry g_atom g_atomSize a_pieceKind a_pieceValue a_pieceNext a_pieceSecond a_levelGroup a_levelStart a_levelEntry a_branchStart a_branchEntry b_op b_with b_one b_two b_opened b_branch b_sizes b_jumps b_groupOf) :
    cm_R (nI c) f_faultPlace f_length (nI pc) f_patternEntry f_hasPattern 0 (nI 0) (nI g) f_atomStart f_atomEntry f_choices f_wayPiece f_wayPlace f_wayNotes f_hasResult f_resultStart f_resultEnd f_resultNotes a_tokenKind a_tokenValue a_text a_pieceKind a_pieceValue a_pieceNext a_pieceSecond a_levelGroup a_levelStart a_levelEntry a_branchStart a_branchEntry a_placesSeen a_choicePiece a_choicePlace a_choiceNotes (nI c) g_place (nI en) (nI sz) (cq_la sz) g_ready (nI (0 + 1)) (nI g) g_atom g_atomSize g_length g_found b_kind b_value b_op b_with b_one b_two b_copyOp b_copyWith b_copyOne b_copyTwo b_opened b_branch b_sizes b_jumps b_groupOf b_text b_met b_todo b_notes c c 0 := by
  obtain ⟨HK, has, hb1, hb0, B1, B2, S1, S2⟩ := H
  obtain ⟨N', S', be', J1, J2⟩ := tk_join (f_tokens := nI c) (f_faultPlace := f_faultPlace) (f_length := f_length) (f_pieces := nI pc) (f_patternEntry := f_patternEntry) (f_hasPattern := f_hasPattern) (f_tooLarge := 0) (f_groups := nI g) (f_atomStart := f_atomStart) (f_atomEntry := f_atomEntry) (f_choices := f_choices) (f_wayPiece := f_wayPiece) (f_wayPlace := f_wayPlace) (f_wayNotes := f_wayNotes) (f_hasResult := f_hasResult) (f_resultStart := f_resultStart) (f_resultEnd := f_resultEnd) (f_resultNotes := f_resultNotes) (a_tokenKind := a_tokenKind) (a_tokenValue := a_tokenValue) (a_text := a_text) (a_pieceKind := a_pieceKind) (a_pieceValue := a_pieceValue) (a_pieceNext := a_pieceNext) (a_pieceSecond := a_pieceSecond) (a_levelGroup := a_levelGroup) (a_levelStart := a_levelStart) (a_levelEntry := a_levelEntry) (a_branchStart := a_branchStart) (a_branchEntry := a_branchEntry) (a_placesSeen := a_placesSeen) (a_choicePiece := a_choicePiece) (a_choicePlace := a_choicePlace) (a_choiceNotes := a_choiceNotes) HK has
  have hpc := HK.2.1
  have hen := HK.2.2.1
  have k4 := HK.2.2.2.1
  have k5 := HK.2.2.2.2.1
  have k6 := HK.2.2.2.2.2.1
  obtain ⟨hszb, hsz, hsz2, hop⟩ := cq_szb HK
  have hlag : cp_lag (gg 0) (a_levelEntry 0) = if a_levelEntry 0 = -2 then 0 else 1 := by
    unfold cp_lag cp_gb; rw [k5]; simp
  have k9 : sz = pc + (0 + cp_lag (gg 0) (a_levelEntry 0)) := HK.2.2.2.2.2.2.2.2.1
  rw [hlag] at k9
  have hle : nI c ≤ nI c := nI_le (Nat.le_refl _) (by omega)
  have hv : vp_in (nI 0) 25 := vp_in_nI (by omega) (by omega)
  have e0 : (nI 0).toNatClampNeg = 0 := nI_clamp (by omega)
  by_cases hok : a_levelEntry 0 = -2 ∨ pc < 36
  · left
    obtain ⟨pc1, K, V, N, S, e1, f1, f2, f3⟩ := cx_endOK (f_tokens := nI c) (f_faultPlace := f_faultPlace) (f_length := f_length) (f_patternEntry := f_patternEntry) (f_hasPattern := f_hasPattern) (f_tooLarge := 0) (f_groups := nI g) (f_atomStart := f_atomStart) (f_atomEntry := (-1)) (f_choices := f_choices) (f_wayPiece := f_wayPiece) (f_wayPlace := f_wayPlace) (f_wayNotes := f_wayNotes) (f_hasResult := f_hasResult) (f_resultStart := f_resultStart) (f_resultEnd := f_resultEnd) (f_resultNotes := f_resultNotes) (a_tokenKind := a_tokenKind) (a_tokenValue := a_tokenValue) (a_text := a_text) (a_pieceKind := a_pieceKind) (a_pieceValue := a_pieceValue) (a_pieceNext := N') (a_pieceSecond := S') (a_levelGroup := a_levelGroup) (a_levelStart := a_levelStart) (a_levelEntry := a_levelEntry) (a_branchStart := a_branchStart) (a_branchEntry := be') (a_placesSeen := a_placesSeen) (a_choicePiece := a_choicePiece) (a_choicePlace := a_choicePlace) (a_choiceNotes := a_choiceNotes) (lv := 0) (pc := pc) (by omega) hok
    have hpc1 : pc1 = sz ∧ pc1 ≤ 36 := by
      rcases f1 with ⟨q1, _, q⟩ | ⟨q1, _, q, _⟩
      · rw [if_pos q1] at k9; omega
      · rw [if_neg q1] at k9
        have := hok.resolve_left q1; omega
    have hs : sz ≤ 36 := by omega
    have hen2 := hsz2 hs
    obtain ⟨c1, c2⟩ := J1.2.2.2.2.2.2.2.2.2.2.2.2 hs
    obtain ⟨d1, d2⟩ := c1 0 (Nat.le_refl _)
    have d2' := d2
    rw [show (0 : Nat) + 1 = 1 by omega] at d2'
    rw [show cq_u lsN (0 + 1) pc 1 = pc from cq_us, show cq_u od (0 + 1) en 1 = en from cq_us, show cq_u lsN (0 + 1) pc 0 = 0 from (cq_un (by omega)).trans k4, show cq_u od (0 + 1) en 0 = 0 from (cq_un (by omega)).trans k6, k5] at d2'
    obtain ⟨b1', b2', _⟩ := cp_L_le d2'
    obtain ⟨J0, hJ0, hJ1⟩ : ∃ J0 : List Nat, fg_JC (fg_q b_op b_with b_one b_two) J0 (b_jumps 0) ∧ ((a_levelEntry 0 = -2 ∧ J0 = []) ∨ (¬ a_levelEntry 0 = -2 ∧ J0 = J 0 ∧ ∀ j, j ∈ J 0 → j < br 0 ∧ b_op j = 4)) := by
      rcases d2'.2.1 with ⟨a1, _, _, a4⟩ | ⟨a1, a2, a3⟩
      · exact ⟨[], a4, Or.inl ⟨a1, rfl⟩⟩
      · exact ⟨J 0, a3, Or.inr ⟨a1, rfl, fun j hj => ⟨(a2.2.2.2.1 j hj).2.1, (a2.2.2.2.1 j hj).2.2⟩⟩⟩
    have hJb : ∀ j, j ∈ J0 → j < en := by
      intro j hj
      rcases hJ1 with ⟨_, h2⟩ | ⟨_, h2, h3⟩
      · rw [h2] at hj; cases hj
      · rw [h2] at hj; have := (h3 j hj).1; omega
    obtain ⟨D1, _⟩ := cp_done (m' := fg_q b_op b_with (cy_pt en J0 b_one) b_two) (x' := fg_q K V N S) (pc' := pc1) (le' := e1) d2' (by omega) (fun j j1 j2 j3 => by
        unfold fg_q
        rw [cy_pt_n J0 b_one j (fun hj => by
          rcases hJ1 with ⟨_, h2⟩ | ⟨h1, h2, h3⟩
          · rw [h2] at hj; cases hj
          · rw [h2] at hj; exact j3 h1 hj)]) (fun hne j hj => by
        rcases hJ1 with ⟨h1, _⟩ | ⟨h1, h2, h3⟩
        · exact absurd h1 hne
        · have hj0 : j ∈ J0 := by rw [h2]; exact hj
          have hlt := hJb j hj0
          refine ⟨(h3 j hj).2, ?_⟩
          show nI j + cy_pt en J0 b_one j = nI en
          rw [cy_pt_m J0 b_one j hj0, nI_add]
          congr 1; omega) (fun p _ p2 => f2 p p2) f1
    have D1' : fg_F (fg_q b_op b_with (cy_pt en J0 b_one) b_two) (fg_q K V N S) 0 en 0 pc1 e1 := D1
    refine ⟨pc1, en, e1, K, V, N, S, upd b_op en 6, upd b_with en 0, upd (cy_pt en J0 b_one) en 0, upd b_two en 0, hpc1.2, hen2, rl_us, fg_frame D1' (fun j _ j2 => fg_q_un (by omega)) (fun _ _ _ => rfl), rl_Bu B1 (cy_Bn (n := 6) (by omega)), rl_Bu B2 (cy_Bn (n := 0) (by omega)), rl_Su (cy_pt_S (by omega) J0 _ S1) (cy_Sn (n := 0) (by omega)), rl_Su S2 (cy_Sn (n := 0) (by omega)), fun post h => ?_, fun post h => ?_⟩
    · refine br_t hle ?_
      unfold wX_buildPattern_104
      refine J2 _ ?_
      refine f3 _ ?_
      refine ⟨hv, nm_r (e' := e1) (by rw [e0, rl_us]) ?_⟩
      exact h _ _ _ _ _ _ _ _ _
    · rw [cq_la0 hs]
      refine br_t hle (br_t rfl ?_)
      refine cy_closeC (m := fg_q b_op b_with b_one b_two) (J := J0) (lv := 0) (by omega) (by omega) hJ0 (fun j hj => ⟨hJb j hj, rfl⟩) ?_
      have hgof := (J1.2.2.2.2.2.2.2.2.2.2.2.1 0 (Nat.le_refl _)).2.1
      rw [k5] at hgof
      refine cy_close55_0 (by omega) hgof ?_
      refine br_t rfl ?_
      refine cy_emit (by omega) (cy_Bn (n := 6) (by omega)) (cy_Bn (n := 0) (by omega)) (cy_Sn (n := 0) (by omega)) (cy_Sn (n := 0) (by omega)) ?_
      exact h _ _ _ _ _ _ _ _ _ _ _ _ _ _ _
  · right
    have hne : ¬ a_levelEntry 0 = -2 := fun e => hok (Or.inl e)
    obtain rfl : pc = 36 := by omega
    rw [if_neg hne] at k9
    have hs : 36 < sz := by omega
    refine ⟨fun post h => ?_, fun post h => ?_⟩
    · refine br_t hle ?_
      unfold wX_buildPattern_104
      refine J2 _ ?_
      refine cx_end3 (by omega) hne ?_
      refine ⟨hv, nm_e ?_⟩
      exact h _ _ _ _ _ _ _ _ _ _ _ _ _ _ _
    · rw [cq_la1 hs]
      refine br_t hle (br_t rfl ?_)
      refine cy_close1 (lv := 0) (by omega) ?_
      exact br_f (by decide) (h _ _ _ _ _ _ _ _ _ _ _ _ _ _ _ _ _ _ _ B1 B2 S1 S2)
end TP
