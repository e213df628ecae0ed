section EZ
theorem rl_us {f : Nat → Int32} {k : Nat} {x : Int32} : upd f k x k = x := if_pos rfl
theorem rl_un {f : Nat → Int32} {k j : Nat} {x : Int32} (h : j ≠ k) : upd f k x j = f j := if_neg h
theorem i_vc_token {k : Nat} {u : SX} {v : SY} (I : i_Rel k u v) (hk : k + 3 ≤ 1536) (v1 : Int32) (v2 : Int32) : wpX_token (fun r u' => wpY_token (fun r' v' => r' = r ∧ i_Rel (k + 3) u' v') v v1 v2) u v1 v2 := by
  obtain ⟨f_tokens, f_faultPlace, f_length, f_pieces, f_patternEntry, f_hasPattern, f_tooLarge, f_level, f_groups, f_atomStart, f_atomEntry, f_choices, f_wayPiece, f_wayPlace, f_wayNotes, f_hasResult, f_resultStart, f_resultEnd, f_resultNotes, a_tokenKind, a_tokenValue, a_text, a_pieceKind, a_pieceValue, a_pieceNext, a_pieceSecond, a_levelGroup, a_levelStart, a_levelEntry, a_branchStart, a_branchEntry, a_placesSeen, a_choicePiece, a_choicePlace, a_choiceNotes⟩ := u
  obtain ⟨g_count, g_place, g_end, g_size, g_large, g_ready, g_depth, g_groups, g_atom, g_atomSize, g_length, g_found, b_kind, b_value, b_op, b_with, b_one, b_two, b_copyOp, b_copyWith, b_copyOne, b_copyTwo, b_opened, b_branch, b_sizes, b_jumps, b_groupOf, b_text, b_met, b_todo, b_notes⟩ := v
  have I0 := I
  obtain ⟨c, n, hc, rfl, rfl, rfl, htok, rfl, hn, rfl, rfl, rfl, rfl, hpat, rfl, hres, hB1, hB2, hS1, hS2⟩ := I
  by_cases h24 : c = 24
  · subst h24
    refine br_t (by decide) ?_
    by_cases h0 : v1 < 0
    · exact br_t h0 ⟨rfl, I0⟩
    · by_cases h15 : 15 < v1
      · exact br_f h0 (br_t h15 ⟨rfl, I0⟩)
      · exact br_f h0 (br_f h15 (br_t rfl ⟨rfl, I0⟩))
  · have n24 : ¬ (24 : Int32) ≤ nI c := nI_ge (b := 24) (by omega) (by omega)
    have e24 : ¬ nI c = 24 := fun h => h24 ((nI_eq (b := 24) (by omega) (by omega)).mp h)
    by_cases h0 : v1 < 0
    · exact br_f n24 (br_t h0 (br_t h0 ⟨rfl, I0⟩))
    · by_cases h15 : 15 < v1
      · exact br_f n24 (br_f h0 (br_t h15 (br_f h0 (br_t h15 ⟨rfl, I0⟩))))
      · obtain ⟨kk, hkk, rfl⟩ := nI_of h0
        have hk15 : kk ≤ 15 := by
          rw [show (15 : Int32) = nI 15 from rfl, nI_ltI (by omega) hkk] at h15; omega
        rcases tk_val (g_count := nI c) (g_place := g_place) (g_end := g_end) (g_size := g_size) (g_large := g_large) (g_ready := g_ready) (g_depth := g_depth) (g_groups := g_groups) (g_atom := g_atom) (g_atomSize := g_atomSize) (g_length := nI n) (g_found := g_found) (b_kind := b_kind) (b_value := b_value) (b_op := b_op) (b_with := b_with) (b_one := b_one) (b_two := b_two) (b_copyOp := b_copyOp) (b_copyWith := b_copyWith) (b_copyOne := b_copyOne) (b_copyTwo := b_copyTwo) (b_opened := b_opened) (b_branch := b_branch) (b_sizes := b_sizes) (b_jumps := b_jumps) (b_groupOf := b_groupOf) (b_text := b_text) (b_met := b_met) (b_todo := b_todo) (b_notes := b_notes) kk hk15 v2 e24 with ⟨hX, hY, ht⟩ | ⟨hX, hY⟩
        · have hv : vp_in (nI c) 24 := vp_in_nI (by omega) (by omega)
          have ec : (nI c).toNatClampNeg = c := nI_clamp (by omega)
          refine br_f n24 (br_f h0 (br_f h15 (hX _ (br_f (by decide) ⟨hv, nm_r (by rw [ec]) ⟨hv, nm_r (by rw [ec]) (nm_r (nI_1 c) ?_)⟩⟩))))
          refine hY _ ?_
          refine ⟨hv, nm_r (by rw [ec, ym_nb (by omega)]) (nm_r (nI_1 c) ⟨hv, nm_r (by rw [ec]) ⟨rfl, ?_⟩⟩)⟩
          refine ⟨c + 1, n, by omega, rfl, rfl, rfl, ?_, rfl, hn, rfl, rfl, rfl, rfl, hpat, rfl, hres, hB1, hB2, hS1, hS2⟩
          intro j hj
          by_cases e : j = c
          · rw [e, rl_us, rl_us, rl_us]; exact ht
          · rw [rl_un e, rl_un e, rl_un e]; exact htok j (by omega)
        · refine br_f n24 (br_f h0 (br_f h15 (hX _ (br_t rfl ?_))))
          refine hY _ ?_
          exact ⟨rfl, I0⟩
theorem i_vc_wipe {k : Nat} {u : SX} {v : SY} (I : i_Rel k u v) (hk : k + 3 ≤ 1536) : wpX_wipe (fun r u' => wpY_wipe (fun r' v' => r' = r ∧ i_Rel (k + 3) u' v') v) u := by
  obtain ⟨f_tokens, f_faultPlace, f_length, f_pieces, f_patternEntry, f_hasPattern, f_tooLarge, f_level, f_groups, f_atomStart, f_atomEntry, f_choices, f_wayPiece, f_wayPlace, f_wayNotes, f_hasResult, f_resultStart, f_resultEnd, f_resultNotes, a_tokenKind, a_tokenValue, a_text, a_pieceKind, a_pieceValue, a_pieceNext, a_pieceSecond, a_levelGroup, a_levelStart, a_levelEntry, a_branchStart, a_branchEntry, a_placesSeen, a_choicePiece, a_choicePlace, a_choiceNotes⟩ := u
  obtain ⟨g_count, g_place, g_end, g_size, g_large, g_ready, g_depth, g_groups, g_atom, g_atomSize, g_length, g_found, b_kind, b_value, b_op, b_with, b_one, b_two, b_copyOp, b_copyWith, b_copyOne, b_copyTwo, b_opened, b_branch, b_sizes, b_jumps, b_groupOf, b_text, b_met, b_todo, b_notes⟩ := v
  obtain ⟨c, n, hc, rfl, rfl, rfl, htok, rfl, hn, rfl, rfl, rfl, rfl, hpat, rfl, hres, hB1, hB2, hS1, hS2⟩ := I
  exact ⟨rfl, 0, n, by omega, rfl, rfl, rfl, fun j hj => by omega, rfl, hn, rfl, rfl, rfl, rfl, hpat, rfl, hres, hB1, hB2, hS1, hS2⟩
theorem i_vc_place {k : Nat} {u : SX} {v : SY} (I : i_Rel k u v) (hk : k + 3 ≤ 1536) : wpX_place (fun r => wpY_place (fun r' => r' = r ∧ i_Rel (k + 3) u v) v) u := by
  obtain ⟨f_tokens, f_faultPlace, f_length, f_pieces, f_patternEntry, f_hasPattern, f_tooLarge, f_level, f_groups, f_atomStart, f_atomEntry, f_choices, f_wayPiece, f_wayPlace, f_wayNotes, f_hasResult, f_resultStart, f_resultEnd, f_resultNotes, a_tokenKind, a_tokenValue, a_text, a_pieceKind, a_pieceValue, a_pieceNext, a_pieceSecond, a_levelGroup, a_levelStart, a_levelEntry, a_branchStart, a_branchEntry, a_placesSeen, a_choicePiece, a_choicePlace, a_choiceNotes⟩ := u
  obtain ⟨g_count, g_place, g_end, g_size, g_large, g_ready, g_depth, g_groups, g_atom, g_atomSize, g_length, g_found, b_kind, b_value, b_op, b_with, b_one, b_two, b_copyOp, b_copyWith, b_copyOne, b_copyTwo, b_opened, b_branch, b_sizes, b_jumps, b_groupOf, b_text, b_met, b_todo, b_notes⟩ := v
  have I0 := I
  obtain ⟨c, n, hc, rfl, rfl, rfl, htok, rfl, hn, rfl, rfl, rfl, rfl, hpat, rfl, hres, hB1, hB2, hS1, hS2⟩ := I
  exact ⟨rfl, I0⟩
theorem i_vc_type {k : Nat} {u : SX} {v : SY} (I : i_Rel k u v) (hk : k + 3 ≤ 1536) (v1 : Int32) : wpX_type (fun r u' => wpY_type (fun r' v' => r' = r ∧ i_Rel (k + 3) u' v') v v1) u v1 := by
  obtain ⟨f_tokens, f_faultPlace, f_length, f_pieces, f_patternEntry, f_hasPattern, f_tooLarge, f_level, f_groups, f_atomStart, f_atomEntry, f_choices, f_wayPiece, f_wayPlace, f_wayNotes, f_hasResult, f_resultStart, f_resultEnd, f_resultNotes, a_tokenKind, a_tokenValue, a_text, a_pieceKind, a_pieceValue, a_pieceNext, a_pieceSecond, a_levelGroup, a_levelStart, a_levelEntry, a_branchStart, a_branchEntry, a_placesSeen, a_choicePiece, a_choicePlace, a_choiceNotes⟩ := u
  obtain ⟨g_count, g_place, g_end, g_size, g_large, g_ready, g_depth, g_groups, g_atom, g_atomSize, g_length, g_found, b_kind, b_value, b_op, b_with, b_one, b_two, b_copyOp, b_copyWith, b_copyOne, b_copyTwo, b_opened, b_branch, b_sizes, b_jumps, b_groupOf, b_text, b_met, b_todo, b_notes⟩ := v
  have I0 := I
  obtain ⟨c, n, hc, rfl, rfl, rfl, htok, rfl, hn, rfl, rfl, rfl, rfl, hpat, rfl, hres, hB1, hB2, hS1, hS2⟩ := I
  by_cases h0 : v1 < 0
  · exact br_t h0 (br_t h0 ⟨rfl, I0⟩)
  · by_cases h3 : 3 < v1
    · exact br_f h0 (br_t h3 (br_f h0 (br_t h3 ⟨rfl, I0⟩)))
    · obtain ⟨j, hj, rfl⟩ := nI_of h0
      have hj3 : j ≤ 3 := by
        rw [show (3 : Int32) = nI 3 from rfl, nI_ltI (by omega) hj] at h3; omega
      by_cases h32 : n = 32
      · subst h32
        exact br_f h0 (br_f h3 (br_f (by decide) (br_f h0 (br_f h3 (br_t rfl ⟨rfl, I0⟩)))))
      · have n32 : ¬ nI n = 32 := fun h => h32 ((nI_eq (b := 32) (by omega) (by omega)).mp h)
        have hv : vp_in (nI n) 32 := vp_in_nI (by omega) (by omega)
        have en : (nI n).toNatClampNeg = n := nI_clamp (by omega)
        refine br_f h0 (br_f h3 (br_t (nI_lt (b := 32) (by omega) (by omega)) ⟨hv, nm_r (by rw [en]) (nm_r (nI_1 n) (br_f h0 (br_f h3 (br_f n32 (nm_r (nI_1 n) ⟨hv, nm_r (by rw [en, ym_nb (by omega)]) ⟨rfl, ?_⟩⟩)))))⟩))
        exact ⟨c, n + 1, hc, rfl, rfl, rfl, htok, rfl, by omega, rfl, rfl, rfl, rfl, hpat, rfl, hres, hB1, hB2, hS1, hS2⟩
theorem i_vc_cut {k : Nat} {u : SX} {v : SY} (I : i_Rel k u v) (hk : k + 3 ≤ 1536) (v1 : Int32) : wpX_cut (fun r u' => wpY_cut (fun r' v' => r' = r ∧ i_Rel (k + 3) u' v') v v1) u v1 := by
  obtain ⟨f_tokens, f_faultPlace, f_length, f_pieces, f_patternEntry, f_hasPattern, f_tooLarge, f_level, f_groups, f_atomStart, f_atomEntry, f_choices, f_wayPiece, f_wayPlace, f_wayNotes, f_hasResult, f_resultStart, f_resultEnd, f_resultNotes, a_tokenKind, a_tokenValue, a_text, a_pieceKind, a_pieceValue, a_pieceNext, a_pieceSecond, a_levelGroup, a_levelStart, a_levelEntry, a_branchStart, a_branchEntry, a_placesSeen, a_choicePiece, a_choicePlace, a_choiceNotes⟩ := u
  obtain ⟨g_count, g_place, g_end, g_size, g_large, g_ready, g_depth, g_groups, g_atom, g_atomSize, g_length, g_found, b_kind, b_value, b_op, b_with, b_one, b_two, b_copyOp, b_copyWith, b_copyOne, b_copyTwo, b_opened, b_branch, b_sizes, b_jumps, b_groupOf, b_text, b_met, b_todo, b_notes⟩ := v
  have I0 := I
  obtain ⟨c, n, hc, rfl, rfl, rfl, htok, rfl, hn, rfl, rfl, rfl, rfl, hpat, rfl, hres, hB1, hB2, hS1, hS2⟩ := I
  by_cases h1 : 1 ≤ v1
  · have h0 : ¬ v1 < 0 := fun h => absurd (Int32.lt_of_lt_of_le h (Int32.le_trans (by decide) h1)) (Int32.lt_irrefl)
    obtain ⟨j, hj, rfl⟩ := nI_of h0
    by_cases hnj : n ≤ j
    · have h := nI_le hnj hj
      refine br_t h1 (br_t h (nm_e (br_t h1 (br_t h (nm_e ⟨rfl, ?_⟩)))))
      have e : nI n - nI n = nI 0 := by rw [pk_sub (Nat.le_refl _), Nat.sub_self]
      exact ⟨c, 0, hc, rfl, rfl, rfl, htok, rfl, by omega, e, e, rfl, rfl, hpat, rfl, hres, hB1, hB2, hS1, hS2⟩
    · have h := nI_ge (show j < n by omega) (by omega)
      refine br_t h1 (br_f h (nm_e (br_t h1 (br_f h (nm_e ⟨rfl, ?_⟩)))))
      have e : nI n - nI j = nI (n - j) := pk_sub (by omega)
      exact ⟨c, n - j, hc, rfl, rfl, rfl, htok, rfl, by omega, e, e, rfl, rfl, hpat, rfl, hres, hB1, hB2, hS1, hS2⟩
  · refine br_f h1 (br_f h1 (nm_r (show nI n - 0 = nI n from Int32.sub_zero _) ⟨rfl, I0⟩))
theorem gr_nn : ∀ g, 1 ≤ g → g ≤ 3 → (2 * (nI g - 1) + 0 = nI (2 * (g - 1)) ∧ 2 * (nI g - 1) + 1 = nI (2 * (g - 1) + 1) ∧ 2 * nI g = nI (2 * (g - 1) + 2) ∧ 2 * nI g + 1 = nI (2 * (g - 1) + 1 + 2)) := by
  intro g h1 h3
  have : g = 1 ∨ g = 2 ∨ g = 3 := by omega
  rcases this with h | h | h <;> subst h <;> decide
theorem i_vc_group {k : Nat} {u : SX} {v : SY} (I : i_Rel k u v) (hk : k + 3 ≤ 1536) (v1 : Int32) (v2 : Int32) : wpX_group (fun r => wpY_group (fun r' => r' = r ∧ i_Rel (k + 3) u v) v v1 (lw_bz v2)) u v1 (lw_bz v2) := by
  obtain ⟨f_tokens, f_faultPlace, f_length, f_pieces, f_patternEntry, f_hasPattern, f_tooLarge, f_level, f_groups, f_atomStart, f_atomEntry, f_choices, f_wayPiece, f_wayPlace, f_wayNotes, f_hasResult, f_resultStart, f_resultEnd, f_resultNotes, a_tokenKind, a_tokenValue, a_text, a_pieceKind, a_pieceValue, a_pieceNext, a_pieceSecond, a_levelGroup, a_levelStart, a_levelEntry, a_branchStart, a_branchEntry, a_placesSeen, a_choicePiece, a_choicePlace, a_choiceNotes⟩ := u
  obtain ⟨g_count, g_place, g_end, g_size, g_large, g_ready, g_depth, g_groups, g_atom, g_atomSize, g_length, g_found, b_kind, b_value, b_op, b_with, b_one, b_two, b_copyOp, b_copyWith, b_copyOne, b_copyTwo, b_opened, b_branch, b_sizes, b_jumps, b_groupOf, b_text, b_met, b_todo, b_notes⟩ := v
  have I0 := I
  obtain ⟨c, n, hc, rfl, rfl, rfl, htok, rfl, hn, rfl, rfl, rfl, rfl, hpat, rfl, hres, hB1, hB2, hS1, hS2⟩ := I
  rcases hres with rfl | ⟨rfl, s, a, w, hsa, ha, rfl, rfl, hn0, hn1, hNX, hNO⟩
  · exact br_t rfl (br_t rfl ⟨rfl, I0⟩)
  · have h10 : ¬ (1 : Int32) = 0 := by decide
    by_cases h0 : v1 < 0
    · exact br_f h10 (br_t h0 (br_f h10 (br_t h0 ⟨rfl, I0⟩)))
    · by_cases h3 : v1 ≤ 3
      · obtain ⟨g, hg, rfl⟩ := nI_of h0
        have hg3 : g ≤ 3 := by
          rw [show (3 : Int32) = nI 3 from rfl, nI_leI hg (by omega)] at h3; omega
        by_cases hg0 : g = 0
        · subst hg0
          refine br_f h10 (br_f h0 (br_t h3 (br_t rfl (br_c (fun hz => ?_) (fun hz => ?_)))))
          · refine br_f h10 (br_f h0 (br_t h3 (br_t hz ⟨vp_in_iff.mpr (by decide), ?_, I0⟩)))
            exact hn0
          · refine br_f h10 (br_f h0 (br_t h3 (br_f hz ⟨vp_in_iff.mpr (by decide), ?_, I0⟩)))
            exact hn1
        · obtain ⟨e1, e2, e3, e4⟩ := gr_nn g (by omega) hg3
          have ng : ¬ nI g = 0 := nI_ne0 (by omega) (by omega)
          refine br_f h10 (br_f h0 (br_t h3 (br_f ng (br_c (fun hz => ?_) (fun hz => ?_)))))
          · have hv := (hNO (2 * (g - 1)) (by omega))
            rw [e1]
            refine nm_r (show 6 * nI (2 * (g - 1)) = nI (6 * (2 * (g - 1))) from pk_mul 6 _) (br_f h10 (br_f h0 (br_t h3 (br_t hz ?_))))
            rw [e3, mm_get hNX (by omega) hv.2, nI_clamp (by omega)]
            exact ⟨vp_in_nI (by omega) (by omega), hv.1, I0⟩
          · have hv := (hNO (2 * (g - 1) + 1) (by omega))
            rw [e2]
            refine nm_r (show 6 * nI (2 * (g - 1) + 1) = nI (6 * (2 * (g - 1) + 1)) from pk_mul 6 _) (br_f h10 (br_f h0 (br_t h3 (br_f hz ?_))))
            rw [e4, mm_get hNX (by omega) hv.2, nI_clamp (by omega)]
            exact ⟨vp_in_nI (by omega) (by omega), hv.1, I0⟩
      · exact br_f h10 (br_f h0 (br_f h3 (br_f h10 (br_f h0 (br_f h3 ⟨rfl, I0⟩)))))
end EZ
