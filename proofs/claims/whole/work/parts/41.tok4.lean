section TN
variable {f_tokens f_faultPlace f_length f_pieces f_patternEntry f_hasPattern f_tooLarge f_level f_groups f_atomStart f_atomEntry f_choices f_wayPiece f_wayPlace : Int32} {f_wayNotes : Int64} {f_hasResult f_resultStart f_resultEnd : Int32} {f_resultNotes : Int64} {a_tokenKind a_tokenValue a_text a_pieceKind a_pieceValue a_pieceNext a_pieceSecond a_levelGroup a_levelStart a_levelEntry a_branchStart a_branchEntry : Nat → Int32} {a_placesSeen : Nat → Int64} {a_choicePiece a_choicePlace : Nat → Int32} {a_choiceNotes : Nat → Int64}
variable {g_count g_place g_end g_size g_large g_ready g_depth g_groups g_atom g_atomSize g_length g_found : Int32} {b_kind b_value b_op b_with b_one b_two b_copyOp b_copyWith b_copyOne b_copyTwo b_opened b_branch b_sizes b_jumps b_groupOf b_text : Nat → Int32} {b_met : Nat → Int64} {b_todo b_notes : Nat → Int32}
variable {pc en sz g c i l : Nat} {gg lsN bsN od br : Nat → Nat} {J : Nat → List Nat} {b : Bool} {w : Int32}
theorem tk_close (hc : c ≤ 24) (hi : i < c) (hK : a_tokenKind i = nI 5)
    (H : cq_A b (l + 1) pc en sz gg lsN bsN od br J f_atomStart f_atomEntry g_atom g_atomSize a_pieceKind a_pieceValue a_pieceNext a_pieceSecond a_levelGroup a_levelStart a_levelEntry a_branchStart a_branchEntry b_op b_with b_one b_two b_opened b_branch b_sizes b_jumps b_groupOf) :
    tk_C (nI c) f_faultPlace f_length (nI pc) f_patternEntry f_hasPattern 0 (nI (l + 1)) (nI g) f_atomStart f_atomEntry f_choices f_wayPiece f_wayPlace f_wayNotes f_hasResult f_resultStart f_resultEnd f_resultNotes a_tokenKind a_tokenValue a_text a_pieceKind a_pieceValue a_pieceNext a_pieceSecond a_levelGroup a_levelStart a_levelEntry a_branchStart a_branchEntry a_placesSeen a_choicePiece a_choicePlace a_choiceNotes g_count g_place (nI en) (nI sz) (cq_la sz) g_ready (nI (l + 1 + 1)) (nI g) g_atom g_atomSize g_length g_found b_kind b_value b_op b_with b_one b_two b_copyOp b_copyWith b_copyOne b_copyTwo b_opened b_branch b_sizes b_jumps b_groupOf b_text b_met b_todo b_notes i 5 w (l, g, true) := by
  obtain ⟨HK, has, hb1, hb0, B1, B2, S1, S2⟩ := H
  obtain ⟨N', S', be', J1, J2⟩ := tk_join (f_tokens := nI c) (f_faultPlace := f_faultPlace) (f_length := f_length) (f_pieces := nI pc) (f_patternEntry := f_patternEntry) (f_hasPattern := f_hasPattern) (f_tooLarge := 0) (f_groups := nI g) (f_atomStart := f_atomStart) (f_atomEntry := f_atomEntry) (f_choices := f_choices) (f_wayPiece := f_wayPiece) (f_wayPlace := f_wayPlace) (f_wayNotes := f_wayNotes) (f_hasResult := f_hasResult) (f_resultStart := f_resultStart) (f_resultEnd := f_resultEnd) (f_resultNotes := f_resultNotes) (a_tokenKind := a_tokenKind) (a_tokenValue := a_tokenValue) (a_text := a_text) (a_pieceKind := a_pieceKind) (a_pieceValue := a_pieceValue) (a_pieceNext := a_pieceNext) (a_pieceSecond := a_pieceSecond) (a_levelGroup := a_levelGroup) (a_levelStart := a_levelStart) (a_levelEntry := a_levelEntry) (a_branchStart := a_branchStart) (a_branchEntry := a_branchEntry) (a_placesSeen := a_placesSeen) (a_choicePiece := a_choicePiece) (a_choicePlace := a_choicePlace) (a_choiceNotes := a_choiceNotes) HK has
  have hlv := HK.1
  have hpc := HK.2.1
  have hen := HK.2.2.1
  obtain ⟨hszb, hsz, hsz2, hop⟩ := cq_szb HK
  have k9 : sz = pc + (cp_sum gg a_levelEntry (l + 1) + cp_lag (gg (l + 1)) (a_levelEntry (l + 1))) := HK.2.2.2.2.2.2.2.2.1
  have hls0 : cq_u lsN (l + 1 + 1) pc (l + 2) = pc := cq_us
  have hod0 : cq_u od (l + 1 + 1) en (l + 2) = en := cq_us
  generalize cq_u lsN (l + 1 + 1) pc = lsM at J1 hls0
  generalize cq_u od (l + 1 + 1) en = oM at J1 hod0
  obtain ⟨f1, f2, f3, f4, f5, f6, f7, f8, f9, f10, f11, f12, f13⟩ := J1.2.2.2.2.2.2.2.2.2.2.2.1 (l + 1) (Nat.le_refl _)
  have f8' : bsN (l + 1) ≤ pc := by rw [← hls0]; exact f8
  have hap : lsM (l + 1) ≤ pc := by omega
  by_cases hfit : pc + cp_lag (gg (l + 1)) (a_levelEntry (l + 1)) ≤ 36
  · left
    obtain ⟨pc1, pc', e1, ae', K1, V1, N1, S1', K, V, N, S, g1, g2, g3, g4⟩ := xt_closeOK (f_tokens := nI c) (f_faultPlace := f_faultPlace) (f_length := f_length) (f_patternEntry := f_patternEntry) (f_hasPattern := f_hasPattern) (f_tooLarge := 0) (f_groups := nI g) (f_atomStart := f_atomStart) (f_atomEntry := (-1)) (f_choices := f_choices) (f_wayPiece := f_wayPiece) (f_wayPlace := f_wayPlace) (f_wayNotes := f_wayNotes) (f_hasResult := f_hasResult) (f_resultStart := f_resultStart) (f_resultEnd := f_resultEnd) (f_resultNotes := f_resultNotes) (a_tokenKind := a_tokenKind) (a_tokenValue := a_tokenValue) (a_text := a_text) (a_pieceKind := a_pieceKind) (a_pieceValue := a_pieceValue) (a_pieceNext := N') (a_pieceSecond := S') (a_levelGroup := a_levelGroup) (a_levelStart := a_levelStart) (a_levelEntry := a_levelEntry) (a_branchStart := a_branchStart) (a_branchEntry := be') (a_placesSeen := a_placesSeen) (a_choicePiece := a_choicePiece) (a_choicePlace := a_choicePlace) (a_choiceNotes := a_choiceNotes) (l := l) (pc := pc) (a := lsM (l + 1)) (g := gg (l + 1)) (by omega) f1 f3 f4 hap hfit
    have hpc' : pc' = pc + cp_lag (gg (l + 1)) (a_levelEntry (l + 1)) := by
      unfold cp_lag cp_gb
      rcases g1 with ⟨h1, _, h⟩ | ⟨h1, _, h, _⟩
      · rw [if_pos h1]
        rcases g3 with ⟨y1, y2, _⟩ | ⟨y1, y2, _⟩
        · rw [if_neg (by omega)]; omega
        · rw [if_pos y1]; omega
      · rw [if_neg h1]
        rcases g3 with ⟨y1, y2, _⟩ | ⟨y1, y2, _⟩
        · rw [if_neg (by omega)]; omega
        · rw [if_pos y1]; omega
    have hX : ∀ (post : SX → Prop) (n : Nat), wX_buildPattern_32 post n (nI (i + 1)) (nI c) f_faultPlace f_length (nI pc') f_patternEntry f_hasPattern 0 (nI l) (nI g) (nI (lsM (l + 1))) ae' f_choices f_wayPiece f_wayPlace f_wayNotes f_hasResult f_resultStart f_resultEnd f_resultNotes a_tokenKind a_tokenValue a_text K V N S a_levelGroup a_levelStart (upd a_levelEntry (l + 1) e1) (upd a_branchStart (l + 1) (nI pc1)) (upd be' (l + 1) (-1)) a_placesSeen a_choicePiece a_choicePlace a_choiceNotes → wX_buildPattern_32 post (n + 1) (nI i) (nI c) f_faultPlace f_length (nI pc) f_patternEntry f_hasPattern 0 (nI (l + 1)) (nI g) f_atomStart f_atomEntry f_choices f_wayPiece f_wayPlace f_wayNotes f_hasResult f_resultStart f_resultEnd f_resultNotes a_tokenKind a_tokenValue a_text a_pieceKind a_pieceValue a_pieceNext a_pieceSecond a_levelGroup a_levelStart a_levelEntry a_branchStart a_branchEntry a_placesSeen a_choicePiece a_choicePlace a_choiceNotes := by
      intro post n h
      exact xl_tok (F := fun u => u = (nI c, f_faultPlace, f_length, nI pc', f_patternEntry, f_hasPattern, 0, nI l, nI g, nI (lsM (l + 1)), ae', f_choices, f_wayPiece, f_wayPlace, f_wayNotes, f_hasResult, f_resultStart, f_resultEnd, f_resultNotes, a_tokenKind, a_tokenValue, a_text, K, V, N, S, a_levelGroup, a_levelStart, upd a_levelEntry (l + 1) e1, upd a_branchStart (l + 1) (nI pc1), upd be' (l + 1) (-1), a_placesSeen, a_choicePiece, a_choicePlace, a_choiceNotes)) hc hi (by omega) rfl hK rfl J2 (fun post' h' => xt_close5 (F := fun u => u = (nI c, f_faultPlace, f_length, nI pc', f_patternEntry, f_hasPattern, 0, nI l, nI g, nI (lsM (l + 1)), ae', f_choices, f_wayPiece, f_wayPlace, f_wayNotes, f_hasResult, f_resultStart, f_resultEnd, f_resultNotes, a_tokenKind, a_tokenValue, a_text, K, V, N, S, a_levelGroup, a_levelStart, upd a_levelEntry (l + 1) e1, upd a_branchStart (l + 1) (nI pc1), upd be' (l + 1) (-1), a_placesSeen, a_choicePiece, a_choicePlace, a_choiceNotes)) (fun post2 h2 => g4 post2 (h2 _ rfl)) h') (fun u hu => by rw [hu]; exact h)
    have azE : nI sz - b_sizes (l + 1) = nI (pc' - lsM (l + 1)) := by
      rw [f6, pk_sub (by omega)]
      congr 1; omega
    by_cases hs : sz ≤ 36
    · have hen2 := hsz2 hs
      obtain ⟨c1, c2⟩ := J1.2.2.2.2.2.2.2.2.2.2.2.2 hs
      obtain ⟨d1, d2⟩ := c1 (l + 1) (Nat.le_refl _)
      have d2' := d2
      rw [show l + 1 + 1 = l + 2 by omega, hls0, hod0] at d2'
      obtain ⟨b1', b2', _⟩ := cp_L_le d2'
      obtain ⟨J0, hJ0, hJ1⟩ : ∃ J0 : List Nat, fg_JC (fg_q b_op b_with b_one b_two) J0 (b_jumps (l + 1)) ∧ ((a_levelEntry (l + 1) = -2 ∧ J0 = []) ∨ (¬ a_levelEntry (l + 1) = -2 ∧ J0 = J (l + 1) ∧ ∀ j, j ∈ J (l + 1) → j < br (l + 1) ∧ b_op j = 4)) := by
        rcases d2.2.1 with ⟨a1, _, _, a4⟩ | ⟨a1, a2, a3⟩
        · exact ⟨[], a4, Or.inl ⟨a1, rfl⟩⟩
        · exact ⟨J (l + 1), a3, Or.inr ⟨a1, rfl, fun j hj => ⟨(a2.2.2.2.1 j hj).2.1, (a2.2.2.2.1 j hj).2.2⟩⟩⟩
      have hJb : ∀ j, j ∈ J0 → j < en := by
        intro j hj
        rcases hJ1 with ⟨_, h2⟩ | ⟨_, h2, h3⟩
        · rw [h2] at hj; cases hj
        · rw [h2] at hj; have := (h3 j hj).1; omega
      have hn : ∀ j, (¬ a_levelEntry (l + 1) = -2 → ¬ j ∈ J (l + 1)) → ¬ j ∈ J0 := by
        intro j h hj
        rcases hJ1 with ⟨_, h2⟩ | ⟨h1, h2, h3⟩
        · rw [h2] at hj; cases hj
        · rw [h2] at hj; exact h h1 hj
      have hm : ¬ a_levelEntry (l + 1) = -2 → ∀ j, j ∈ J (l + 1) → b_op j = 4 ∧ j < en ∧ nI j + cy_pt en J0 b_one j = nI en := by
        intro hne j hj
        rcases hJ1 with ⟨h1, _⟩ | ⟨h1, h2, h3⟩
        · exact absurd h1 hne
        · have hj0 : j ∈ J0 := by rw [h2]; exact hj
          have hlt := hJb j hj0
          rw [cy_pt_m J0 b_one j hj0, nI_add]
          exact ⟨(h3 j hj).2, hlt, by congr 1; omega⟩
      by_cases hg0 : gg (l + 1) = 0
      · have egb : cp_gb (gg (l + 1)) = 0 := by rw [hg0]; rfl
        obtain ⟨Q, q2, q3⟩ := cq_close (m' := fg_q b_op b_with (cy_pt en J0 b_one) b_two) (x' := fg_q K V N S) (en' := en) (pc' := pc') (ae' := ae') J1 hls0 hod0 (by omega) (by omega) g1 g2 g3 (fun _ => ⟨by rw [egb]; rfl, fun j _ hj => by unfold fg_q; rw [cy_pt_n J0 b_one j (hn j hj)], fun hne j hj => ⟨(hm hne j hj).1, (hm hne j hj).2.2⟩, fun h => by omega⟩)
        refine ⟨l, pc', en, sz, gg, lsM, bsN, oM, br, J, nI (lsM (l + 1)), ae', nI (oM (l + 1)), nI (pc' - lsM (l + 1)), K, V, N, S, _, _, _, _, _, b_op, b_with, cy_pt en J0 b_one, b_two, b_copyOp, b_copyWith, b_copyOne, b_copyTwo, _, _, _, _, _, rfl, ⟨Q, Or.inr rfl, fun _ => ⟨rfl, rfl, rfl⟩, (fun h => by cases h), B1, B2, cy_pt_S (by omega) J0 _ S1, S2⟩, hX, fun post h => ?_⟩
        rw [cq_la0 hs] at h ⊢
        rw [← f11, ← azE] at h
        refine ya_close (o := l + 1) (F := fun u => u = (g_count, g_place, nI en, nI sz, 0, g_ready, nI (l + 1), nI g, b_opened (l + 1), nI sz - b_sizes (l + 1), g_length, g_found, b_kind, b_value, b_op, b_with, cy_pt en J0 b_one, b_two, b_copyOp, b_copyWith, b_copyOne, b_copyTwo, b_opened, b_branch, b_sizes, b_jumps, b_groupOf, b_text, b_met, b_todo, b_notes)) (by omega) (by omega) (fun post' h' => cy_closeC (m := fg_q b_op b_with b_one b_two) (J := J0) (by omega) (by omega) hJ0 (fun j hj => ⟨hJb j hj, rfl⟩) ?_) (fun u hu => by rw [hu]; exact h)
        exact cy_close55_0 (by omega) (by rw [f2, hg0]) (h' _ rfl)
      · have egb : cp_gb (gg (l + 1)) = 1 := if_pos (by omega)
        obtain ⟨Q, q2, q3⟩ := cq_close (m' := fg_q (upd b_op en 5) (upd b_with en (nI (2 * gg (l + 1) + 1))) (upd (cy_pt en J0 b_one) en 1) (upd b_two en 0)) (x' := fg_q K V N S) (en' := en + 1) (pc' := pc') (ae' := ae') J1 hls0 hod0 (by omega) (by omega) g1 g2 g3 (fun _ => ⟨by rw [egb], fun j hje hj => by rw [fg_q_un (by omega)]; unfold fg_q; rw [cy_pt_n J0 b_one j (hn j hj)], fun hne j hj => by have := (hm hne j hj).2.1; rw [fg_q_un (by omega)]; exact ⟨(hm hne j hj).1, (hm hne j hj).2.2⟩, fun h => by rw [fg_q_us]; exact ⟨rfl, rfl, rfl⟩⟩)
        refine ⟨l, pc', en + 1, sz, gg, lsM, bsN, oM, br, J, nI (lsM (l + 1)), ae', nI (oM (l + 1)), nI (pc' - lsM (l + 1)), K, V, N, S, _, _, _, _, _, upd b_op en 5, upd b_with en (nI (2 * gg (l + 1) + 1)), upd (cy_pt en J0 b_one) en 1, upd b_two en 0, b_copyOp, b_copyWith, b_copyOne, b_copyTwo, _, _, _, _, _, rfl, ⟨Q, Or.inr rfl, fun _ => ⟨rfl, rfl, rfl⟩, (fun h => by cases h), rl_Bu B1 (cy_Bn (n := 5) (by omega)), rl_Bu B2 (cy_Bn (by omega)), rl_Su (cy_pt_S (by omega) J0 _ S1) (cy_Sn (n := 1) (by omega)), rl_Su S2 (cy_Sn (n := 0) (by omega))⟩, hX, fun post h => ?_⟩
        rw [cq_la0 hs] at h ⊢
        rw [← f11, ← azE] at h
        refine ya_close (o := l + 1) (F := fun u => u = (g_count, g_place, nI (en + 1), nI sz, 0, g_ready, nI (l + 1), nI g, b_opened (l + 1), nI sz - b_sizes (l + 1), g_length, g_found, b_kind, b_value, upd b_op en 5, upd b_with en (nI (2 * gg (l + 1) + 1)), upd (cy_pt en J0 b_one) en 1, upd b_two en 0, b_copyOp, b_copyWith, b_copyOne, b_copyTwo, b_opened, b_branch, b_sizes, b_jumps, b_groupOf, b_text, b_met, b_todo, b_notes)) (by omega) (by omega) (fun post' h' => cy_closeC (m := fg_q b_op b_with b_one b_two) (J := J0) (by omega) (by omega) hJ0 (fun j hj => ⟨hJb j hj, rfl⟩) ?_) (fun u hu => by rw [hu]; exact h)
        exact cy_close55_g (by omega) (by omega) (by omega) f3 f2 (h' _ rfl)
    · obtain ⟨Q, q2, q3⟩ := cq_close (m' := fg_q b_op b_with b_one b_two) (x' := fg_q K V N S) (en' := en) (pc' := pc') (ae' := ae') J1 hls0 hod0 (by omega) (by omega) g1 g2 g3 (fun h => absurd h hs)
      refine ⟨l, pc', en, sz, gg, lsM, bsN, oM, br, J, nI (lsM (l + 1)), ae', nI (oM (l + 1)), nI (pc' - lsM (l + 1)), K, V, N, S, _, _, _, _, _, b_op, b_with, b_one, b_two, b_copyOp, b_copyWith, b_copyOne, b_copyTwo, _, _, _, _, _, rfl, ⟨Q, Or.inr rfl, fun _ => ⟨rfl, rfl, rfl⟩, (fun h => by cases h), B1, B2, S1, S2⟩, hX, fun post h => ?_⟩
      rw [cq_la1 (show 36 < sz by omega)] at h ⊢
      rw [← f11, ← azE] at h
      exact ya_close (o := l + 1) (F := fun u => u = (g_count, g_place, nI en, nI sz, 1, g_ready, nI (l + 1), nI g, b_opened (l + 1), nI sz - b_sizes (l + 1), g_length, g_found, b_kind, b_value, b_op, b_with, b_one, b_two, b_copyOp, b_copyWith, b_copyOne, b_copyTwo, b_opened, b_branch, b_sizes, b_jumps, b_groupOf, b_text, b_met, b_todo, b_notes)) (by omega) (by omega) (fun post' h' => cy_close1 (by omega) (h' _ rfl)) (fun u hu => by rw [hu]; exact h)
  · right
    refine ⟨fun post n h => ?_, ?_⟩
    · refine xl_tok (F := fun u => ∃ (pc' : Nat) (K V N S le' bs' be' : Nat → Int32), pc' ≤ 36 ∧ u = (nI c, f_faultPlace, f_length, nI pc', f_patternEntry, f_hasPattern, 1, nI l, nI g, nI (lsM (l + 1)), (-1), f_choices, f_wayPiece, f_wayPlace, f_wayNotes, f_hasResult, f_resultStart, f_resultEnd, f_resultNotes, a_tokenKind, a_tokenValue, a_text, K, V, N, S, a_levelGroup, a_levelStart, le', bs', be', a_placesSeen, a_choicePiece, a_choicePlace, a_choiceNotes)) hc hi (by omega) rfl hK rfl J2 (fun post' h' => xt_close5 (F := fun u => ∃ (pc' : Nat) (K V N S le' bs' be' : Nat → Int32), pc' ≤ 36 ∧ u = (nI c, f_faultPlace, f_length, nI pc', f_patternEntry, f_hasPattern, 1, nI l, nI g, nI (lsM (l + 1)), (-1), f_choices, f_wayPiece, f_wayPlace, f_wayNotes, f_hasResult, f_resultStart, f_resultEnd, f_resultNotes, a_tokenKind, a_tokenValue, a_text, K, V, N, S, a_levelGroup, a_levelStart, le', bs', be', a_placesSeen, a_choicePiece, a_choicePlace, a_choiceNotes)) (fun post2 h2 => xt_closeL (by omega) hpc f1 f3 f4 hap (by omega) (fun pc' K V N S le' bs' be' hp' => h2 _ ⟨pc', K, V, N, S, le', bs', be', hp', rfl⟩)) h') (fun u hu => ?_)
      obtain ⟨pc', K, V, N, S, le', bs', be2, hp', hu⟩ := hu
      rw [hu]
      exact xl_done (by omega) hc (by omega) hp' (Or.inl rfl) h
    · have hs : 36 < sz := by omega
      refine ⟨nI sz, nI (l + 1), nI g, b_opened (l + 1), nI sz - b_sizes (l + 1), b_opened, b_branch, b_sizes, b_jumps, b_groupOf, ⟨rfl, rfl, rfl, ⟨en, by omega, rfl⟩, fun _ => hop (l + 1) (Nat.le_refl _), (fun h => by cases h), fun d hd => hop d (by have hd' : d ≤ l := hd; omega)⟩, fun post h => ?_⟩
      rw [cq_la1 hs]
      exact ya_close (o := l + 1) (F := fun u => u = (g_count, g_place, nI en, nI sz, 1, g_ready, nI (l + 1), nI g, b_opened (l + 1), nI sz - b_sizes (l + 1), g_length, g_found, b_kind, b_value, b_op, b_with, b_one, b_two, b_copyOp, b_copyWith, b_copyOne, b_copyTwo, b_opened, b_branch, b_sizes, b_jumps, b_groupOf, b_text, b_met, b_todo, b_notes)) (by omega) (by omega) (fun post' h' => cy_close1 (by omega) (h' _ rfl)) (fun u hu => by rw [hu]; exact h)
end TN
