section TL
variable {f_tokens f_faultPlace f_length f_pieces f_patternEntry f_hasPattern f_tooLarge f_level f_groups f_atomStart f_atomEntry f_choices f_wayPiece f_wayPlace : Int32} {f_wayNotes : Int64} {f_hasResult f_resultStart f_resultEnd : Int32} {f_resultNotes : Int64} {a_tokenKind a_tokenValue a_text a_pieceKind a_pieceValue a_pieceNext a_pieceSecond a_levelGroup a_levelStart a_levelEntry a_branchStart a_branchEntry : Nat → Int32} {a_placesSeen : Nat → Int64} {a_choicePiece a_choicePlace : Nat → Int32} {a_choiceNotes : Nat → Int64}
variable {g_count g_place g_end g_size g_large g_ready g_depth g_groups g_atom g_atomSize g_length g_found : Int32} {b_kind b_value b_op b_with b_one b_two b_copyOp b_copyWith b_copyOne b_copyTwo b_opened b_branch b_sizes b_jumps b_groupOf b_text : Nat → Int32} {b_met : Nat → Int64} {b_todo b_notes : Nat → Int32}
variable {lv pc en sz g c i kk : Nat} {gg lsN bsN od br : Nat → Nat} {J : Nat → List Nat} {b : Bool} {w : Int32}
theorem tk_atom (hc : c ≤ 24) (hi : i < c) (hk : kk ≤ 15) (hK : a_tokenKind i = nI kk) (ht : rl_tok (nI kk) (a_tokenValue i) w) (hkk : kk = 0 ∨ kk = 1 ∨ kk = 2 ∨ kk = 13 ∨ kk = 15)
    (H : cq_A b lv pc en sz gg lsN bsN od br J f_atomStart f_atomEntry g_atom g_atomSize a_pieceKind a_pieceValue a_pieceNext a_pieceSecond a_levelGroup a_levelStart a_levelEntry a_branchStart a_branchEntry b_op b_with b_one b_two b_opened b_branch b_sizes b_jumps b_groupOf) :
    tk_C (nI c) f_faultPlace f_length (nI pc) f_patternEntry f_hasPattern 0 (nI lv) (nI g) f_atomStart f_atomEntry f_choices f_wayPiece f_wayPlace f_wayNotes f_hasResult f_resultStart f_resultEnd f_resultNotes a_tokenKind a_tokenValue a_text a_pieceKind a_pieceValue a_pieceNext a_pieceSecond a_levelGroup a_levelStart a_levelEntry a_branchStart a_branchEntry a_placesSeen a_choicePiece a_choicePlace a_choiceNotes g_count g_place (nI en) (nI sz) (cq_la sz) g_ready (nI (lv + 1)) (nI g) g_atom g_atomSize g_length g_found b_kind b_value b_op b_with b_one b_two b_copyOp b_copyWith b_copyOne b_copyTwo b_opened b_branch b_sizes b_jumps b_groupOf b_text b_met b_todo b_notes i kk w (cs_step kk (lv, g, b)) := by
  obtain ⟨HK, has, hb1, hb0, B1, B2, S1, S2⟩ := H
  obtain ⟨N', S', be', J1, J2⟩ := tk_join (f_tokens := nI c) (f_faultPlace := f_faultPlace) (f_length := f_length) (f_pieces := nI pc) (f_patternEntry := f_patternEntry) (f_hasPattern := f_hasPattern) (f_tooLarge := 0) (f_groups := nI g) (f_atomStart := f_atomStart) (f_atomEntry := f_atomEntry) (f_choices := f_choices) (f_wayPiece := f_wayPiece) (f_wayPlace := f_wayPlace) (f_wayNotes := f_wayNotes) (f_hasResult := f_hasResult) (f_resultStart := f_resultStart) (f_resultEnd := f_resultEnd) (f_resultNotes := f_resultNotes) (a_tokenKind := a_tokenKind) (a_tokenValue := a_tokenValue) (a_text := a_text) (a_pieceKind := a_pieceKind) (a_pieceValue := a_pieceValue) (a_pieceNext := a_pieceNext) (a_pieceSecond := a_pieceSecond) (a_levelGroup := a_levelGroup) (a_levelStart := a_levelStart) (a_levelEntry := a_levelEntry) (a_branchStart := a_branchStart) (a_branchEntry := a_branchEntry) (a_placesSeen := a_placesSeen) (a_choicePiece := a_choicePiece) (a_choicePlace := a_choicePlace) (a_choiceNotes := a_choiceNotes) HK has
  have hq : cs_q kk = false := by
    cases hh : cs_q kk with
    | false => rfl
    | true => have := cs_qi.mp hh; omega
  have es : cs_step kk (lv, g, b) = (lv, g, true) := by
    unfold cs_step cs_b
    rw [hq]
    dsimp only
    rw [if_neg (by omega), if_neg (by omega), if_neg (by omega)]
    have h3 : ¬ kk = 3 := by omega
    have h4 : ¬ kk = 4 := by omega
    have h6 : ¬ kk = 6 := by omega
    simp [h3, h4, h6]
  obtain ⟨pk, pv, hA⟩ : ∃ pk pv, xt_A kk (a_tokenValue i) pk pv := by
    rcases hkk with h | h | h | h | h
    · exact ⟨_, _, Or.inl ⟨h, rfl, rfl⟩⟩
    · exact ⟨_, _, Or.inr (Or.inl ⟨h, rfl, rfl⟩)⟩
    · exact ⟨_, _, Or.inr (Or.inr (Or.inl ⟨h, rfl, rfl⟩))⟩
    · exact ⟨_, _, Or.inr (Or.inr (Or.inr (Or.inl ⟨h, rfl, rfl⟩)))⟩
    · exact ⟨_, _, Or.inr (Or.inr (Or.inr (Or.inr ⟨h, rfl, rfl⟩)))⟩
  obtain ⟨hA', bpk, bpv, pk012⟩ := xt_A_v hA ht hk
  have hlv := HK.1
  have hpc := HK.2.1
  have hen := HK.2.2.1
  obtain ⟨hszb, hsz, hsz2, hop⟩ := cq_szb HK
  rw [es]
  by_cases hp : pc < 36
  · left
    have hX : ∀ (post : SX → Prop) (n : Nat), wX_buildPattern_32 post n (nI (i + 1)) (nI c) f_faultPlace f_length (nI (pc + 1)) f_patternEntry f_hasPattern 0 (nI lv) (nI g) (nI pc) (nI pc) f_choices f_wayPiece f_wayPlace f_wayNotes f_hasResult f_resultStart f_resultEnd f_resultNotes a_tokenKind a_tokenValue a_text (upd a_pieceKind pc pk) (upd a_pieceValue pc pv) (upd N' pc (-1)) (upd S' pc (-1)) a_levelGroup a_levelStart a_levelEntry a_branchStart be' a_placesSeen a_choicePiece a_choicePlace a_choiceNotes → wX_buildPattern_32 post (n + 1) (nI i) (nI c) f_faultPlace f_length (nI pc) f_patternEntry f_hasPattern 0 (nI lv) (nI g) f_atomStart f_atomEntry f_choices f_wayPiece f_wayPlace f_wayNotes f_hasResult f_resultStart f_resultEnd f_resultNotes a_tokenKind a_tokenValue a_text a_pieceKind a_pieceValue a_pieceNext a_pieceSecond a_levelGroup a_levelStart a_levelEntry a_branchStart a_branchEntry a_placesSeen a_choicePiece a_choicePlace a_choiceNotes := by
      intro post n h
      exact xl_tok (F := fun u => u = (nI c, f_faultPlace, f_length, nI (pc + 1), f_patternEntry, f_hasPattern, 0, nI lv, nI g, nI pc, nI pc, f_choices, f_wayPiece, f_wayPlace, f_wayNotes, f_hasResult, f_resultStart, f_resultEnd, f_resultNotes, a_tokenKind, a_tokenValue, a_text, upd a_pieceKind pc pk, upd a_pieceValue pc pv, upd N' pc (-1), upd S' pc (-1), a_levelGroup, a_levelStart, a_levelEntry, a_branchStart, be', a_placesSeen, a_choicePiece, a_choicePlace, a_choiceNotes)) hc hi hk hq hK rfl J2 (fun post' h' => xt_atomOK hA hp (h' _ rfl)) (fun u hu => by rw [hu]; exact h)
    by_cases hs : sz + 1 ≤ 36
    · have hen2 := hsz2 (by omega)
      refine ⟨lv, pc + 1, en + 1, sz + 1, gg, cq_u lsN (lv + 1) pc, bsN, cq_u od (lv + 1) en, br, J, nI pc, nI pc, nI en, 1, upd a_pieceKind pc pk, upd a_pieceValue pc pv, upd N' pc (-1), upd S' pc (-1), a_levelGroup, a_levelStart, a_levelEntry, a_branchStart, be', upd b_op en pk, upd b_with en pv, upd b_one en 1, upd b_two en 0, b_copyOp, b_copyWith, b_copyOne, b_copyTwo, b_opened, b_branch, b_sizes, b_jumps, b_groupOf, rfl, ⟨?_, Or.inr (by rw [cq_us]), fun _ => ⟨by rw [cq_us], ?_, by rw [cq_us]⟩, (fun h => by cases h), rl_Bu B1 bpk, rl_Bu B2 bpv, rl_Su S1 (cy_Sn (n := 1) (by omega)), rl_Su S2 (cy_Sn (n := 0) (by omega))⟩, hX, fun post h => ?_⟩
      · refine cq_atom J1 (by omega) (by omega) (by omega) (by rw [cq_us]; omega) (Or.inr ⟨pc, by omega, rfl⟩) (fun h => absurd h (fg_ne (by omega))) (by omega) (fun _ _ => ⟨?_, fun j hj => ?_, fun p hp' => ?_⟩)
        · rw [cq_us, cq_us]
          refine fg_one (by omega) (by rw [fg_q_us]) (by rw [fg_q_us]) ?_
          rw [fg_q_us, fg_q_us]
          rcases pk012 with h | h | h
          · exact Or.inl ⟨h, h, rfl⟩
          · exact Or.inr (Or.inl ⟨h, h⟩)
          · exact Or.inr (Or.inr (Or.inl ⟨h, h⟩))
        · rw [cq_us] at hj
          exact fg_q_un (by omega)
        · rw [cq_us] at hp'
          exact fg_q_un (by omega)
      · rw [cq_us, show pc + 1 - pc = 1 by omega]; rfl
      · rw [cq_la0 hs] at h
        exact ya_atom (F := fun u => u = (g_count, g_place, nI (en + 1), nI (sz + 1), 0, g_ready, nI (lv + 1), nI g, nI en, 1, g_length, g_found, b_kind, b_value, upd b_op en pk, upd b_with en pv, upd b_one en 1, upd b_two en 0, b_copyOp, b_copyWith, b_copyOne, b_copyTwo, b_opened, b_branch, b_sizes, b_jumps, b_groupOf, b_text, b_met, b_todo, b_notes)) hA' (fun post' h' => cy_singleC (by omega) hs bpk bpv (h' _ rfl)) (fun u hu => by rw [hu]; exact h)
    · refine ⟨lv, pc + 1, en, sz + 1, gg, cq_u lsN (lv + 1) pc, bsN, cq_u od (lv + 1) en, br, J, nI pc, nI pc, nI en, 1, upd a_pieceKind pc pk, upd a_pieceValue pc pv, upd N' pc (-1), upd S' pc (-1), a_levelGroup, a_levelStart, a_levelEntry, a_branchStart, be', b_op, b_with, b_one, b_two, b_copyOp, b_copyWith, b_copyOne, b_copyTwo, b_opened, b_branch, b_sizes, b_jumps, b_groupOf, rfl, ⟨?_, Or.inr (by rw [cq_us]), fun _ => ⟨by rw [cq_us], ?_, by rw [cq_us]⟩, (fun h => by cases h), B1, B2, S1, S2⟩, hX, fun post h => ?_⟩
      · exact cq_atom J1 (by omega) (by omega) (by omega) (by rw [cq_us]; omega) (Or.inr ⟨pc, by omega, rfl⟩) (fun h => absurd h (fg_ne (by omega))) (by omega) (fun h _ => absurd h hs)
      · rw [cq_us, show pc + 1 - pc = 1 by omega]; rfl
      · rw [cq_la1 (show 36 < sz + 1 by omega)] at h
        exact ya_atom (F := fun u => u = (g_count, g_place, nI en, nI (sz + 1), 1, g_ready, nI (lv + 1), nI g, nI en, 1, g_length, g_found, b_kind, b_value, b_op, b_with, b_one, b_two, b_copyOp, b_copyWith, b_copyOne, b_copyTwo, b_opened, b_branch, b_sizes, b_jumps, b_groupOf, b_text, b_met, b_todo, b_notes)) hA' (fun post' h' => cy_singleL (by omega) (by omega) (h' _ rfl)) (fun u hu => by rw [hu]; exact h)
  · right
    obtain rfl : pc = 36 := by omega
    refine ⟨fun post n h => ?_, ?_⟩
    · refine xl_tok (F := fun u => u = (nI c, f_faultPlace, f_length, nI 36, f_patternEntry, f_hasPattern, 1, nI lv, nI g, nI 36, (-1), f_choices, f_wayPiece, f_wayPlace, f_wayNotes, f_hasResult, f_resultStart, f_resultEnd, f_resultNotes, a_tokenKind, a_tokenValue, a_text, a_pieceKind, a_pieceValue, N', S', a_levelGroup, a_levelStart, a_levelEntry, a_branchStart, be', a_placesSeen, a_choicePiece, a_choicePlace, a_choiceNotes)) hc hi hk hq hK rfl J2 (fun post' h' => xt_atomL hA (h' _ rfl)) (fun u hu => ?_)
      rw [hu]
      exact xl_done (by omega) hc (by omega) (by omega) (Or.inl rfl) h
    · refine ⟨nI (sz + 1), nI (lv + 1), nI g, nI en, 1, b_opened, b_branch, b_sizes, b_jumps, b_groupOf, ⟨rfl, rfl, rfl, ⟨en, by omega, rfl⟩, fun _ => nI_pos' (by omega), (fun h => by cases h), hop⟩, fun post h => ?_⟩
      exact ya_atom (F := fun u => u = (g_count, g_place, nI en, nI (sz + 1), 1, g_ready, nI (lv + 1), nI g, nI en, 1, g_length, g_found, b_kind, b_value, b_op, b_with, b_one, b_two, b_copyOp, b_copyWith, b_copyOne, b_copyTwo, b_opened, b_branch, b_sizes, b_jumps, b_groupOf, b_text, b_met, b_todo, b_notes)) hA' (fun post' h' => cy_singleL (by omega) (by omega) (h' _ rfl)) (fun u hu => by rw [hu]; exact h)
end TL
