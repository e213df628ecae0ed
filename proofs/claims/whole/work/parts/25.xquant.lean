section XQ
variable {f_tokens f_faultPlace f_length f_pieces f_patternEntry f_hasPattern f_tooLarge f_level f_groups f_atomStart f_atomEntry f_choices f_wayPiece f_wayPlace : Int32} {f_wayNotes : Int64} {f_hasResult f_resultStart f_resultEnd : Int32} {f_resultNotes : Int64} {a_tokenKind a_tokenValue a_text a_pieceKind a_pieceValue a_pieceNext a_pieceSecond a_levelGroup a_levelStart a_levelEntry a_branchStart a_branchEntry : Nat → Int32} {a_placesSeen : Nat → Int64} {a_choicePiece a_choicePlace : Nat → Int32} {a_choiceNotes : Nat → Int64}
/-- once or more -/
theorem xq_plusOK {a sz : Nat} {lz : Int32} (hz : lz = 0 ∨ lz = 1) (hp : a + sz + sz + 1 ≤ 36) :
    ∃ (K V N S : Nat → Int32), (∀ p, p < a → fg_q K V N S p = fg_q a_pieceKind a_pieceValue a_pieceNext a_pieceSecond p) ∧
      (∀ (m m' : Nat → fg_I) (o n : Nat), fg_F m (fg_q a_pieceKind a_pieceValue a_pieceNext a_pieceSecond) o (o + n) a (a + sz) f_atomEntry → (∀ j, j < n → m' (o + j) = m (o + j)) → (∀ j, j < n → m' (o + n + 1 + j) = m (o + j)) →
        ((lz = 0 ∧ qf_S m' (o + n) (o + n + 1) (o + n + n + 2)) ∨ (lz = 1 ∧ qf_S m' (o + n) (o + n + n + 2) (o + n + 1))) → qf_J m' (o + n + n + 1) (o + n) → fg_F m' (fg_q K V N S) o (o + n + n + 2) a (a + sz + sz + 1) (fg_mo (nI (a + sz + sz)) f_atomEntry)) ∧
      (∀ post : SX → Prop, post (f_tokens, f_faultPlace, f_length, nI (a + sz + sz + 1), f_patternEntry, f_hasPattern, 0, f_level, f_groups, nI a, fg_mo (nI (a + sz + sz)) f_atomEntry, f_choices, f_wayPiece, f_wayPlace, f_wayNotes, f_hasResult, f_resultStart, f_resultEnd, f_resultNotes, a_tokenKind, a_tokenValue, a_text, K, V, N, S, a_levelGroup, a_levelStart, a_levelEntry, a_branchStart, a_branchEntry, a_placesSeen, a_choicePiece, a_choicePlace, a_choiceNotes) → wpX_repeatOnceOrMore post (f_tokens, f_faultPlace, f_length, nI (a + sz), f_patternEntry, f_hasPattern, 0, f_level, f_groups, nI a, f_atomEntry, f_choices, f_wayPiece, f_wayPlace, f_wayNotes, f_hasResult, f_resultStart, f_resultEnd, f_resultNotes, a_tokenKind, a_tokenValue, a_text, a_pieceKind, a_pieceValue, a_pieceNext, a_pieceSecond, a_levelGroup, a_levelStart, a_levelEntry, a_branchStart, a_branchEntry, a_placesSeen, a_choicePiece, a_choicePlace, a_choiceNotes) lz) := by
  obtain ⟨K1, V1, N1, S1, c1, c2, c3⟩ := cx_copyOK (f_tokens := f_tokens) (f_faultPlace := f_faultPlace) (f_length := f_length) (f_patternEntry := f_patternEntry) (f_hasPattern := f_hasPattern) (f_tooLarge := 0) (f_level := f_level) (f_groups := f_groups) (f_atomEntry := f_atomEntry) (f_choices := f_choices) (f_wayPiece := f_wayPiece) (f_wayPlace := f_wayPlace) (f_wayNotes := f_wayNotes) (f_hasResult := f_hasResult) (f_resultStart := f_resultStart) (f_resultEnd := f_resultEnd) (f_resultNotes := f_resultNotes) (a_tokenKind := a_tokenKind) (a_tokenValue := a_tokenValue) (a_text := a_text) (a_pieceKind := a_pieceKind) (a_pieceValue := a_pieceValue) (a_pieceNext := a_pieceNext) (a_pieceSecond := a_pieceSecond) (a_levelGroup := a_levelGroup) (a_levelStart := a_levelStart) (a_levelEntry := a_levelEntry) (a_branchStart := a_branchStart) (a_branchEntry := a_branchEntry) (a_placesSeen := a_placesSeen) (a_choicePiece := a_choicePiece) (a_choicePlace := a_choicePlace) (a_choiceNotes := a_choiceNotes) (a := a) (sz := sz) (t := 1) (pc := a + sz) rfl (by omega) (by omega)
  rw [Nat.mul_one] at c2 c3
  obtain ⟨K2, V2, N2, S2, s1, s2, s3, s4, s5⟩ := cx_starOK (f_tokens := f_tokens) (f_faultPlace := f_faultPlace) (f_length := f_length) (f_patternEntry := f_patternEntry) (f_hasPattern := f_hasPattern) (f_tooLarge := 0) (f_level := f_level) (f_groups := f_groups) (f_atomStart := nI a) (f_atomEntry := f_atomEntry) (f_choices := f_choices) (f_wayPiece := f_wayPiece) (f_wayPlace := f_wayPlace) (f_wayNotes := f_wayNotes) (f_hasResult := f_hasResult) (f_resultStart := f_resultStart) (f_resultEnd := f_resultEnd) (f_resultNotes := f_resultNotes) (a_tokenKind := a_tokenKind) (a_tokenValue := a_tokenValue) (a_text := a_text) (a_pieceKind := K1) (a_pieceValue := V1) (a_pieceNext := N1) (a_pieceSecond := S1) (a_levelGroup := a_levelGroup) (a_levelStart := a_levelStart) (a_levelEntry := a_levelEntry) (a_branchStart := a_branchStart) (a_branchEntry := a_branchEntry) (a_placesSeen := a_placesSeen) (a_choicePiece := a_choicePiece) (a_choicePlace := a_choicePlace) (a_choiceNotes := a_choiceNotes) (pc := a + sz + sz) (s := a + sz) (en := fg_mv sz f_atomEntry) hz (by omega) (by omega)
  refine ⟨K2, V2, cx_lo N2 a (a + sz) (nI (a + sz + sz)), cx_lo S2 a (a + sz) (nI (a + sz + sz)), ?_, ?_, ?_⟩
  · intro p hp
    rw [fg_q_ln (by omega), s2 p (by omega), c1 p (by omega)]
  · intro m m' o n hF h1 h2 h3 h4
    exact qf_plus hF (by omega) h1 h2 h3 h4 c1 c2 s1 s2 s3 s4 (fun p p1 p2 => fg_q_lo p1 p2) (fun p p1 => fg_q_ln (by omega))
  · intro post h
    refine nm_r (show nI (a + sz) - nI a = nI sz by rw [pk_sub (by omega)]; congr 1; omega) ?_
    refine c3 _ ?_
    refine br_t rfl (nm_r (nI_add a sz) (cx_moved ?_))
    refine s5 _ ?_
    refine cx_lead (by omega) (by omega) ?_
    by_cases e : f_atomEntry = -1
    · rw [show fg_mo (nI (a + sz + sz)) f_atomEntry = nI (a + sz + sz) from if_pos e] at h
      exact br_t e h
    · rw [show fg_mo (nI (a + sz + sz)) f_atomEntry = f_atomEntry from if_neg e] at h
      exact br_f e h
theorem xq_plusL {post : SX → Prop} {a sz : Nat} {lz : Int32} (hp0 : a + sz ≤ 36) (hp : 36 < a + sz + sz + 1)
    (h : ∀ (pc : Nat) (ae : Int32) (K V N S : Nat → Int32), pc ≤ 36 → post (f_tokens, f_faultPlace, f_length, nI pc, f_patternEntry, f_hasPattern, 1, f_level, f_groups, nI a, ae, f_choices, f_wayPiece, f_wayPlace, f_wayNotes, f_hasResult, f_resultStart, f_resultEnd, f_resultNotes, a_tokenKind, a_tokenValue, a_text, K, V, N, S, a_levelGroup, a_levelStart, a_levelEntry, a_branchStart, a_branchEntry, a_placesSeen, a_choicePiece, a_choicePlace, a_choiceNotes)) : wpX_repeatOnceOrMore post (f_tokens, f_faultPlace, f_length, nI (a + sz), f_patternEntry, f_hasPattern, 0, f_level, f_groups, nI a, f_atomEntry, f_choices, f_wayPiece, f_wayPlace, f_wayNotes, f_hasResult, f_resultStart, f_resultEnd, f_resultNotes, a_tokenKind, a_tokenValue, a_text, a_pieceKind, a_pieceValue, a_pieceNext, a_pieceSecond, a_levelGroup, a_levelStart, a_levelEntry, a_branchStart, a_branchEntry, a_placesSeen, a_choicePiece, a_choicePlace, a_choiceNotes) lz := by
  refine nm_r (show nI (a + sz) - nI a = nI sz by rw [pk_sub (by omega)]; congr 1; omega) ?_
  by_cases e : a + sz + sz ≤ 36
  · obtain ⟨K1, V1, N1, S1, c1, c2, c3⟩ := cx_copyOK (f_tokens := f_tokens) (f_faultPlace := f_faultPlace) (f_length := f_length) (f_patternEntry := f_patternEntry) (f_hasPattern := f_hasPattern) (f_tooLarge := 0) (f_level := f_level) (f_groups := f_groups) (f_atomEntry := f_atomEntry) (f_choices := f_choices) (f_wayPiece := f_wayPiece) (f_wayPlace := f_wayPlace) (f_wayNotes := f_wayNotes) (f_hasResult := f_hasResult) (f_resultStart := f_resultStart) (f_resultEnd := f_resultEnd) (f_resultNotes := f_resultNotes) (a_tokenKind := a_tokenKind) (a_tokenValue := a_tokenValue) (a_text := a_text) (a_pieceKind := a_pieceKind) (a_pieceValue := a_pieceValue) (a_pieceNext := a_pieceNext) (a_pieceSecond := a_pieceSecond) (a_levelGroup := a_levelGroup) (a_levelStart := a_levelStart) (a_levelEntry := a_levelEntry) (a_branchStart := a_branchStart) (a_branchEntry := a_branchEntry) (a_placesSeen := a_placesSeen) (a_choicePiece := a_choicePiece) (a_choicePlace := a_choicePlace) (a_choiceNotes := a_choiceNotes) (a := a) (sz := sz) (t := 1) (pc := a + sz) rfl (by omega) (by omega)
    rw [Nat.mul_one] at c2 c3
    refine c3 _ ?_
    have e36 : a + sz + sz = 36 := by omega
    rw [e36]
    refine br_t rfl (nm_r (nI_add a sz) (cx_moved ?_))
    refine cx_starL (by omega) (fun N S => ?_)
    refine cx_lead (by omega) (by omega) ?_
    by_cases e : f_atomEntry = -1
    · exact br_t e (h 36 _ _ _ _ _ (by omega))
    · exact br_f e (h 36 _ _ _ _ _ (by omega))
  · refine cx_copyL (t := 1) (by omega) hp0 (by omega) (by omega) ?_
    exact br_f (by decide) (h (a + sz) _ _ _ _ _ hp0)
end XQ
