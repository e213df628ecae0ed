section MN
variable {f_tokens f_faultPlace f_length f_pieces f_patternEntry f_hasPattern f_tooLarge f_level f_groups f_atomStart f_atomEntry f_choices f_wayPiece f_wayPlace : Int32} {f_wayNotes : Int64} {f_hasResult f_resultStart f_resultEnd : Int32} {f_resultNotes : Int64} {a_tokenKind a_tokenValue a_text a_pieceKind a_pieceValue a_pieceNext a_pieceSecond a_levelGroup a_levelStart a_levelEntry a_branchStart a_branchEntry : Nat → Int32} {a_placesSeen : Nat → Int64} {a_choicePiece a_choicePlace : Nat → Int32} {a_choiceNotes : Nat → Int64}
variable {g_count g_place g_end g_size g_large g_ready g_depth g_groups g_atom g_atomSize g_length g_found : Int32} {b_kind b_value b_op b_with b_one b_two b_copyOp b_copyWith b_copyOne b_copyTwo b_opened b_branch b_sizes b_jumps b_groupOf b_text : Nat → Int32} {b_met : Nat → Int64} {b_todo b_notes : Nat → Int32}
theorem mm_mu0 : ∀ p, mt_mu (fun _ => 0) p = 33 * p
  | 0 => rfl
  | p + 1 => by
    show mt_mu _ p + mt_c 0 33 = _
    rw [mm_mu0 p]
    have : mt_c 0 33 = 33 := by decide
    omega
/-- a search on both sides: one outcome, whatever lies in the arrays that it works with -/
theorem mm_match {P E len s0 : Nat} {x2 : Int32} (hF : fg_F (fg_q b_op b_with b_one b_two) (fg_q a_pieceKind a_pieceValue a_pieceNext a_pieceSecond) 0 E 0 P f_patternEntry) (hE : E ≤ 72) (hP : P ≤ 36) (h6 : b_op E = 6) (hl : len ≤ 32) (hs : s0 ≤ len) :
    ∃ oX oY, mt_OR mm_NX len s0 oX oY ∧
      (∀ (f_choices f_wayPiece f_wayPlace : Int32) (f_wayNotes : Int64) (a_placesSeen : Nat → Int64) (a_choicePiece a_choicePlace : Nat → Int32) (a_choiceNotes : Nat → Int64) (post : Int32 → SX → Prop), (oX = none → xm_P0 f_tokens f_faultPlace (nI len) (nI P) f_patternEntry f_hasPattern f_tooLarge f_level f_groups f_atomStart f_atomEntry f_choices f_wayPiece f_wayPlace f_wayNotes f_hasResult f_resultStart f_resultEnd f_resultNotes a_tokenKind a_tokenValue a_text a_pieceKind a_pieceValue a_pieceNext a_pieceSecond a_levelGroup a_levelStart a_levelEntry a_branchStart a_branchEntry a_placesSeen a_choicePiece a_choicePlace a_choiceNotes post) → (∀ a w, oX = some (a, w) → xm_P1 f_tokens f_faultPlace (nI len) (nI P) f_patternEntry f_hasPattern f_tooLarge f_level f_groups f_atomStart f_atomEntry f_choices f_wayPiece f_wayPlace f_wayNotes f_hasResult f_resultStart f_resultEnd f_resultNotes a_tokenKind a_tokenValue a_text a_pieceKind a_pieceValue a_pieceNext a_pieceSecond a_levelGroup a_levelStart a_levelEntry a_branchStart a_branchEntry a_placesSeen a_choicePiece a_choicePlace a_choiceNotes post (nI s0) a w) → wpX_matchesFrom post (f_tokens, f_faultPlace, nI len, nI P, f_patternEntry, f_hasPattern, f_tooLarge, f_level, f_groups, f_atomStart, f_atomEntry, f_choices, f_wayPiece, f_wayPlace, f_wayNotes, f_hasResult, f_resultStart, f_resultEnd, f_resultNotes, a_tokenKind, a_tokenValue, a_text, a_pieceKind, a_pieceValue, a_pieceNext, a_pieceSecond, a_levelGroup, a_levelStart, a_levelEntry, a_branchStart, a_branchEntry, a_placesSeen, a_choicePiece, a_choicePlace, a_choiceNotes) (nI s0) x2) ∧
      (∀ (b_met : Nat → Int64) (b_todo b_notes : Nat → Int32) (post : Int32 → SY → Prop), (oY = none → ym_P0 g_count g_place (nI (E + 1)) g_size g_large g_ready g_depth g_groups g_atom g_atomSize (nI len) g_found b_kind b_value b_op b_with b_one b_two b_copyOp b_copyWith b_copyOne b_copyTwo b_opened b_branch b_sizes b_jumps b_groupOf a_text b_met b_todo b_notes post) → (∀ a no, oY = some (a, no) → ym_P1 g_count g_place (nI (E + 1)) g_size g_large g_ready g_depth g_groups g_atom g_atomSize (nI len) g_found b_kind b_value b_op b_with b_one b_two b_copyOp b_copyWith b_copyOne b_copyTwo b_opened b_branch b_sizes b_jumps b_groupOf a_text b_met b_todo b_notes post a no) → wpY_search post (g_count, g_place, nI (E + 1), g_size, g_large, g_ready, g_depth, g_groups, g_atom, g_atomSize, nI len, g_found, b_kind, b_value, b_op, b_with, b_one, b_two, b_copyOp, b_copyWith, b_copyOne, b_copyTwo, b_opened, b_branch, b_sizes, b_jumps, b_groupOf, a_text, b_met, b_todo, b_notes) (nI s0) x2) := by
  obtain ⟨g1, g2, g3, g4, g5, r, ch, l, pr, sb, u, ad, pa, ra, rb, ca, cb, H⟩ := hF
  have hX := xm_IF (f_tokens := f_tokens) (f_faultPlace := f_faultPlace) (f_pieces := nI P) (f_patternEntry := f_patternEntry) (f_hasPattern := f_hasPattern) (f_tooLarge := f_tooLarge) (f_level := f_level) (f_groups := f_groups) (f_atomStart := f_atomStart) (f_atomEntry := f_atomEntry) (f_choices := 0) (f_wayPiece := 0) (f_wayPlace := 0) (f_wayNotes := 0) (f_hasResult := f_hasResult) (f_resultStart := f_resultStart) (f_resultEnd := f_resultEnd) (f_resultNotes := f_resultNotes) (a_tokenKind := a_tokenKind) (a_tokenValue := a_tokenValue) (a_text := a_text) (a_pieceKind := a_pieceKind) (a_pieceValue := a_pieceValue) (a_pieceNext := a_pieceNext) (a_pieceSecond := a_pieceSecond) (a_levelGroup := a_levelGroup) (a_levelStart := a_levelStart) (a_levelEntry := a_levelEntry) (a_branchStart := a_branchStart) (a_branchEntry := a_branchEntry) (a_placesSeen := fun _ => 0) (a_choicePiece := fun _ => 0) (a_choicePlace := fun _ => 0) (a_choiceNotes := fun _ => 0) (x1 := nI s0) (x2 := x2) hP hl
  have hY := ym_IF (g_count := g_count) (g_place := g_place) (g_end := nI (E + 1)) (g_size := g_size) (g_large := g_large) (g_ready := g_ready) (g_depth := g_depth) (g_groups := g_groups) (g_atom := g_atom) (g_atomSize := g_atomSize) (g_found := g_found) (b_kind := b_kind) (b_value := b_value) (b_op := b_op) (b_with := b_with) (b_one := b_one) (b_two := b_two) (b_copyOp := b_copyOp) (b_copyWith := b_copyWith) (b_copyOne := b_copyOne) (b_copyTwo := b_copyTwo) (b_opened := b_opened) (b_branch := b_branch) (b_sizes := b_sizes) (b_jumps := b_jumps) (b_groupOf := b_groupOf) (b_text := a_text) (b_met := fun _ => 0) (b_todo := fun _ => 0) (b_notes := fun _ => 0) (x2 := x2) (show E < 159 by omega) hl h6
  have hmu : mt_mu (fun _ => 0) P = 33 * P := mm_mu0 P
  have hjm := mt_jm_le (fg_q b_op b_with b_one b_two) E 0
  have sn0 : ∀ a, mt_sn 0 a = false := fun a => by
    show (0#64).getLsbD a = false
    simp
  have hI : mt_I (fg_q b_op b_with b_one b_two) P E len s0 mm_NX r ch l pr sb pa 0 (fun _ => 0) [] (fun _ => 0) [] (upd (fun _ => -1) 0 (nI s0)) (fun _ => 0) := by
    refine ⟨?_, ?_, ?_, rfl, trivial, ?_, ?_, if_pos rfl, ?_, ?_, ?_⟩
    · intro j p a j1 _ _ p1 _ _
      rfl
    · intro p a p1 _ _ h
      dsimp only at h
      rw [sn0] at h; cases h
    · intro j a j1 _ _ h
      dsimp only at h
      rw [sn0] at h; cases h
    · intro e he; cases he
    · intro k hk
      have e1 : upd (fun _ => -1) 0 (nI s0) (k + 2) = -1 := if_neg (by omega)
      rw [e1]
      exact ⟨show (-1 : Int32) = nI 0 - 1 by decide, show 0 ≤ 33 by omega⟩
    · rw [hmu]; simp only [List.length_nil]; omega
    · rw [hmu]; simp only [List.length_nil]; omega
    · rw [hmu]; simp only [List.length_nil]; omega
  obtain ⟨oX, oY, o1, o2, o3⟩ := (mt_sim (s0 := s0) hX hY H rb cb hE hP hl mm_nw (100 * (2 * mt_mu (fun _ => 0) P + ([] : List mt_C).length + mt_U []) + mt_jm (fg_q b_op b_with b_one b_two) E 0 + 2)).1 0 (fun _ => 0) [] (fun _ => 0) [] (upd (fun _ => -1) 0 (nI s0)) (fun _ => 0) 0 s0 0 _ _ (Nat.le_refl _) (Nat.le_refl _) (Nat.le_refl _) hI (Nat.zero_le _) ca (Nat.le_refl _) hs mm_0
  refine ⟨oX, oY, o1, fun f_choices f_wayPiece f_wayPlace f_wayNotes a_placesSeen a_choicePiece a_choicePlace a_choiceNotes post h0 h1 => ?_, fun b_met b_todo b_notes post h0 h1 => ?_⟩
  · have := o2 (fun o => o = oX) rfl (mm_z P a_placesSeen) (fun p hp => mm_zl hp) post (fun h => h0 h.symm) (fun a w h => h1 a w h.symm) a_choicePiece a_choicePlace a_choiceNotes _ trivial (Nat.le_refl _)
    rw [ra] at this
    exact mm_xbegin hP ⟨_, this⟩
  · have hT : ym_T (upd b_todo 0 (nI s0)) [(false, 0, s0)] := by
      refine ⟨?_, trivial⟩
      show upd b_todo 0 (nI s0) 0 = nI (64 * 0 + s0)
      rw [show 64 * 0 + s0 = s0 by omega]
      exact if_pos rfl
    have hno : ∀ j, j < 8 → upd (mm_w 8 b_notes) 0 (nI s0) j = upd (fun _ => -1) 0 (nI s0) j := fun j hj => by
      unfold upd
      rw [show mm_w 8 b_notes j = -1 from if_pos hj]
    have := hY.2.2.2.2.2.2.2.2.2.1 (fun o => o = oY) _ (fun _ => 0) [] (upd (fun _ => -1) 0 (nI s0)) 0 s0 (Nat.zero_le _) hs (by simp) (o3 (fun o => o = oY) rfl) (mm_z (E + 1) b_met) (upd (mm_w 8 b_notes) 0 (nI s0)) (fun j hj => mm_zl (by omega)) hno post (fun h => h0 h.symm) (fun a no h => h1 a no h.symm) (upd b_todo 0 (nI s0)) _ hT (Nat.le_refl _)
    exact mm_ybegin (by omega) (by omega) ⟨_, this⟩
end MN
