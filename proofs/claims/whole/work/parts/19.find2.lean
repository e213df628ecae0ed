section FE
variable {f_tokens f_faultPlace f_length f_pieces f_patternEntry f_hasPattern f_tooLarge f_level f_groups f_atomStart f_atomEntry f_choices f_wayPiece f_wayPlace : Int32} {f_wayNotes : Int64} {f_hasResult f_resultStart f_resultEnd : Int32} {f_resultNotes : Int64} {a_tokenKind a_tokenValue a_text a_pieceKind a_pieceValue a_pieceNext a_pieceSecond a_levelGroup a_levelStart a_levelEntry a_branchStart a_branchEntry : Nat → Int32} {a_placesSeen : Nat → Int64} {a_choicePiece a_choicePlace : Nat → Int32} {a_choiceNotes : Nat → Int64}
variable {g_count g_place g_end g_size g_large g_ready g_depth g_groups g_atom g_atomSize g_length g_found : Int32} {b_kind b_value b_op b_with b_one b_two b_copyOp b_copyWith b_copyOne b_copyTwo b_opened b_branch b_sizes b_jumps b_groupOf b_text : Nat → Int32} {b_met : Nat → Int64} {b_todo b_notes : Nat → Int32}
def fd_pat (hp pc pe ge : Int32) (K V N S O W F G : Nat → Int32) : Prop := hp = 0 ∨ (hp = 1 ∧ ∃ P E : Nat, P ≤ 36 ∧ E ≤ 72 ∧ pc = nI P ∧ ge = nI (E + 1) ∧ O E = 6 ∧ fg_F (fg_q O W F G) (fg_q K V N S) 0 E 0 P pe)
theorem fd_find {n : Nat} (v1 : Int32) (hl : n ≤ 32) (hpat : fd_pat f_hasPattern f_pieces f_patternEntry g_end a_pieceKind a_pieceValue a_pieceNext a_pieceSecond b_op b_with b_one b_two) :
    ((∀ (f_choices f_wayPiece f_wayPlace : Int32) (f_wayNotes : Int64) (a_placesSeen : Nat → Int64) (a_choicePiece a_choicePlace : Nat → Int32) (a_choiceNotes : Nat → Int64) (post : Int32 → SX → Prop), xm_P0 f_tokens f_faultPlace (nI n) f_pieces f_patternEntry f_hasPattern f_tooLarge f_level f_groups f_atomStart f_atomEntry f_choices f_wayPiece f_wayPlace f_wayNotes 0 f_resultStart f_resultEnd f_resultNotes a_tokenKind a_tokenValue a_text a_pieceKind a_pieceValue a_pieceNext a_pieceSecond a_levelGroup a_levelStart a_levelEntry a_branchStart a_branchEntry a_placesSeen a_choicePiece a_choicePlace a_choiceNotes post → wpX_find post (f_tokens, f_faultPlace, nI n, f_pieces, f_patternEntry, f_hasPattern, f_tooLarge, f_level, f_groups, f_atomStart, f_atomEntry, f_choices, f_wayPiece, f_wayPlace, f_wayNotes, f_hasResult, f_resultStart, f_resultEnd, f_resultNotes, a_tokenKind, a_tokenValue, a_text, a_pieceKind, a_pieceValue, a_pieceNext, a_pieceSecond, a_levelGroup, a_levelStart, a_levelEntry, a_branchStart, a_branchEntry, a_placesSeen, a_choicePiece, a_choicePlace, a_choiceNotes) v1) ∧
      (∀ (b_met : Nat → Int64) (b_todo b_notes : Nat → Int32) (post : Int32 → SY → Prop), ym_P0 g_count g_place g_end g_size g_large f_hasPattern g_depth g_groups g_atom g_atomSize (nI n) 0 b_kind b_value b_op b_with b_one b_two b_copyOp b_copyWith b_copyOne b_copyTwo b_opened b_branch b_sizes b_jumps b_groupOf a_text b_met b_todo b_notes post → wpY_find post (g_count, g_place, g_end, g_size, g_large, f_hasPattern, g_depth, g_groups, g_atom, g_atomSize, nI n, g_found, b_kind, b_value, b_op, b_with, b_one, b_two, b_copyOp, b_copyWith, b_copyOne, b_copyTwo, b_opened, b_branch, b_sizes, b_jumps, b_groupOf, a_text, b_met, b_todo, b_notes) v1)) ∨
    (∃ (fr s1 a : Nat) (w : Int64) (no : Nat → Int32) (v : Nat → Nat), v1 = nI fr ∧ fr ≤ s1 ∧ s1 ≤ a ∧ a ≤ n ∧ mm_NX w v ∧ mt_NO no v ∧ no 0 = nI s1 ∧
      (∀ (f_choices f_wayPiece f_wayPlace : Int32) (f_wayNotes : Int64) (a_placesSeen : Nat → Int64) (a_choicePiece a_choicePlace : Nat → Int32) (a_choiceNotes : Nat → Int64) (post : Int32 → SX → Prop), xm_P1 f_tokens f_faultPlace (nI n) f_pieces f_patternEntry f_hasPattern f_tooLarge f_level f_groups f_atomStart f_atomEntry f_choices f_wayPiece f_wayPlace f_wayNotes 0 f_resultStart f_resultEnd f_resultNotes a_tokenKind a_tokenValue a_text a_pieceKind a_pieceValue a_pieceNext a_pieceSecond a_levelGroup a_levelStart a_levelEntry a_branchStart a_branchEntry a_placesSeen a_choicePiece a_choicePlace a_choiceNotes post (nI s1) a w → wpX_find post (f_tokens, f_faultPlace, nI n, f_pieces, f_patternEntry, f_hasPattern, f_tooLarge, f_level, f_groups, f_atomStart, f_atomEntry, f_choices, f_wayPiece, f_wayPlace, f_wayNotes, f_hasResult, f_resultStart, f_resultEnd, f_resultNotes, a_tokenKind, a_tokenValue, a_text, a_pieceKind, a_pieceValue, a_pieceNext, a_pieceSecond, a_levelGroup, a_levelStart, a_levelEntry, a_branchStart, a_branchEntry, a_placesSeen, a_choicePiece, a_choicePlace, a_choiceNotes) v1) ∧
      (∀ (b_met : Nat → Int64) (b_todo b_notes : Nat → Int32) (post : Int32 → SY → Prop), ym_P1 g_count g_place g_end g_size g_large f_hasPattern g_depth g_groups g_atom g_atomSize (nI n) 1 b_kind b_value b_op b_with b_one b_two b_copyOp b_copyWith b_copyOne b_copyTwo b_opened b_branch b_sizes b_jumps b_groupOf a_text b_met b_todo b_notes post a no → wpY_find post (g_count, g_place, g_end, g_size, g_large, f_hasPattern, g_depth, g_groups, g_atom, g_atomSize, nI n, g_found, b_kind, b_value, b_op, b_with, b_one, b_two, b_copyOp, b_copyWith, b_copyOne, b_copyTwo, b_opened, b_branch, b_sizes, b_jumps, b_groupOf, a_text, b_met, b_todo, b_notes) v1)) := by
  have h10 : ¬ (1 : Int32) = 0 := by decide
  rcases hpat with rfl | ⟨rfl, P, E, hP, hE, rfl, rfl, h6, hF⟩
  · exact Or.inl ⟨fun c q l w ps cp cl cn post hp => br_t rfl (hp c q l w ps cp cl cn), fun met todo no post hp => br_t rfl (hp met todo no)⟩
  · by_cases h0 : v1 < 0
    · exact Or.inl ⟨fun c q l w ps cp cl cn post hp => br_f h10 (br_f (Int32.not_le.mpr h0) (hp c q l w ps cp cl cn)), fun met todo no post hp => br_f h10 (br_t h0 (hp met todo no))⟩
    · have h0' : 0 ≤ v1 := Int32.not_lt.mp h0
      obtain ⟨fr, hfr, rfl⟩ := nI_of h0
      by_cases hn : fr ≤ n
      · have hle : nI fr ≤ nI n := nI_le hn (by omega)
        rcases fd_loop (f_tokens := f_tokens) (f_faultPlace := f_faultPlace) (f_hasPattern := 1) (f_tooLarge := f_tooLarge) (f_level := f_level) (f_groups := f_groups) (f_atomStart := f_atomStart) (f_atomEntry := f_atomEntry) (f_resultStart := f_resultStart) (f_resultEnd := f_resultEnd) (f_resultNotes := f_resultNotes) (a_tokenKind := a_tokenKind) (a_tokenValue := a_tokenValue) (a_text := a_text) (a_levelGroup := a_levelGroup) (a_levelStart := a_levelStart) (a_levelEntry := a_levelEntry) (a_branchStart := a_branchStart) (a_branchEntry := a_branchEntry) (g_count := g_count) (g_place := g_place) (g_size := g_size) (g_large := g_large) (g_ready := 1) (g_depth := g_depth) (g_groups := g_groups) (g_atom := g_atom) (g_atomSize := g_atomSize) (b_kind := b_kind) (b_value := b_value) (b_copyOp := b_copyOp) (b_copyWith := b_copyWith) (b_copyOne := b_copyOne) (b_copyTwo := b_copyTwo) (b_opened := b_opened) (b_branch := b_branch) (b_sizes := b_sizes) (b_jumps := b_jumps) (b_groupOf := b_groupOf) hF hE hP h6 hl (n + 1 - fr) fr (by omega) with ⟨iX, iY⟩ | ⟨s1, a, w, no, v, q1, q2, q3, q4, q5, q6, iX, iY⟩
        · exact Or.inl ⟨fun c q l w ps cp cl cn post hp => br_f h10 (br_t h0' ⟨_, iX c q l w ps cp cl cn post hp⟩), fun met todo no post hp => br_f h10 (br_f h0 (br_t hle ⟨_, iY met todo no post hp⟩))⟩
        · exact Or.inr ⟨fr, s1, a, w, no, v, rfl, q1, q2, q3, q4, q5, q6, fun c q l w ps cp cl cn post hp => br_f h10 (br_t h0' ⟨_, iX c q l w ps cp cl cn post hp⟩), fun met todo no post hp => br_f h10 (br_f h0 (br_t hle ⟨_, iY met todo no post hp⟩))⟩
      · have hlt : nI n < nI fr := nI_lt (by omega) hfr
        exact Or.inl ⟨fun c q l w ps cp cl cn post hp => br_f h10 (br_t h0' ⟨1, br_t hlt (hp c q l w ps cp cl cn)⟩), fun met todo no post hp => br_f h10 (br_f h0 (br_f (nI_ge (by omega) hfr) (hp met todo no)))⟩
/-- count's loop -/
theorem fd_count {n : Nat} (hl : n ≤ 32) (hpat : fd_pat f_hasPattern f_pieces f_patternEntry g_end a_pieceKind a_pieceValue a_pieceNext a_pieceSecond b_op b_with b_one b_two) : ∀ (d fr t cnt : Nat) (hr rs re : Int32) (rn : Int64) (fo : Int32), 34 ≤ fr + d → fr ≤ 34 → t ≤ fr → 
    ∃ r : Int32, (∀ (f_choices f_wayPiece f_wayPlace : Int32) (f_wayNotes : Int64) (a_placesSeen : Nat → Int64) (a_choicePiece a_choicePlace : Nat → Int32) (a_choiceNotes : Nat → Int64) (post : Int32 → SX → Prop),
        (∀ (f_resultStart f_resultEnd : Int32) (f_resultNotes : Int64) (f_choices f_wayPiece f_wayPlace : Int32) (f_wayNotes : Int64) (a_placesSeen : Nat → Int64) (a_choicePiece a_choicePlace : Nat → Int32) (a_choiceNotes : Nat → Int64), post r (f_tokens, f_faultPlace, nI n, f_pieces, f_patternEntry, f_hasPattern, f_tooLarge, f_level, f_groups, f_atomStart, f_atomEntry, f_choices, f_wayPiece, f_wayPlace, f_wayNotes, 0, f_resultStart, f_resultEnd, f_resultNotes, a_tokenKind, a_tokenValue, a_text, a_pieceKind, a_pieceValue, a_pieceNext, a_pieceSecond, a_levelGroup, a_levelStart, a_levelEntry, a_branchStart, a_branchEntry, a_placesSeen, a_choicePiece, a_choicePlace, a_choiceNotes)) → wX_count_6 post (d + 1) (nI cnt) (nI fr) (nI t) f_tokens f_faultPlace (nI n) f_pieces f_patternEntry f_hasPattern f_tooLarge f_level f_groups f_atomStart f_atomEntry f_choices f_wayPiece f_wayPlace f_wayNotes hr rs re rn a_tokenKind a_tokenValue a_text a_pieceKind a_pieceValue a_pieceNext a_pieceSecond a_levelGroup a_levelStart a_levelEntry a_branchStart a_branchEntry a_placesSeen a_choicePiece a_choicePlace a_choiceNotes) ∧
      (∀ (b_met : Nat → Int64) (b_todo b_notes : Nat → Int32) (post : Int32 → SY → Prop),
        (∀ (b_met : Nat → Int64) (b_todo b_notes : Nat → Int32), post r (g_count, g_place, g_end, g_size, g_large, f_hasPattern, g_depth, g_groups, g_atom, g_atomSize, nI n, 0, b_kind, b_value, b_op, b_with, b_one, b_two, b_copyOp, b_copyWith, b_copyOne, b_copyTwo, b_opened, b_branch, b_sizes, b_jumps, b_groupOf, a_text, b_met, b_todo, b_notes)) → wY_count_4 post (d + 1) (nI cnt) (nI fr) g_count g_place g_end g_size g_large f_hasPattern g_depth g_groups g_atom g_atomSize (nI n) fo b_kind b_value b_op b_with b_one b_two b_copyOp b_copyWith b_copyOne b_copyTwo b_opened b_branch b_sizes b_jumps b_groupOf a_text b_met b_todo b_notes) := by
  intro d
  induction d with
  | zero =>
    intro fr t cnt hr rs re rn fo hfr hfr2 ht
    rcases fd_find (f_tokens := f_tokens) (f_faultPlace := f_faultPlace) (f_tooLarge := f_tooLarge) (f_level := f_level) (f_groups := f_groups) (f_atomStart := f_atomStart) (f_atomEntry := f_atomEntry) (f_hasResult := hr) (f_resultStart := rs) (f_resultEnd := re) (f_resultNotes := rn) (a_tokenKind := a_tokenKind) (a_tokenValue := a_tokenValue) (a_text := a_text) (a_levelGroup := a_levelGroup) (a_levelStart := a_levelStart) (a_levelEntry := a_levelEntry) (a_branchStart := a_branchStart) (a_branchEntry := a_branchEntry) (g_count := g_count) (g_place := g_place) (g_size := g_size) (g_large := g_large) (g_depth := g_depth) (g_groups := g_groups) (g_atom := g_atom) (g_atomSize := g_atomSize) (g_found := fo) (b_kind := b_kind) (b_value := b_value) (b_copyOp := b_copyOp) (b_copyWith := b_copyWith) (b_copyOne := b_copyOne) (b_copyTwo := b_copyTwo) (b_opened := b_opened) (b_branch := b_branch) (b_sizes := b_sizes) (b_jumps := b_jumps) (b_groupOf := b_groupOf) (nI fr) hl hpat with ⟨iX, iY⟩ | ⟨fr', s1, a, w, no, v, q0, q1, q2, q3, _⟩
    · refine ⟨nI cnt, fun c q l w ps cp cl cn post hp => ?_, fun met todo no post hp => ?_⟩
      · by_cases e : 32 < t
        · exact br_t (nI_lt (a := 32) e (by omega)) (hp _ _ _ _ _ _ _ _ _ _ _)
        · refine br_f (nI_nlt (b := t) (a := 32) (by omega) (by omega)) ?_
          refine iX c q l w ps cp cl cn _ (fun c q l w ps cp cl cn => ?_)
          exact br_t rfl (hp _ _ _ _ _ _ _ _ _ _ _)
      · rw [wY_count_4]
        refine iY met todo no _ (fun met todo no => ?_)
        exact br_t rfl (hp _ _ _)
    · have : fr = fr' := fg_ij q0 (by omega) (by omega)
      omega
  | succ d ih =>
    intro fr t cnt hr rs re rn fo hfr hfr2 ht
    rcases fd_find (f_tokens := f_tokens) (f_faultPlace := f_faultPlace) (f_tooLarge := f_tooLarge) (f_level := f_level) (f_groups := f_groups) (f_atomStart := f_atomStart) (f_atomEntry := f_atomEntry) (f_hasResult := hr) (f_resultStart := rs) (f_resultEnd := re) (f_resultNotes := rn) (a_tokenKind := a_tokenKind) (a_tokenValue := a_tokenValue) (a_text := a_text) (a_levelGroup := a_levelGroup) (a_levelStart := a_levelStart) (a_levelEntry := a_levelEntry) (a_branchStart := a_branchStart) (a_branchEntry := a_branchEntry) (g_count := g_count) (g_place := g_place) (g_size := g_size) (g_large := g_large) (g_depth := g_depth) (g_groups := g_groups) (g_atom := g_atom) (g_atomSize := g_atomSize) (g_found := fo) (b_kind := b_kind) (b_value := b_value) (b_copyOp := b_copyOp) (b_copyWith := b_copyWith) (b_copyOne := b_copyOne) (b_copyTwo := b_copyTwo) (b_opened := b_opened) (b_branch := b_branch) (b_sizes := b_sizes) (b_jumps := b_jumps) (b_groupOf := b_groupOf) (nI fr) hl hpat with ⟨iX, iY⟩ | ⟨fr', s1, a, w, no, v, q0, q1, q2, q3, q4, q5, q6, iX, iY⟩
    · refine ⟨nI cnt, fun c q l w ps cp cl cn post hp => ?_, fun met todo no post hp => ?_⟩
      · by_cases e : 32 < t
        · exact br_t (nI_lt (a := 32) e (by omega)) (hp _ _ _ _ _ _ _ _ _ _ _)
        · refine br_f (nI_nlt (b := t) (a := 32) (by omega) (by omega)) ?_
          refine iX c q l w ps cp cl cn _ (fun c q l w ps cp cl cn => ?_)
          exact br_t rfl (hp _ _ _ _ _ _ _ _ _ _ _)
      · rw [wY_count_4]
        refine iY met todo no _ (fun met todo no => ?_)
        exact br_t rfl (hp _ _ _)
    · obtain rfl : fr = fr' := fg_ij q0 (by omega) (by omega)
      have h10 : ¬ (1 : Int32) = 0 := by decide
      have e32 : ¬ (32 : Int32) < nI t := nI_nlt (b := t) (a := 32) (by omega) (by omega)
      have nz : ∀ no' : Nat → Int32, (∀ j, j < 8 → no' j = no j) → upd no' 1 (nI a) 1 = nI a ∧ upd no' 1 (nI a) 0 = nI s1 := fun no' hno => ⟨if_pos rfl, (if_neg (by omega)).trans ((hno 0 (by omega)).trans q6)⟩
      by_cases ea : a ≤ s1
      · have hle : nI a ≤ nI s1 := nI_le ea (by omega)
        obtain ⟨r, rX, rY⟩ := ih (a + 1) (t + 1) (cnt + 1) 1 (nI s1) (nI a) w 1 (by omega) (by omega) (by omega)
        refine ⟨r, fun c q l w ps cp cl cn post hp => br_f e32 ?_, fun met todo no post hp => ?_⟩
        · refine iX c q l w ps cp cl cn _ (fun c q l w ps cp cl cn => ?_)
          exact br_f h10 (nm_r (nI_1 cnt) (br_t hle (nm_r (nI_1 a) (nm_r (nI_1 t) (rX c q l w ps cp cl cn post hp)))))
        · rw [wY_count_4]
          refine iY met todo no _ (fun met todo no hno => ?_)
          obtain ⟨z1, z2⟩ := nz no hno
          refine br_f h10 (nm_r (nI_1 cnt) ?_)
          rw [z1, z2]
          exact br_t hle (nm_r (nI_1 a) (rY met todo _ post hp))
      · have hle : ¬ nI a ≤ nI s1 := nI_ge (by omega) (by omega)
        obtain ⟨r, rX, rY⟩ := ih a (t + 1) (cnt + 1) 1 (nI s1) (nI a) w 1 (by omega) (by omega) (by omega)
        refine ⟨r, fun c q l w ps cp cl cn post hp => br_f e32 ?_, fun met todo no post hp => ?_⟩
        · refine iX c q l w ps cp cl cn _ (fun c q l w ps cp cl cn => ?_)
          exact br_f h10 (nm_r (nI_1 cnt) (br_f hle (nm_r (nI_1 t) (rX c q l w ps cp cl cn post hp))))
        · rw [wY_count_4]
          refine iY met todo no _ (fun met todo no hno => ?_)
          obtain ⟨z1, z2⟩ := nz no hno
          refine br_f h10 (nm_r (nI_1 cnt) ?_)
          rw [z1, z2]
          exact br_f hle (nm_e (rY met todo _ post hp))
/-- starts' loop -/
theorem fd_starts {n : Nat} (hl : n ≤ 32) (hpat : fd_pat f_hasPattern f_pieces f_patternEntry g_end a_pieceKind a_pieceValue a_pieceNext a_pieceSecond b_op b_with b_one b_two) : ∀ (d s : Nat) (b hr rs re : Int32) (rn : Int64), s + d = 33 →
    ∃ r : Int32, (∀ (f_choices f_wayPiece f_wayPlace : Int32) (f_wayNotes : Int64) (a_placesSeen : Nat → Int64) (a_choicePiece a_choicePlace : Nat → Int32) (a_choiceNotes : Nat → Int64) (post : Int32 → SX → Prop),
        (∀ (f_resultStart f_resultEnd : Int32) (f_resultNotes : Int64) (f_choices f_wayPiece f_wayPlace : Int32) (f_wayNotes : Int64) (a_placesSeen : Nat → Int64) (a_choicePiece a_choicePlace : Nat → Int32) (a_choiceNotes : Nat → Int64), post r (f_tokens, f_faultPlace, nI n, f_pieces, f_patternEntry, f_hasPattern, f_tooLarge, f_level, f_groups, f_atomStart, f_atomEntry, f_choices, f_wayPiece, f_wayPlace, f_wayNotes, 0, f_resultStart, f_resultEnd, f_resultNotes, a_tokenKind, a_tokenValue, a_text, a_pieceKind, a_pieceValue, a_pieceNext, a_pieceSecond, a_levelGroup, a_levelStart, a_levelEntry, a_branchStart, a_branchEntry, a_placesSeen, a_choicePiece, a_choicePlace, a_choiceNotes)) → wX_starts_4 post (d + 1) b (nI s) f_tokens f_faultPlace (nI n) f_pieces f_patternEntry f_hasPattern f_tooLarge f_level f_groups f_atomStart f_atomEntry f_choices f_wayPiece f_wayPlace f_wayNotes hr rs re rn a_tokenKind a_tokenValue a_text a_pieceKind a_pieceValue a_pieceNext a_pieceSecond a_levelGroup a_levelStart a_levelEntry a_branchStart a_branchEntry a_placesSeen a_choicePiece a_choicePlace a_choiceNotes) ∧
      (∀ (b_met : Nat → Int64) (b_todo b_notes : Nat → Int32) (post : Int32 → SY → Prop),
        (∀ (b_met : Nat → Int64) (b_todo b_notes : Nat → Int32), post r (g_count, g_place, g_end, g_size, g_large, f_hasPattern, g_depth, g_groups, g_atom, g_atomSize, nI n, 0, b_kind, b_value, b_op, b_with, b_one, b_two, b_copyOp, b_copyWith, b_copyOne, b_copyTwo, b_opened, b_branch, b_sizes, b_jumps, b_groupOf, a_text, b_met, b_todo, b_notes)) → wY_starts_4 post (d + 1) b (nI s) g_count g_place g_end g_size g_large f_hasPattern g_depth g_groups g_atom g_atomSize (nI n) g_found b_kind b_value b_op b_with b_one b_two b_copyOp b_copyWith b_copyOne b_copyTwo b_opened b_branch b_sizes b_jumps b_groupOf a_text b_met b_todo b_notes) := by
  intro d
  have h10 : ¬ (1 : Int32) = 0 := by decide
  induction d with
  | zero =>
    intro s b hr rs re rn hs
    refine ⟨b, fun c q l w ps cp cl cn post hp => br_t (nI_le (a := 32) (by omega) (by omega)) (hp _ _ _ _ _ _ _ _ _ _ _), fun met todo no post hp => ?_⟩
    exact br_t (nI_lt (by omega) (by omega)) (hp _ _ _)
  | succ d ih =>
    intro s b hr rs re rn hs
    by_cases e32 : 32 ≤ s
    · refine ⟨b, fun c q l w ps cp cl cn post hp => br_t (nI_le (a := 32) (by omega) (by omega)) (hp _ _ _ _ _ _ _ _ _ _ _), fun met todo no post hp => ?_⟩
      by_cases en : n < s
      · exact br_t (nI_lt (by omega) (by omega)) (hp _ _ _)
      · exact br_f (nI_nlt (by omega) (by omega)) (br_t (nI_le (a := 32) (by omega) (by omega)) (hp _ _ _))
    · have n32 : ¬ (32 : Int32) ≤ nI s := nI_ge (b := 32) (by omega) (by omega)
      by_cases en : n < s
      · have hlt : nI n < nI s := nI_lt en (by omega)
        exact ⟨b, fun c q l w ps cp cl cn post hp => br_f n32 (br_t hlt (hp _ _ _ _ _ _ _ _ _ _ _)), fun met todo no post hp => br_t hlt (hp _ _ _)⟩
      · have hlt : ¬ nI n < nI s := nI_nlt (by omega) (by omega)
        have hpat' := hpat
        rcases hpat with rfl | ⟨rfl, P, E, hP, hE, rfl, rfl, h6, hF⟩
        · exact ⟨b, fun c q l w ps cp cl cn post hp => br_f n32 (br_f hlt (br_t rfl (hp _ _ _ _ _ _ _ _ _ _ _))), fun met todo no post hp => br_f hlt (br_f n32 (br_t rfl (hp _ _ _)))⟩
        · rcases fd_m (f_tokens := f_tokens) (f_faultPlace := f_faultPlace) (f_hasPattern := 1) (f_tooLarge := f_tooLarge) (f_level := f_level) (f_groups := f_groups) (f_atomStart := f_atomStart) (f_atomEntry := f_atomEntry) (f_hasResult := hr) (f_resultStart := rs) (f_resultEnd := re) (f_resultNotes := rn) (a_tokenKind := a_tokenKind) (a_tokenValue := a_tokenValue) (a_text := a_text) (a_levelGroup := a_levelGroup) (a_levelStart := a_levelStart) (a_levelEntry := a_levelEntry) (a_branchStart := a_branchStart) (a_branchEntry := a_branchEntry) (g_count := g_count) (g_place := g_place) (g_size := g_size) (g_large := g_large) (g_ready := 1) (g_depth := g_depth) (g_groups := g_groups) (g_atom := g_atom) (g_atomSize := g_atomSize) (g_found := g_found) (b_kind := b_kind) (b_value := b_value) (b_copyOp := b_copyOp) (b_copyWith := b_copyWith) (b_copyOne := b_copyOne) (b_copyTwo := b_copyTwo) (b_opened := b_opened) (b_branch := b_branch) (b_sizes := b_sizes) (b_jumps := b_jumps) (b_groupOf := b_groupOf) 0 hF hE hP h6 hl (show s ≤ n by omega) with ⟨mX, mY⟩ | ⟨a, w, no, v, q1, q2, q3, q4, q5, mX, mY⟩
          · obtain ⟨r, rX, rY⟩ := ih (s + 1) b hr rs re rn (by omega)
            refine ⟨r, fun c q l w ps cp cl cn post hp => br_f n32 (br_f hlt (br_f h10 ?_)), fun met todo no post hp => br_f hlt (br_f n32 (br_f h10 ?_))⟩
            · refine mX c q l w ps cp cl cn _ (fun c q l w ps cp cl cn => ?_)
              exact br_t rfl (nm_r (nI_1 s) (rX c q l w ps cp cl cn post hp))
            · refine mY met todo no _ (fun met todo no => ?_)
              exact br_t rfl (nm_r (nI_1 s) (rY met todo no post hp))
          · obtain ⟨r, rX, rY⟩ := ih (s + 1) (b ||| ((1 : Int32) <<< (nI s &&& 31))) 1 (nI s) (nI a) w (by omega)
            refine ⟨r, fun c q l w ps cp cl cn post hp => br_f n32 (br_f hlt (br_f h10 ?_)), fun met todo no post hp => br_f hlt (br_f n32 (br_f h10 ?_))⟩
            · refine mX c q l w ps cp cl cn _ (fun c q l w ps cp cl cn => ?_)
              exact br_f h10 (nm_e (nm_r (nI_1 s) (rX c q l w ps cp cl cn post hp)))
            · refine mY met todo no _ (fun met todo no hno => ?_)
              exact br_f h10 (nm_e (nm_r (nI_1 s) (rY met todo _ post hp)))
end FE
