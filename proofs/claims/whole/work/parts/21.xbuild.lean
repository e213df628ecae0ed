section XB
/-! the component's building steps -/
def cx_lo (f : Nat → Int32) (s e : Nat) (t : Int32) : Nat → Int32 := fun p => if s ≤ p ∧ p < e then fg_mo t (f p) else f p
theorem cx_lo_0 {f : Nat → Int32} {s e : Nat} {t : Int32} (h : e ≤ s) : cx_lo f s e t = f := by
  funext p; exact if_neg (by omega)
theorem cx_lo_in {f : Nat → Int32} {s e p : Nat} {t : Int32} (h1 : s ≤ p) (h2 : p < e) : cx_lo f s e t p = fg_mo t (f p) := if_pos ⟨h1, h2⟩
theorem cx_lo_out {f : Nat → Int32} {s e p : Nat} {t : Int32} (h : ¬ (s ≤ p ∧ p < e)) : cx_lo f s e t p = f p := if_neg h
theorem cx_lo_i {f : Nat → Int32} {s i : Nat} {t : Int32} : cx_lo f s i t i = f i := if_neg (by omega)
theorem cx_lo_u {f : Nat → Int32} {s i : Nat} {t : Int32} (hs : s ≤ i) (h : f i = -1) : upd (cx_lo f s i t) i t = cx_lo f s (i + 1) t := by
  funext p
  unfold upd cx_lo
  by_cases e : p = i
  · subst e
    rw [if_pos rfl, if_pos (by omega), h, fg_mo_m]
  · rw [if_neg e]
    by_cases e2 : s ≤ p ∧ p < i
    · rw [if_pos e2, if_pos (by omega)]
    · rw [if_neg e2, if_neg (by omega)]
theorem cx_lo_n {f : Nat → Int32} {s i : Nat} {t : Int32} (h : ¬ f i = -1) : cx_lo f s i t = cx_lo f s (i + 1) t := by
  funext p
  unfold cx_lo
  by_cases e : p = i
  · subst e
    rw [if_neg (by omega)]
    by_cases e2 : s ≤ p ∧ p < p + 1
    · rw [if_pos e2, fg_mo, if_neg h]
    · rw [if_neg e2]
  · by_cases e2 : s ≤ p ∧ p < i
    · rw [if_pos e2, if_pos (by omega)]
    · rw [if_neg e2, if_neg (by omega)]
variable {f_tokens f_faultPlace f_length f_pieces f_patternEntry f_hasPattern f_tooLarge f_level f_groups f_atomStart f_atomEntry f_choices f_wayPiece f_wayPlace : Int32} {f_wayNotes : Int64} {f_hasResult f_resultStart f_resultEnd : Int32} {f_resultNotes : Int64} {a_tokenKind a_tokenValue a_text a_pieceKind a_pieceValue a_pieceNext a_pieceSecond a_levelGroup a_levelStart a_levelEntry a_branchStart a_branchEntry : Nat → Int32} {a_placesSeen : Nat → Int64} {a_choicePiece a_choicePlace : Nat → Int32} {a_choiceNotes : Nat → Int64}
theorem cx_lo3 {post : SX → Prop} {s e : Nat} {t : Int32} (he : e ≤ 36) (h : post (f_tokens, f_faultPlace, f_length, f_pieces, f_patternEntry, f_hasPattern, f_tooLarge, f_level, f_groups, f_atomStart, f_atomEntry, f_choices, f_wayPiece, f_wayPlace, f_wayNotes, f_hasResult, f_resultStart, f_resultEnd, f_resultNotes, a_tokenKind, a_tokenValue, a_text, a_pieceKind, a_pieceValue, cx_lo a_pieceNext s e t, cx_lo a_pieceSecond s e t, a_levelGroup, a_levelStart, a_levelEntry, a_branchStart, a_branchEntry, a_placesSeen, a_choicePiece, a_choicePlace, a_choiceNotes)) : ∀ (d i : Nat), i + d = e → s ≤ i →
    wX_leadOutTo_3 post (nI e) t f_tokens f_faultPlace f_length f_pieces f_patternEntry f_hasPattern f_tooLarge f_level f_groups f_atomStart f_atomEntry f_choices f_wayPiece f_wayPlace f_wayNotes f_hasResult f_resultStart f_resultEnd f_resultNotes (d + 1) (nI i) a_tokenKind a_tokenValue a_text a_pieceKind a_pieceValue (cx_lo a_pieceNext s i t) (cx_lo a_pieceSecond s i t) a_levelGroup a_levelStart a_levelEntry a_branchStart a_branchEntry a_placesSeen a_choicePiece a_choicePlace a_choiceNotes := by
  intro d
  induction d with
  | zero =>
    intro i hi hs
    obtain rfl : i = e := by omega
    exact br_t (nI_le (Nat.le_refl _) (by omega)) h
  | succ d ih =>
    intro i hi hs
    have hv : vp_in (nI i) 36 := vp_in_nI (by omega) (by omega)
    have ec : (nI i).toNatClampNeg = i := nI_clamp (by omega)
    have I := ih (i + 1) (by omega) (by omega)
    refine br_f (nI_ge (by omega) (by omega)) ⟨hv, ?_⟩
    rw [ec, cx_lo_i]
    have second : wX_leadOutTo_28 post (wX_leadOutTo_3 post (nI e) t f_tokens f_faultPlace f_length f_pieces f_patternEntry f_hasPattern f_tooLarge f_level f_groups f_atomStart f_atomEntry f_choices f_wayPiece f_wayPlace f_wayNotes f_hasResult f_resultStart f_resultEnd f_resultNotes (d + 1)) (nI e) t (nI i) f_tokens f_faultPlace f_length f_pieces f_patternEntry f_hasPattern f_tooLarge f_level f_groups f_atomStart f_atomEntry f_choices f_wayPiece f_wayPlace f_wayNotes f_hasResult f_resultStart f_resultEnd f_resultNotes a_tokenKind a_tokenValue a_text a_pieceKind a_pieceValue (cx_lo a_pieceNext s (i + 1) t) (cx_lo a_pieceSecond s i t) a_levelGroup a_levelStart a_levelEntry a_branchStart a_branchEntry a_placesSeen a_choicePiece a_choicePlace a_choiceNotes := by
      refine ⟨hv, ?_⟩
      rw [ec, cx_lo_i]
      by_cases e1 : a_pieceSecond i = -1
      · exact br_t e1 ⟨hv, nm_r (cx_lo_u hs e1) (nm_r (nI_1 i) I)⟩
      · rw [cx_lo_n (s := s) (t := t) e1]
        exact br_f e1 (nm_r (nI_1 i) I)
    by_cases e1 : a_pieceNext i = -1
    · exact br_t e1 ⟨hv, nm_r (cx_lo_u hs e1) second⟩
    · rw [cx_lo_n (s := s) (t := t) e1]
      exact br_f e1 second
theorem cx_lead {post : SX → Prop} {s e : Nat} {t : Int32} (he : e ≤ 36) (hs : s ≤ 36) (h : post (f_tokens, f_faultPlace, f_length, f_pieces, f_patternEntry, f_hasPattern, f_tooLarge, f_level, f_groups, f_atomStart, f_atomEntry, f_choices, f_wayPiece, f_wayPlace, f_wayNotes, f_hasResult, f_resultStart, f_resultEnd, f_resultNotes, a_tokenKind, a_tokenValue, a_text, a_pieceKind, a_pieceValue, cx_lo a_pieceNext s e t, cx_lo a_pieceSecond s e t, a_levelGroup, a_levelStart, a_levelEntry, a_branchStart, a_branchEntry, a_placesSeen, a_choicePiece, a_choicePlace, a_choiceNotes)) : wpX_leadOutTo post (f_tokens, f_faultPlace, f_length, f_pieces, f_patternEntry, f_hasPattern, f_tooLarge, f_level, f_groups, f_atomStart, f_atomEntry, f_choices, f_wayPiece, f_wayPlace, f_wayNotes, f_hasResult, f_resultStart, f_resultEnd, f_resultNotes, a_tokenKind, a_tokenValue, a_text, a_pieceKind, a_pieceValue, a_pieceNext, a_pieceSecond, a_levelGroup, a_levelStart, a_levelEntry, a_branchStart, a_branchEntry, a_placesSeen, a_choicePiece, a_choicePlace, a_choiceNotes) (nI s) (nI e) t := by
  by_cases hse : s ≤ e
  · refine ⟨e - s + 1, ?_⟩
    have := cx_lo3 he h (e - s) s (by omega) (Nat.le_refl _)
    rw [cx_lo_0 (Nat.le_refl _), cx_lo_0 (Nat.le_refl _)] at this
    exact this
  · rw [cx_lo_0 (by omega), cx_lo_0 (by omega)] at h
    exact ⟨1, br_t (nI_le (by omega) (by omega)) h⟩
theorem cx_add {post : Int32 → SX → Prop} {pc : Nat} {k v n s : Int32} (hp : pc < 36) (h : post (nI pc) (f_tokens, f_faultPlace, f_length, nI (pc + 1), f_patternEntry, f_hasPattern, f_tooLarge, f_level, f_groups, f_atomStart, f_atomEntry, f_choices, f_wayPiece, f_wayPlace, f_wayNotes, f_hasResult, f_resultStart, f_resultEnd, f_resultNotes, a_tokenKind, a_tokenValue, a_text, upd a_pieceKind pc k, upd a_pieceValue pc v, upd a_pieceNext pc n, upd a_pieceSecond pc s, a_levelGroup, a_levelStart, a_levelEntry, a_branchStart, a_branchEntry, a_placesSeen, a_choicePiece, a_choicePlace, a_choiceNotes)) : wpX_addPiece post (f_tokens, f_faultPlace, f_length, nI pc, f_patternEntry, f_hasPattern, f_tooLarge, f_level, f_groups, f_atomStart, f_atomEntry, f_choices, f_wayPiece, f_wayPlace, f_wayNotes, f_hasResult, f_resultStart, f_resultEnd, f_resultNotes, a_tokenKind, a_tokenValue, a_text, a_pieceKind, a_pieceValue, a_pieceNext, a_pieceSecond, a_levelGroup, a_levelStart, a_levelEntry, a_branchStart, a_branchEntry, a_placesSeen, a_choicePiece, a_choicePlace, a_choiceNotes) k v n s := by
  have hv : vp_in (nI pc) 36 := vp_in_nI (by omega) (by omega)
  have ec : (nI pc).toNatClampNeg = pc := nI_clamp (by omega)
  refine br_t (nI_lt (b := 36) hp (by omega)) ⟨hv, nm_r (by rw [ec]) ⟨hv, nm_r (by rw [ec]) ⟨hv, nm_r (by rw [ec]) ⟨hv, nm_r (by rw [ec]) (nm_r (nI_1 pc) ?_)⟩⟩⟩⟩
  rw [nI_pred]; exact h
theorem cx_add0 {post : Int32 → SX → Prop} {pc : Nat} {k v n s : Int32} (hp : 36 ≤ pc) (hp2 : pc < 100) (h : post (-1) (f_tokens, f_faultPlace, f_length, nI pc, f_patternEntry, f_hasPattern, 1, f_level, f_groups, f_atomStart, f_atomEntry, f_choices, f_wayPiece, f_wayPlace, f_wayNotes, f_hasResult, f_resultStart, f_resultEnd, f_resultNotes, a_tokenKind, a_tokenValue, a_text, a_pieceKind, a_pieceValue, a_pieceNext, a_pieceSecond, a_levelGroup, a_levelStart, a_levelEntry, a_branchStart, a_branchEntry, a_placesSeen, a_choicePiece, a_choicePlace, a_choiceNotes)) : wpX_addPiece post (f_tokens, f_faultPlace, f_length, nI pc, f_patternEntry, f_hasPattern, f_tooLarge, f_level, f_groups, f_atomStart, f_atomEntry, f_choices, f_wayPiece, f_wayPlace, f_wayNotes, f_hasResult, f_resultStart, f_resultEnd, f_resultNotes, a_tokenKind, a_tokenValue, a_text, a_pieceKind, a_pieceValue, a_pieceNext, a_pieceSecond, a_levelGroup, a_levelStart, a_levelEntry, a_branchStart, a_branchEntry, a_placesSeen, a_choicePiece, a_choicePlace, a_choiceNotes) k v n s :=
  br_f (nI_nlt (b := 36) hp (by omega)) h
theorem cx_begin {post : SX → Prop} {lv : Nat} {g : Int32} (hl : lv < 25) (h : post (f_tokens, f_faultPlace, f_length, f_pieces, f_patternEntry, f_hasPattern, f_tooLarge, nI lv, f_groups, f_atomStart, f_atomEntry, f_choices, f_wayPiece, f_wayPlace, f_wayNotes, f_hasResult, f_resultStart, f_resultEnd, f_resultNotes, a_tokenKind, a_tokenValue, a_text, a_pieceKind, a_pieceValue, a_pieceNext, a_pieceSecond, upd a_levelGroup lv g, upd a_levelStart lv f_pieces, upd a_levelEntry lv (-2), upd a_branchStart lv f_pieces, upd a_branchEntry lv (-1), a_placesSeen, a_choicePiece, a_choicePlace, a_choiceNotes)) : wpX_beginLevel post (f_tokens, f_faultPlace, f_length, f_pieces, f_patternEntry, f_hasPattern, f_tooLarge, nI lv, f_groups, f_atomStart, f_atomEntry, f_choices, f_wayPiece, f_wayPlace, f_wayNotes, f_hasResult, f_resultStart, f_resultEnd, f_resultNotes, a_tokenKind, a_tokenValue, a_text, a_pieceKind, a_pieceValue, a_pieceNext, a_pieceSecond, a_levelGroup, a_levelStart, a_levelEntry, a_branchStart, a_branchEntry, a_placesSeen, a_choicePiece, a_choicePlace, a_choiceNotes) g := by
  have hv : vp_in (nI lv) 25 := vp_in_nI hl (by omega)
  have ec : (nI lv).toNatClampNeg = lv := nI_clamp (by omega)
  exact ⟨hv, nm_r (by rw [ec]) ⟨hv, nm_r (by rw [ec]) ⟨hv, nm_r (by rw [ec]) ⟨hv, nm_r (by rw [ec]) ⟨hv, nm_r (by rw [ec]) h⟩⟩⟩⟩⟩
/-- an atom joins its branch -/
theorem cx_join {post : SX → Prop} {lv b a : Nat} (hl : lv < 25) (hb : a_branchStart lv = nI b) (hb2 : b ≤ 36) (ha : f_atomEntry = -1 ∨ (f_atomStart = nI a ∧ a ≤ 36)) (hr : a_branchEntry lv = -1 → a ≤ b)
    (h : post (f_tokens, f_faultPlace, f_length, f_pieces, f_patternEntry, f_hasPattern, f_tooLarge, nI lv, f_groups, f_atomStart, (-1), f_choices, f_wayPiece, f_wayPlace, f_wayNotes, f_hasResult, f_resultStart, f_resultEnd, f_resultNotes, a_tokenKind, a_tokenValue, a_text, a_pieceKind, a_pieceValue, cx_lo a_pieceNext b (if f_atomEntry = -1 then b else a) f_atomEntry, cx_lo a_pieceSecond b (if f_atomEntry = -1 then b else a) f_atomEntry, a_levelGroup, a_levelStart, a_levelEntry, a_branchStart, upd a_branchEntry lv (fg_mo f_atomEntry (a_branchEntry lv)), a_placesSeen, a_choicePiece, a_choicePlace, a_choiceNotes)) : wpX_joinAtom post (f_tokens, f_faultPlace, f_length, f_pieces, f_patternEntry, f_hasPattern, f_tooLarge, nI lv, f_groups, f_atomStart, f_atomEntry, f_choices, f_wayPiece, f_wayPlace, f_wayNotes, f_hasResult, f_resultStart, f_resultEnd, f_resultNotes, a_tokenKind, a_tokenValue, a_text, a_pieceKind, a_pieceValue, a_pieceNext, a_pieceSecond, a_levelGroup, a_levelStart, a_levelEntry, a_branchStart, a_branchEntry, a_placesSeen, a_choicePiece, a_choicePlace, a_choiceNotes) := by
  have hv : vp_in (nI lv) 25 := vp_in_nI hl (by omega)
  have ec : (nI lv).toNatClampNeg = lv := nI_clamp (by omega)
  by_cases e : f_atomEntry = -1
  · rw [if_pos e, cx_lo_0 (Nat.le_refl _), cx_lo_0 (Nat.le_refl _)] at h
    have e2 : upd a_branchEntry lv (fg_mo f_atomEntry (a_branchEntry lv)) = a_branchEntry := by
      rw [e, fg_mo_id]
      funext j
      unfold upd
      by_cases ej : j = lv
      · rw [if_pos ej, ej]
      · rw [if_neg ej]
    rw [e2] at h
    refine br_t e ?_
    rw [e]; exact h
  · rw [if_neg e] at h
    rcases ha with ha | ⟨ha, ha2⟩
    · exact absurd ha e
    · refine br_f e ⟨hv, ?_⟩
      rw [ec]
      by_cases eb : a_branchEntry lv = -1
      · rw [cx_lo_0 (hr eb), cx_lo_0 (hr eb), eb, fg_mo_m] at h
        exact br_t eb ⟨hv, nm_e h⟩
      · have e2 : upd a_branchEntry lv (fg_mo f_atomEntry (a_branchEntry lv)) = a_branchEntry := by
          rw [fg_mo, if_neg eb]
          funext j
          unfold upd
          by_cases ej : j = lv
          · rw [if_pos ej, ej]
          · rw [if_neg ej]
        rw [e2] at h
        refine br_f eb ⟨hv, ?_⟩
        rw [hb, ha]
        rw [ha] at h
        exact cx_lead ha2 hb2 h
/-- the end of a branch: the first branch of its level, a fork, or too large -/
theorem cx_end1 {post : SX → Prop} {lv : Nat} (hl : lv < 25) (he : a_levelEntry lv = -2) (h : post (f_tokens, f_faultPlace, f_length, f_pieces, f_patternEntry, f_hasPattern, f_tooLarge, nI lv, f_groups, f_atomStart, f_atomEntry, f_choices, f_wayPiece, f_wayPlace, f_wayNotes, f_hasResult, f_resultStart, f_resultEnd, f_resultNotes, a_tokenKind, a_tokenValue, a_text, a_pieceKind, a_pieceValue, a_pieceNext, a_pieceSecond, a_levelGroup, a_levelStart, upd a_levelEntry lv (a_branchEntry lv), upd a_branchStart lv f_pieces, upd a_branchEntry lv (-1), a_placesSeen, a_choicePiece, a_choicePlace, a_choiceNotes)) : wpX_endBranch post (f_tokens, f_faultPlace, f_length, f_pieces, f_patternEntry, f_hasPattern, f_tooLarge, nI lv, f_groups, f_atomStart, f_atomEntry, f_choices, f_wayPiece, f_wayPlace, f_wayNotes, f_hasResult, f_resultStart, f_resultEnd, f_resultNotes, a_tokenKind, a_tokenValue, a_text, a_pieceKind, a_pieceValue, a_pieceNext, a_pieceSecond, a_levelGroup, a_levelStart, a_levelEntry, a_branchStart, a_branchEntry, a_placesSeen, a_choicePiece, a_choicePlace, a_choiceNotes) := by
  have hv : vp_in (nI lv) 25 := vp_in_nI hl (by omega)
  have ec : (nI lv).toNatClampNeg = lv := nI_clamp (by omega)
  exact ⟨hv, br_t (by rw [ec]; exact he) ⟨hv, hv, nm_r (by rw [ec]) ⟨hv, nm_r (by rw [ec]) ⟨hv, nm_r (by rw [ec]) h⟩⟩⟩⟩
theorem cx_end2 {post : SX → Prop} {lv pc : Nat} (hl : lv < 25) (he : ¬ a_levelEntry lv = -2) (hp : pc < 36) (h : post (f_tokens, f_faultPlace, f_length, nI (pc + 1), f_patternEntry, f_hasPattern, f_tooLarge, nI lv, f_groups, f_atomStart, f_atomEntry, f_choices, f_wayPiece, f_wayPlace, f_wayNotes, f_hasResult, f_resultStart, f_resultEnd, f_resultNotes, a_tokenKind, a_tokenValue, a_text, upd a_pieceKind pc 4, upd a_pieceValue pc 0, upd a_pieceNext pc (a_levelEntry lv), upd a_pieceSecond pc (a_branchEntry lv), a_levelGroup, a_levelStart, upd a_levelEntry lv (nI pc), upd a_branchStart lv (nI (pc + 1)), upd a_branchEntry lv (-1), a_placesSeen, a_choicePiece, a_choicePlace, a_choiceNotes)) : wpX_endBranch post (f_tokens, f_faultPlace, f_length, nI pc, f_patternEntry, f_hasPattern, f_tooLarge, nI lv, f_groups, f_atomStart, f_atomEntry, f_choices, f_wayPiece, f_wayPlace, f_wayNotes, f_hasResult, f_resultStart, f_resultEnd, f_resultNotes, a_tokenKind, a_tokenValue, a_text, a_pieceKind, a_pieceValue, a_pieceNext, a_pieceSecond, a_levelGroup, a_levelStart, a_levelEntry, a_branchStart, a_branchEntry, a_placesSeen, a_choicePiece, a_choicePlace, a_choiceNotes) := by
  have hv : vp_in (nI lv) 25 := vp_in_nI hl (by omega)
  have ec : (nI lv).toNatClampNeg = lv := nI_clamp (by omega)
  refine ⟨hv, br_f (by rw [ec]; exact he) ⟨hv, hv, ?_⟩⟩
  rw [ec]
  refine cx_add hp ?_
  exact ⟨hv, nm_e ⟨hv, nm_r (by rw [ec]) ⟨hv, nm_r (by rw [ec]) h⟩⟩⟩
theorem cx_end3 {post : SX → Prop} {lv : Nat} (hl : lv < 25) (he : ¬ a_levelEntry lv = -2) (h : post (f_tokens, f_faultPlace, f_length, nI 36, f_patternEntry, f_hasPattern, 1, nI lv, f_groups, f_atomStart, f_atomEntry, f_choices, f_wayPiece, f_wayPlace, f_wayNotes, f_hasResult, f_resultStart, f_resultEnd, f_resultNotes, a_tokenKind, a_tokenValue, a_text, a_pieceKind, a_pieceValue, a_pieceNext, a_pieceSecond, a_levelGroup, a_levelStart, upd a_levelEntry lv (-1), upd a_branchStart lv (nI 36), upd a_branchEntry lv (-1), a_placesSeen, a_choicePiece, a_choicePlace, a_choiceNotes)) : wpX_endBranch post (f_tokens, f_faultPlace, f_length, nI 36, f_patternEntry, f_hasPattern, f_tooLarge, nI lv, f_groups, f_atomStart, f_atomEntry, f_choices, f_wayPiece, f_wayPlace, f_wayNotes, f_hasResult, f_resultStart, f_resultEnd, f_resultNotes, a_tokenKind, a_tokenValue, a_text, a_pieceKind, a_pieceValue, a_pieceNext, a_pieceSecond, a_levelGroup, a_levelStart, a_levelEntry, a_branchStart, a_branchEntry, a_placesSeen, a_choicePiece, a_choicePlace, a_choiceNotes) := by
  have hv : vp_in (nI lv) 25 := vp_in_nI hl (by omega)
  have ec : (nI lv).toNatClampNeg = lv := nI_clamp (by omega)
  refine ⟨hv, br_f (by rw [ec]; exact he) ⟨hv, hv, ?_⟩⟩
  refine cx_add0 (Nat.le_refl _) (by omega) ?_
  exact ⟨hv, nm_r (by rw [ec]) ⟨hv, nm_r (by rw [ec]) ⟨hv, nm_r (by rw [ec]) h⟩⟩⟩
end XB
