section XC
theorem fg_q_us {K V N S : Nat → Int32} {p : Nat} {k v n s : Int32} : fg_q (upd K p k) (upd V p v) (upd N p n) (upd S p s) p = (k, v, n, s) := by
  unfold fg_q; rw [rl_us, rl_us, rl_us, rl_us]
theorem fg_q_un {K V N S : Nat → Int32} {p j : Nat} {k v n s : Int32} (h : j ≠ p) : fg_q (upd K p k) (upd V p v) (upd N p n) (upd S p s) j = fg_q K V N S j := by
  unfold fg_q; rw [rl_un h, rl_un h, rl_un h, rl_un h]
theorem fg_q_lo {K V N S : Nat → Int32} {s e p : Nat} {t : Int32} (h1 : s ≤ p) (h2 : p < e) : fg_q K V (cx_lo N s e t) (cx_lo S s e t) p = fg_px (fg_mo t) (fg_q K V N S p) := by
  unfold fg_q; rw [cx_lo_in h1 h2, cx_lo_in h1 h2]; rfl
theorem fg_q_ln {K V N S : Nat → Int32} {s e p : Nat} {t : Int32} (h : ¬ (s ≤ p ∧ p < e)) : fg_q K V (cx_lo N s e t) (cx_lo S s e t) p = fg_q K V N S p := by
  unfold fg_q; rw [cx_lo_out h, cx_lo_out h]
variable {f_tokens f_faultPlace f_length f_pieces f_patternEntry f_hasPattern f_tooLarge f_level f_groups f_atomStart f_atomEntry f_choices f_wayPiece f_wayPlace : Int32} {f_wayNotes : Int64} {f_hasResult f_resultStart f_resultEnd : Int32} {f_resultNotes : Int64} {a_tokenKind a_tokenValue a_text a_pieceKind a_pieceValue a_pieceNext a_pieceSecond a_levelGroup a_levelStart a_levelEntry a_branchStart a_branchEntry : Nat → Int32} {a_placesSeen : Nat → Int64} {a_choicePiece a_choicePlace : Nat → Int32} {a_choiceNotes : Nat → Int64}
theorem cx_endOK {lv pc : Nat} (hl : lv < 25) (hp : a_levelEntry lv = -2 ∨ pc < 36) :
    ∃ (pc1 : Nat) (K V N S : Nat → Int32) (e1 : Int32),
      ((a_levelEntry lv = -2 ∧ e1 = a_branchEntry lv ∧ pc1 = pc) ∨ (¬ a_levelEntry lv = -2 ∧ e1 = nI pc ∧ pc1 = pc + 1 ∧ (fg_q K V N S pc).1 = 4 ∧ (fg_q K V N S pc).2.2 = (a_levelEntry lv, a_branchEntry lv))) ∧
      (∀ p, p < pc → fg_q K V N S p = fg_q a_pieceKind a_pieceValue a_pieceNext a_pieceSecond p) ∧
      (∀ post : SX → Prop, post (f_tokens, f_faultPlace, f_length, nI pc1, f_patternEntry, f_hasPattern, f_tooLarge, nI lv, f_groups, f_atomStart, f_atomEntry, f_choices, f_wayPiece, f_wayPlace, f_wayNotes, f_hasResult, f_resultStart, f_resultEnd, f_resultNotes, a_tokenKind, a_tokenValue, a_text, K, V, N, S, a_levelGroup, a_levelStart, upd a_levelEntry lv e1, upd a_branchStart lv (nI pc1), upd a_branchEntry lv (-1), a_placesSeen, a_choicePiece, a_choicePlace, a_choiceNotes) → wpX_endBranch post (f_tokens, f_faultPlace, f_length, nI pc, f_patternEntry, f_hasPattern, f_tooLarge, nI lv, f_groups, f_atomStart, f_atomEntry, f_choices, f_wayPiece, f_wayPlace, f_wayNotes, f_hasResult, f_resultStart, f_resultEnd, f_resultNotes, a_tokenKind, a_tokenValue, a_text, a_pieceKind, a_pieceValue, a_pieceNext, a_pieceSecond, a_levelGroup, a_levelStart, a_levelEntry, a_branchStart, a_branchEntry, a_placesSeen, a_choicePiece, a_choicePlace, a_choiceNotes)) := by
  by_cases e : a_levelEntry lv = -2
  · exact ⟨pc, a_pieceKind, a_pieceValue, a_pieceNext, a_pieceSecond, a_branchEntry lv, Or.inl ⟨e, rfl, rfl⟩, fun _ _ => rfl, fun post h => cx_end1 hl e h⟩
  · have hp' : pc < 36 := hp.resolve_left e
    refine ⟨pc + 1, upd a_pieceKind pc 4, upd a_pieceValue pc 0, upd a_pieceNext pc (a_levelEntry lv), upd a_pieceSecond pc (a_branchEntry lv), nI pc, Or.inr ⟨e, rfl, rfl, ?_, ?_⟩, fun p h => fg_q_un (by omega), fun post h => cx_end2 hl e hp' h⟩
    · rw [fg_q_us]
    · rw [fg_q_us]
/-- a group's two notes around an atom -/
theorem cx_wrapOK {pc a g : Nat} (hg1 : 1 ≤ g) (hg3 : g ≤ 3) (hp : pc + 2 ≤ 36) (ha : a ≤ pc) :
    ∃ (K V N S : Nat → Int32), (∀ p, a ≤ p → p < pc → fg_q K V N S p = fg_px (fg_mo (nI pc)) (fg_q a_pieceKind a_pieceValue a_pieceNext a_pieceSecond p)) ∧ (∀ p, p < a → fg_q K V N S p = fg_q a_pieceKind a_pieceValue a_pieceNext a_pieceSecond p) ∧
      fg_q K V N S pc = (3, nI (2 * (g - 1) + 1), -1, -1) ∧ fg_q K V N S (pc + 1) = (3, nI (2 * (g - 1)), fg_mo (nI pc) f_atomEntry, -1) ∧
      (∀ post : SX → Prop, post (f_tokens, f_faultPlace, f_length, nI (pc + 2), f_patternEntry, f_hasPattern, f_tooLarge, f_level, f_groups, nI a, nI (pc + 1), f_choices, f_wayPiece, f_wayPlace, f_wayNotes, f_hasResult, f_resultStart, f_resultEnd, f_resultNotes, a_tokenKind, a_tokenValue, a_text, K, V, N, S, a_levelGroup, a_levelStart, a_levelEntry, a_branchStart, a_branchEntry, a_placesSeen, a_choicePiece, a_choicePlace, a_choiceNotes) → wpX_wrapAtom post (f_tokens, f_faultPlace, f_length, nI pc, f_patternEntry, f_hasPattern, f_tooLarge, f_level, f_groups, nI a, f_atomEntry, f_choices, f_wayPiece, f_wayPlace, f_wayNotes, f_hasResult, f_resultStart, f_resultEnd, f_resultNotes, a_tokenKind, a_tokenValue, a_text, a_pieceKind, a_pieceValue, a_pieceNext, a_pieceSecond, a_levelGroup, a_levelStart, a_levelEntry, a_branchStart, a_branchEntry, a_placesSeen, a_choicePiece, a_choicePlace, a_choiceNotes) (nI g)) := by
  obtain ⟨e1, e2, _, _⟩ := gr_nn g hg1 hg3
  refine ⟨upd (upd a_pieceKind pc 3) (pc + 1) 3, upd (upd a_pieceValue pc (nI (2 * (g - 1) + 1))) (pc + 1) (nI (2 * (g - 1))), upd (cx_lo (upd a_pieceNext pc (-1)) a pc (nI pc)) (pc + 1) (fg_mo (nI pc) f_atomEntry), upd (cx_lo (upd a_pieceSecond pc (-1)) a pc (nI pc)) (pc + 1) (-1), ?_, ?_, ?_, ?_, ?_⟩
  · intro p p1 p2
    rw [fg_q_un (by omega), fg_q_lo p1 p2, fg_q_un (by omega)]
  · intro p p1
    rw [fg_q_un (by omega), fg_q_ln (by omega), fg_q_un (by omega)]
  · rw [fg_q_un (by omega), fg_q_ln (by omega), fg_q_us]
  · rw [fg_q_us]
  · intro post h
    refine br_t rfl (br_f (by decide) ?_)
    rw [e1, e2]
    refine cx_add (by omega) ?_
    refine cx_lead (by omega) (by omega) ?_
    by_cases e : f_atomEntry = -1
    · rw [show fg_mo (nI pc) f_atomEntry = nI pc from if_pos e] at h
      refine br_t e ?_
      exact cx_add (pc := pc + 1) (by omega) h
    · rw [show fg_mo (nI pc) f_atomEntry = f_atomEntry from if_neg e] at h
      refine br_f e ?_
      exact cx_add (pc := pc + 1) (by omega) h
theorem cx_wrapL {post : SX → Prop} {pc a g : Nat} (hg1 : 1 ≤ g) (hg3 : g ≤ 3) (hp : 34 < pc) (hp2 : pc ≤ 36) (ha : a ≤ pc)
    (h : ∀ (K V N S : Nat → Int32), post (f_tokens, f_faultPlace, f_length, nI 36, f_patternEntry, f_hasPattern, 1, f_level, f_groups, nI a, (-1), f_choices, f_wayPiece, f_wayPlace, f_wayNotes, f_hasResult, f_resultStart, f_resultEnd, f_resultNotes, a_tokenKind, a_tokenValue, a_text, K, V, N, S, a_levelGroup, a_levelStart, a_levelEntry, a_branchStart, a_branchEntry, a_placesSeen, a_choicePiece, a_choicePlace, a_choiceNotes)) : wpX_wrapAtom post (f_tokens, f_faultPlace, f_length, nI pc, f_patternEntry, f_hasPattern, f_tooLarge, f_level, f_groups, nI a, f_atomEntry, f_choices, f_wayPiece, f_wayPlace, f_wayNotes, f_hasResult, f_resultStart, f_resultEnd, f_resultNotes, a_tokenKind, a_tokenValue, a_text, a_pieceKind, a_pieceValue, a_pieceNext, a_pieceSecond, a_levelGroup, a_levelStart, a_levelEntry, a_branchStart, a_branchEntry, a_placesSeen, a_choicePiece, a_choicePlace, a_choiceNotes) (nI g) := by
  obtain ⟨e1, e2, _, _⟩ := gr_nn g hg1 hg3
  refine br_t rfl (br_f (by decide) ?_)
  rw [e1, e2]
  by_cases e35 : pc = 35
  · subst e35
    refine cx_add (by omega) ?_
    refine cx_lead (by omega) (by omega) ?_
    by_cases e : f_atomEntry = -1
    · exact br_t e (cx_add0 (pc := 36) (by omega) (by omega) (h _ _ _ _))
    · exact br_f e (cx_add0 (pc := 36) (by omega) (by omega) (h _ _ _ _))
  · obtain rfl : pc = 36 := by omega
    refine cx_add0 (by omega) (by omega) ?_
    refine cx_lead (by omega) (by omega) ?_
    by_cases e : f_atomEntry = -1
    · exact br_t e (cx_add0 (pc := 36) (by omega) (by omega) (h _ _ _ _))
    · exact br_f e (cx_add0 (pc := 36) (by omega) (by omega) (h _ _ _ _))
/-- the star over [s, pc) -/
theorem cx_starOK {pc s : Nat} {en lz : Int32} (hz : lz = 0 ∨ lz = 1) (hp : pc < 36) (hs : s ≤ pc) :
    ∃ (K V N S : Nat → Int32), (∀ p, s ≤ p → p < pc → fg_q K V N S p = fg_px (fg_mo (nI pc)) (fg_q a_pieceKind a_pieceValue a_pieceNext a_pieceSecond p)) ∧ (∀ p, p < s → fg_q K V N S p = fg_q a_pieceKind a_pieceValue a_pieceNext a_pieceSecond p) ∧
      (fg_q K V N S pc).1 = 4 ∧ ((lz = 0 ∧ (fg_q K V N S pc).2.2 = (fg_mo (nI pc) en, -1)) ∨ (lz = 1 ∧ (fg_q K V N S pc).2.2 = (-1, fg_mo (nI pc) en))) ∧
      (∀ post : Int32 → SX → Prop, post (nI pc) (f_tokens, f_faultPlace, f_length, nI (pc + 1), f_patternEntry, f_hasPattern, f_tooLarge, f_level, f_groups, f_atomStart, f_atomEntry, f_choices, f_wayPiece, f_wayPlace, f_wayNotes, f_hasResult, f_resultStart, f_resultEnd, f_resultNotes, a_tokenKind, a_tokenValue, a_text, K, V, N, S, a_levelGroup, a_levelStart, a_levelEntry, a_branchStart, a_branchEntry, a_placesSeen, a_choicePiece, a_choicePlace, a_choiceNotes) → wpX_addStar post (f_tokens, f_faultPlace, f_length, nI pc, f_patternEntry, f_hasPattern, f_tooLarge, f_level, f_groups, f_atomStart, f_atomEntry, f_choices, f_wayPiece, f_wayPlace, f_wayNotes, f_hasResult, f_resultStart, f_resultEnd, f_resultNotes, a_tokenKind, a_tokenValue, a_text, a_pieceKind, a_pieceValue, a_pieceNext, a_pieceSecond, a_levelGroup, a_levelStart, a_levelEntry, a_branchStart, a_branchEntry, a_placesSeen, a_choicePiece, a_choicePlace, a_choiceNotes) (nI s) en lz) := by
  have key : ∀ (post : Int32 → SX → Prop), wX_addStar_17 post (nI s) lz (nI pc) (fg_mo (nI pc) en) f_tokens f_faultPlace f_length (nI pc) f_patternEntry f_hasPattern f_tooLarge f_level f_groups f_atomStart f_atomEntry f_choices f_wayPiece f_wayPlace f_wayNotes f_hasResult f_resultStart f_resultEnd f_resultNotes a_tokenKind a_tokenValue a_text a_pieceKind a_pieceValue a_pieceNext a_pieceSecond a_levelGroup a_levelStart a_levelEntry a_branchStart a_branchEntry a_placesSeen a_choicePiece a_choicePlace a_choiceNotes → wpX_addStar post (f_tokens, f_faultPlace, f_length, nI pc, f_patternEntry, f_hasPattern, f_tooLarge, f_level, f_groups, f_atomStart, f_atomEntry, f_choices, f_wayPiece, f_wayPlace, f_wayNotes, f_hasResult, f_resultStart, f_resultEnd, f_resultNotes, a_tokenKind, a_tokenValue, a_text, a_pieceKind, a_pieceValue, a_pieceNext, a_pieceSecond, a_levelGroup, a_levelStart, a_levelEntry, a_branchStart, a_branchEntry, a_placesSeen, a_choicePiece, a_choicePlace, a_choiceNotes) (nI s) en lz := by
    intro post h
    by_cases e : en = -1
    · rw [show fg_mo (nI pc) en = nI pc from if_pos e] at h
      exact br_t e h
    · rw [show fg_mo (nI pc) en = en from if_neg e] at h
      exact br_f e h
  rcases hz with hz | hz
  · subst hz
    refine ⟨upd a_pieceKind pc 4, upd a_pieceValue pc 0, upd (cx_lo a_pieceNext s pc (nI pc)) pc (fg_mo (nI pc) en), upd (cx_lo a_pieceSecond s pc (nI pc)) pc (-1), ?_, ?_, ?_, Or.inl ⟨rfl, ?_⟩, ?_⟩
    · intro p p1 p2
      rw [fg_q_un (by omega), fg_q_lo p1 p2]
    · intro p p1
      rw [fg_q_un (by omega), fg_q_ln (by omega)]
    · rw [fg_q_us]
    · rw [fg_q_us]
    · intro post h
      refine key post ?_
      refine cx_lead (by omega) (by omega) ?_
      exact br_t rfl (cx_add hp h)
  · subst hz
    refine ⟨upd a_pieceKind pc 4, upd a_pieceValue pc 0, upd (cx_lo a_pieceNext s pc (nI pc)) pc (-1), upd (cx_lo a_pieceSecond s pc (nI pc)) pc (fg_mo (nI pc) en), ?_, ?_, ?_, Or.inr ⟨rfl, ?_⟩, ?_⟩
    · intro p p1 p2
      rw [fg_q_un (by omega), fg_q_lo p1 p2]
    · intro p p1
      rw [fg_q_un (by omega), fg_q_ln (by omega)]
    · rw [fg_q_us]
    · rw [fg_q_us]
    · intro post h
      refine key post ?_
      refine cx_lead (by omega) (by omega) ?_
      exact br_f (by decide) (cx_add hp h)
theorem cx_starL {post : Int32 → SX → Prop} {s : Nat} {en lz : Int32} (hs : s ≤ 36)
    (h : ∀ (N S : Nat → Int32), post (-1) (f_tokens, f_faultPlace, f_length, nI 36, f_patternEntry, f_hasPattern, 1, f_level, f_groups, f_atomStart, f_atomEntry, f_choices, f_wayPiece, f_wayPlace, f_wayNotes, f_hasResult, f_resultStart, f_resultEnd, f_resultNotes, a_tokenKind, a_tokenValue, a_text, a_pieceKind, a_pieceValue, N, S, a_levelGroup, a_levelStart, a_levelEntry, a_branchStart, a_branchEntry, a_placesSeen, a_choicePiece, a_choicePlace, a_choiceNotes)) : wpX_addStar post (f_tokens, f_faultPlace, f_length, nI 36, f_patternEntry, f_hasPattern, f_tooLarge, f_level, f_groups, f_atomStart, f_atomEntry, f_choices, f_wayPiece, f_wayPlace, f_wayNotes, f_hasResult, f_resultStart, f_resultEnd, f_resultNotes, a_tokenKind, a_tokenValue, a_text, a_pieceKind, a_pieceValue, a_pieceNext, a_pieceSecond, a_levelGroup, a_levelStart, a_levelEntry, a_branchStart, a_branchEntry, a_placesSeen, a_choicePiece, a_choicePlace, a_choiceNotes) (nI s) en lz := by
  have key : ∀ z : Int32, wX_addStar_17 post (nI s) lz (nI 36) z f_tokens f_faultPlace f_length (nI 36) f_patternEntry f_hasPattern f_tooLarge f_level f_groups f_atomStart f_atomEntry f_choices f_wayPiece f_wayPlace f_wayNotes f_hasResult f_resultStart f_resultEnd f_resultNotes a_tokenKind a_tokenValue a_text a_pieceKind a_pieceValue a_pieceNext a_pieceSecond a_levelGroup a_levelStart a_levelEntry a_branchStart a_branchEntry a_placesSeen a_choicePiece a_choicePlace a_choiceNotes := by
    intro z
    refine cx_lead (by omega) hs ?_
    by_cases e : lz = 0
    · exact br_t e (cx_add0 (pc := 36) (by omega) (by omega) (h _ _))
    · exact br_f e (cx_add0 (pc := 36) (by omega) (by omega) (h _ _))
  by_cases e : en = -1
  · exact br_t e (key _)
  · exact br_f e (key _)
end XC
