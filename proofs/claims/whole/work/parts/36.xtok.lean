section XT
def xt_A (kk : Nat) (v pk pv : Int32) : Prop := (kk = 0 ∧ pk = 0 ∧ pv = (1 : Int32) <<< (v &&& 31)) ∨ (kk = 1 ∧ pk = 0 ∧ pv = 15) ∨ (kk = 2 ∧ pk = 0 ∧ pv = v) ∨ (kk = 13 ∧ pk = 1 ∧ pv = 0) ∨ (kk = 15 ∧ pk = 2 ∧ pv = 0)
variable {f_tokens f_faultPlace f_length f_pieces f_patternEntry f_hasPattern f_tooLarge f_level f_groups f_atomStart f_atomEntry f_choices f_wayPiece f_wayPlace : Int32} {f_wayNotes : Int64} {f_hasResult f_resultStart f_resultEnd : Int32} {f_resultNotes : Int64} {a_tokenKind a_tokenValue a_text a_pieceKind a_pieceValue a_pieceNext a_pieceSecond a_levelGroup a_levelStart a_levelEntry a_branchStart a_branchEntry : Nat → Int32} {a_placesSeen : Nat → Int64} {a_choicePiece a_choicePlace : Nat → Int32} {a_choiceNotes : Nat → Int64}
theorem xt_take {post : SX → Prop} {kk : Nat} {v pk pv : Int32} {F : SX → Prop} (hA : xt_A kk v pk pv) (he : ∀ post' : SX → Prop, (∀ u, F u → post' u) → wpX_addAtom post' (f_tokens, f_faultPlace, f_length, f_pieces, f_patternEntry, f_hasPattern, f_tooLarge, f_level, f_groups, f_atomStart, f_atomEntry, f_choices, f_wayPiece, f_wayPlace, f_wayNotes, f_hasResult, f_resultStart, f_resultEnd, f_resultNotes, a_tokenKind, a_tokenValue, a_text, a_pieceKind, a_pieceValue, a_pieceNext, a_pieceSecond, a_levelGroup, a_levelStart, a_levelEntry, a_branchStart, a_branchEntry, a_placesSeen, a_choicePiece, a_choicePlace, a_choiceNotes) pk pv) (h : ∀ u, F u → post u) : wpX_takeToken post (f_tokens, f_faultPlace, f_length, f_pieces, f_patternEntry, f_hasPattern, f_tooLarge, f_level, f_groups, f_atomStart, f_atomEntry, f_choices, f_wayPiece, f_wayPlace, f_wayNotes, f_hasResult, f_resultStart, f_resultEnd, f_resultNotes, a_tokenKind, a_tokenValue, a_text, a_pieceKind, a_pieceValue, a_pieceNext, a_pieceSecond, a_levelGroup, a_levelStart, a_levelEntry, a_branchStart, a_branchEntry, a_placesSeen, a_choicePiece, a_choicePlace, a_choiceNotes) (nI kk) v := by
  have k0 : ¬ nI kk < 0 := nI_pos (by unfold xt_A at hA; omega)
  have k15 : ¬ (15 : Int32) < nI kk := nI_nlt (a := 15) (by unfold xt_A at hA; omega) (by omega)
  refine br_f k0 (br_f k15 ?_)
  rcases hA with ⟨rfl, rfl, rfl⟩ | ⟨rfl, rfl, rfl⟩ | ⟨rfl, rfl, rfl⟩ | ⟨rfl, rfl, rfl⟩ | ⟨rfl, rfl, rfl⟩
  · exact br_t rfl (he _ (fun u hu => h u hu))
  · exact br_f (by decide) (br_t rfl (he _ (fun u hu => h u hu)))
  · exact br_f (by decide) (br_f (by decide) (br_t rfl (he _ (fun u hu => h u hu))))
  · exact br_f (by decide) (br_f (by decide) (br_f (by decide) (br_f (by decide) (br_f (by decide) (br_f (by decide) (br_f (by decide) (br_f (by decide) (br_f (by decide) (br_f (by decide) (br_f (by decide) (br_f (by decide) (br_f (by decide) (br_t rfl (he _ (fun u hu => h u hu)))))))))))))))
  · exact br_f (by decide) (br_f (by decide) (br_f (by decide) (br_f (by decide) (br_f (by decide) (br_f (by decide) (br_f (by decide) (br_f (by decide) (br_f (by decide) (br_f (by decide) (br_f (by decide) (br_f (by decide) (br_f (by decide) (br_f (by decide) (br_f (by decide) (br_t rfl (he _ (fun u hu => h u hu)))))))))))))))))
theorem xt_atomOK {post : SX → Prop} {pc kk : Nat} {v pk pv : Int32} (hA : xt_A kk v pk pv) (hp : pc < 36)
    (h : post (f_tokens, f_faultPlace, f_length, nI (pc + 1), f_patternEntry, f_hasPattern, f_tooLarge, f_level, f_groups, nI pc, nI pc, f_choices, f_wayPiece, f_wayPlace, f_wayNotes, f_hasResult, f_resultStart, f_resultEnd, f_resultNotes, a_tokenKind, a_tokenValue, a_text, upd a_pieceKind pc pk, upd a_pieceValue pc pv, upd a_pieceNext pc (-1), upd a_pieceSecond pc (-1), a_levelGroup, a_levelStart, a_levelEntry, a_branchStart, a_branchEntry, a_placesSeen, a_choicePiece, a_choicePlace, a_choiceNotes)) : wpX_takeToken post (f_tokens, f_faultPlace, f_length, nI pc, f_patternEntry, f_hasPattern, f_tooLarge, f_level, f_groups, f_atomStart, f_atomEntry, f_choices, f_wayPiece, f_wayPlace, f_wayNotes, f_hasResult, f_resultStart, f_resultEnd, f_resultNotes, a_tokenKind, a_tokenValue, a_text, a_pieceKind, a_pieceValue, a_pieceNext, a_pieceSecond, a_levelGroup, a_levelStart, a_levelEntry, a_branchStart, a_branchEntry, a_placesSeen, a_choicePiece, a_choicePlace, a_choiceNotes) (nI kk) v := by
  refine xt_take (F := fun u => u = (f_tokens, f_faultPlace, f_length, nI (pc + 1), f_patternEntry, f_hasPattern, f_tooLarge, f_level, f_groups, nI pc, nI pc, f_choices, f_wayPiece, f_wayPlace, f_wayNotes, f_hasResult, f_resultStart, f_resultEnd, f_resultNotes, a_tokenKind, a_tokenValue, a_text, upd a_pieceKind pc pk, upd a_pieceValue pc pv, upd a_pieceNext pc (-1), upd a_pieceSecond pc (-1), a_levelGroup, a_levelStart, a_levelEntry, a_branchStart, a_branchEntry, a_placesSeen, a_choicePiece, a_choicePlace, a_choiceNotes)) hA (fun post' h' => ?_) (fun u hu => by rw [hu]; exact h)
  unfold wpX_addAtom
  refine cx_add hp ?_
  exact h' _ rfl
theorem xt_atomL {post : SX → Prop} {kk : Nat} {v pk pv : Int32} (hA : xt_A kk v pk pv)
    (h : post (f_tokens, f_faultPlace, f_length, nI 36, f_patternEntry, f_hasPattern, 1, f_level, f_groups, nI 36, (-1), f_choices, f_wayPiece, f_wayPlace, f_wayNotes, f_hasResult, f_resultStart, f_resultEnd, f_resultNotes, a_tokenKind, a_tokenValue, a_text, a_pieceKind, a_pieceValue, a_pieceNext, a_pieceSecond, a_levelGroup, a_levelStart, a_levelEntry, a_branchStart, a_branchEntry, a_placesSeen, a_choicePiece, a_choicePlace, a_choiceNotes)) : wpX_takeToken post (f_tokens, f_faultPlace, f_length, nI 36, f_patternEntry, f_hasPattern, f_tooLarge, f_level, f_groups, f_atomStart, f_atomEntry, f_choices, f_wayPiece, f_wayPlace, f_wayNotes, f_hasResult, f_resultStart, f_resultEnd, f_resultNotes, a_tokenKind, a_tokenValue, a_text, a_pieceKind, a_pieceValue, a_pieceNext, a_pieceSecond, a_levelGroup, a_levelStart, a_levelEntry, a_branchStart, a_branchEntry, a_placesSeen, a_choicePiece, a_choicePlace, a_choiceNotes) (nI kk) v := by
  refine xt_take (F := fun u => u = (f_tokens, f_faultPlace, f_length, nI 36, f_patternEntry, f_hasPattern, 1, f_level, f_groups, nI 36, (-1), f_choices, f_wayPiece, f_wayPlace, f_wayNotes, f_hasResult, f_resultStart, f_resultEnd, f_resultNotes, a_tokenKind, a_tokenValue, a_text, a_pieceKind, a_pieceValue, a_pieceNext, a_pieceSecond, a_levelGroup, a_levelStart, a_levelEntry, a_branchStart, a_branchEntry, a_placesSeen, a_choicePiece, a_choicePlace, a_choiceNotes)) hA (fun post' h' => ?_) (fun u hu => by rw [hu]; exact h)
  unfold wpX_addAtom
  refine cx_add0 (pc := 36) (by omega) (by omega) ?_
  exact h' _ rfl
theorem xt_open3 {post : SX → Prop} {lv g : Nat} {v : Int32} (hl : lv + 1 < 25)
    (h : post (f_tokens, f_faultPlace, f_length, f_pieces, f_patternEntry, f_hasPattern, f_tooLarge, nI (lv + 1), nI (g + 1), f_atomStart, f_atomEntry, f_choices, f_wayPiece, f_wayPlace, f_wayNotes, f_hasResult, f_resultStart, f_resultEnd, f_resultNotes, a_tokenKind, a_tokenValue, a_text, a_pieceKind, a_pieceValue, a_pieceNext, a_pieceSecond, upd a_levelGroup (lv + 1) (nI (g + 1)), upd a_levelStart (lv + 1) f_pieces, upd a_levelEntry (lv + 1) (-2), upd a_branchStart (lv + 1) f_pieces, upd a_branchEntry (lv + 1) (-1), a_placesSeen, a_choicePiece, a_choicePlace, a_choiceNotes)) : wpX_takeToken post (f_tokens, f_faultPlace, f_length, f_pieces, f_patternEntry, f_hasPattern, f_tooLarge, nI lv, nI g, f_atomStart, f_atomEntry, f_choices, f_wayPiece, f_wayPlace, f_wayNotes, f_hasResult, f_resultStart, f_resultEnd, f_resultNotes, a_tokenKind, a_tokenValue, a_text, a_pieceKind, a_pieceValue, a_pieceNext, a_pieceSecond, a_levelGroup, a_levelStart, a_levelEntry, a_branchStart, a_branchEntry, a_placesSeen, a_choicePiece, a_choicePlace, a_choiceNotes) (nI 3) v := by
  refine br_f (by decide) (br_f (by decide) (br_f (by decide) (br_f (by decide) (br_f (by decide) (br_t rfl (nm_r (nI_1 g) (nm_r (nI_1 lv) ?_)))))))
  exact cx_begin hl h
theorem xt_open4 {post : SX → Prop} {lv : Nat} {v : Int32} (hl : lv + 1 < 25)
    (h : post (f_tokens, f_faultPlace, f_length, f_pieces, f_patternEntry, f_hasPattern, f_tooLarge, nI (lv + 1), f_groups, f_atomStart, f_atomEntry, f_choices, f_wayPiece, f_wayPlace, f_wayNotes, f_hasResult, f_resultStart, f_resultEnd, f_resultNotes, a_tokenKind, a_tokenValue, a_text, a_pieceKind, a_pieceValue, a_pieceNext, a_pieceSecond, upd a_levelGroup (lv + 1) (nI 0), upd a_levelStart (lv + 1) f_pieces, upd a_levelEntry (lv + 1) (-2), upd a_branchStart (lv + 1) f_pieces, upd a_branchEntry (lv + 1) (-1), a_placesSeen, a_choicePiece, a_choicePlace, a_choiceNotes)) : wpX_takeToken post (f_tokens, f_faultPlace, f_length, f_pieces, f_patternEntry, f_hasPattern, f_tooLarge, nI lv, f_groups, f_atomStart, f_atomEntry, f_choices, f_wayPiece, f_wayPlace, f_wayNotes, f_hasResult, f_resultStart, f_resultEnd, f_resultNotes, a_tokenKind, a_tokenValue, a_text, a_pieceKind, a_pieceValue, a_pieceNext, a_pieceSecond, a_levelGroup, a_levelStart, a_levelEntry, a_branchStart, a_branchEntry, a_placesSeen, a_choicePiece, a_choicePlace, a_choiceNotes) (nI 4) v := by
  refine br_f (by decide) (br_f (by decide) (br_f (by decide) (br_f (by decide) (br_f (by decide) (br_f (by decide) (br_t rfl (nm_r (nI_1 lv) ?_)))))))
  exact cx_begin hl h
theorem xt_bar {post : SX → Prop} {v : Int32} {F : SX → Prop} (he : ∀ post' : SX → Prop, (∀ u, F u → post' u) → wpX_endBranch post' (f_tokens, f_faultPlace, f_length, f_pieces, f_patternEntry, f_hasPattern, f_tooLarge, f_level, f_groups, f_atomStart, f_atomEntry, f_choices, f_wayPiece, f_wayPlace, f_wayNotes, f_hasResult, f_resultStart, f_resultEnd, f_resultNotes, a_tokenKind, a_tokenValue, a_text, a_pieceKind, a_pieceValue, a_pieceNext, a_pieceSecond, a_levelGroup, a_levelStart, a_levelEntry, a_branchStart, a_branchEntry, a_placesSeen, a_choicePiece, a_choicePlace, a_choiceNotes)) (h : ∀ u, F u → post u) : wpX_takeToken post (f_tokens, f_faultPlace, f_length, f_pieces, f_patternEntry, f_hasPattern, f_tooLarge, f_level, f_groups, f_atomStart, f_atomEntry, f_choices, f_wayPiece, f_wayPlace, f_wayNotes, f_hasResult, f_resultStart, f_resultEnd, f_resultNotes, a_tokenKind, a_tokenValue, a_text, a_pieceKind, a_pieceValue, a_pieceNext, a_pieceSecond, a_levelGroup, a_levelStart, a_levelEntry, a_branchStart, a_branchEntry, a_placesSeen, a_choicePiece, a_choicePlace, a_choiceNotes) (nI 6) v := by
  refine br_f (by decide) (br_f (by decide) (br_f (by decide) (br_f (by decide) (br_f (by decide) (br_f (by decide) (br_f (by decide) (br_f (by decide) (br_t rfl ?_))))))))
  unfold wX_takeToken_184
  exact he _ (fun u hu => h u hu)
theorem xt_close5 {post : SX → Prop} {v : Int32} {F : SX → Prop} (he : ∀ post' : SX → Prop, (∀ u, F u → post' u) → wpX_closeLevel post' (f_tokens, f_faultPlace, f_length, f_pieces, f_patternEntry, f_hasPattern, f_tooLarge, f_level, f_groups, f_atomStart, f_atomEntry, f_choices, f_wayPiece, f_wayPlace, f_wayNotes, f_hasResult, f_resultStart, f_resultEnd, f_resultNotes, a_tokenKind, a_tokenValue, a_text, a_pieceKind, a_pieceValue, a_pieceNext, a_pieceSecond, a_levelGroup, a_levelStart, a_levelEntry, a_branchStart, a_branchEntry, a_placesSeen, a_choicePiece, a_choicePlace, a_choiceNotes)) (h : ∀ u, F u → post u) : wpX_takeToken post (f_tokens, f_faultPlace, f_length, f_pieces, f_patternEntry, f_hasPattern, f_tooLarge, f_level, f_groups, f_atomStart, f_atomEntry, f_choices, f_wayPiece, f_wayPlace, f_wayNotes, f_hasResult, f_resultStart, f_resultEnd, f_resultNotes, a_tokenKind, a_tokenValue, a_text, a_pieceKind, a_pieceValue, a_pieceNext, a_pieceSecond, a_levelGroup, a_levelStart, a_levelEntry, a_branchStart, a_branchEntry, a_placesSeen, a_choicePiece, a_choicePlace, a_choiceNotes) (nI 5) v := by
  refine br_f (by decide) (br_f (by decide) (br_f (by decide) (br_f (by decide) (br_f (by decide) (br_f (by decide) (br_f (by decide) (br_t rfl ?_)))))))
  exact he _ (fun u hu => h u hu)
theorem xt_closeOK {l pc a g : Nat} (hl : l + 1 < 25) (hg : a_levelGroup (l + 1) = nI g) (hg3 : g ≤ 3) (ha : a_levelStart (l + 1) = nI a) (hap : a ≤ pc) (hfit : pc + cp_lag g (a_levelEntry (l + 1)) ≤ 36) :
    ∃ (pc1 pc' : Nat) (e1 ae' : Int32) (K1 V1 N1 S1 K V N S : Nat → Int32),
      ((a_levelEntry (l + 1) = -2 ∧ e1 = a_branchEntry (l + 1) ∧ pc1 = pc) ∨ (¬ a_levelEntry (l + 1) = -2 ∧ e1 = nI pc ∧ pc1 = pc + 1 ∧ (fg_q K1 V1 N1 S1 pc).1 = 4 ∧ (fg_q K1 V1 N1 S1 pc).2.2 = (a_levelEntry (l + 1), a_branchEntry (l + 1)))) ∧
      (∀ p, p < pc → fg_q K1 V1 N1 S1 p = fg_q a_pieceKind a_pieceValue a_pieceNext a_pieceSecond p) ∧
      ((g = 0 ∧ pc' = pc1 ∧ ae' = e1 ∧ fg_q K V N S = fg_q K1 V1 N1 S1) ∨ (0 < g ∧ pc' = pc1 + 2 ∧ ae' = nI (pc1 + 1) ∧ (∀ p, a ≤ p → p < pc1 → fg_q K V N S p = fg_px (fg_mo (nI pc1)) (fg_q K1 V1 N1 S1 p)) ∧ (∀ p, p < a → fg_q K V N S p = fg_q K1 V1 N1 S1 p) ∧ fg_q K V N S pc1 = (3, nI (2 * (g - 1) + 1), -1, -1) ∧ fg_q K V N S (pc1 + 1) = (3, nI (2 * (g - 1)), fg_mo (nI pc1) e1, -1))) ∧
      (∀ post : SX → Prop, post (f_tokens, f_faultPlace, f_length, nI pc', f_patternEntry, f_hasPattern, f_tooLarge, nI l, f_groups, nI a, ae', f_choices, f_wayPiece, f_wayPlace, f_wayNotes, f_hasResult, f_resultStart, f_resultEnd, f_resultNotes, a_tokenKind, a_tokenValue, a_text, K, V, N, S, a_levelGroup, a_levelStart, upd a_levelEntry (l + 1) e1, upd a_branchStart (l + 1) (nI pc1), upd a_branchEntry (l + 1) (-1), a_placesSeen, a_choicePiece, a_choicePlace, a_choiceNotes) → wpX_closeLevel post (f_tokens, f_faultPlace, f_length, nI pc, f_patternEntry, f_hasPattern, f_tooLarge, nI (l + 1), f_groups, f_atomStart, f_atomEntry, f_choices, f_wayPiece, f_wayPlace, f_wayNotes, f_hasResult, f_resultStart, f_resultEnd, f_resultNotes, a_tokenKind, a_tokenValue, a_text, a_pieceKind, a_pieceValue, a_pieceNext, a_pieceSecond, a_levelGroup, a_levelStart, a_levelEntry, a_branchStart, a_branchEntry, a_placesSeen, a_choicePiece, a_choicePlace, a_choiceNotes)) := by
  have hv : vp_in (nI (l + 1)) 25 := vp_in_nI hl (by omega)
  have ec : (nI (l + 1)).toNatClampNeg = l + 1 := nI_clamp (by omega)
  unfold cp_lag at hfit
  obtain ⟨pc1, K1, V1, N1, S1, e1, f1, f2, f3⟩ := cx_endOK (f_tokens := f_tokens) (f_faultPlace := f_faultPlace) (f_length := f_length) (f_patternEntry := f_patternEntry) (f_hasPattern := f_hasPattern) (f_tooLarge := f_tooLarge) (f_groups := f_groups) (f_atomStart := f_atomStart) (f_atomEntry := f_atomEntry) (f_choices := f_choices) (f_wayPiece := f_wayPiece) (f_wayPlace := f_wayPlace) (f_wayNotes := f_wayNotes) (f_hasResult := f_hasResult) (f_resultStart := f_resultStart) (f_resultEnd := f_resultEnd) (f_resultNotes := f_resultNotes) (a_tokenKind := a_tokenKind) (a_tokenValue := a_tokenValue) (a_text := a_text) (a_pieceKind := a_pieceKind) (a_pieceValue := a_pieceValue) (a_pieceNext := a_pieceNext) (a_pieceSecond := a_pieceSecond) (a_levelGroup := a_levelGroup) (a_levelStart := a_levelStart) (a_levelEntry := a_levelEntry) (a_branchStart := a_branchStart) (a_branchEntry := a_branchEntry) (a_placesSeen := a_placesSeen) (a_choicePiece := a_choicePiece) (a_choicePlace := a_choicePlace) (a_choiceNotes := a_choiceNotes) (lv := l + 1) (pc := pc) hl (by
    by_cases e : a_levelEntry (l + 1) = -2
    · exact Or.inl e
    · rw [if_neg e] at hfit; exact Or.inr (by omega))
  have hpc1 : pc1 + 2 * cp_gb g ≤ 36 := by
    rcases f1 with ⟨q1, _, q3⟩ | ⟨q1, _, q3, _⟩
    · rw [if_pos q1] at hfit; omega
    · rw [if_neg q1] at hfit; omega
  have hpcle : pc ≤ pc1 := by rcases f1 with ⟨_, _, q3⟩ | ⟨_, _, q3, _⟩ <;> omega
  by_cases hg0 : g = 0
  · refine ⟨pc1, pc1, e1, e1, K1, V1, N1, S1, K1, V1, N1, S1, f1, f2, Or.inl ⟨hg0, rfl, rfl, rfl⟩, fun post h => ?_⟩
    unfold wpX_closeLevel
    refine f3 _ ?_
    refine ⟨hv, nm_r (e' := nI 0) (by rw [ec, hg, hg0]) ⟨hv, nm_r (e' := nI a) (by rw [ec]; exact ha) ⟨hv, nm_r (e' := e1) (by rw [ec, rl_us]) (nm_r (nI_pred l) (br_t (by decide) h))⟩⟩⟩
  · have egb : cp_gb g = 1 := if_pos (by omega)
    obtain ⟨K, V, N, S, w1, w2, w3, w4, w5⟩ := cx_wrapOK (f_tokens := f_tokens) (f_faultPlace := f_faultPlace) (f_length := f_length) (f_patternEntry := f_patternEntry) (f_hasPattern := f_hasPattern) (f_tooLarge := f_tooLarge) (f_level := nI l) (f_groups := f_groups) (f_atomEntry := e1) (f_choices := f_choices) (f_wayPiece := f_wayPiece) (f_wayPlace := f_wayPlace) (f_wayNotes := f_wayNotes) (f_hasResult := f_hasResult) (f_resultStart := f_resultStart) (f_resultEnd := f_resultEnd) (f_resultNotes := f_resultNotes) (a_tokenKind := a_tokenKind) (a_tokenValue := a_tokenValue) (a_text := a_text) (a_pieceKind := K1) (a_pieceValue := V1) (a_pieceNext := N1) (a_pieceSecond := S1) (a_levelGroup := a_levelGroup) (a_levelStart := a_levelStart) (a_levelEntry := upd a_levelEntry (l + 1) e1) (a_branchStart := upd a_branchStart (l + 1) (nI pc1)) (a_branchEntry := upd a_branchEntry (l + 1) (-1)) (a_placesSeen := a_placesSeen) (a_choicePiece := a_choicePiece) (a_choicePlace := a_choicePlace) (a_choiceNotes := a_choiceNotes) (pc := pc1) (a := a) (g := g) (by omega) hg3 (by omega) (by omega)
    refine ⟨pc1, pc1 + 2, e1, nI (pc1 + 1), K1, V1, N1, S1, K, V, N, S, f1, f2, Or.inr ⟨by omega, rfl, rfl, w1, w2, w3, w4⟩, fun post h => ?_⟩
    unfold wpX_closeLevel
    refine f3 _ ?_
    refine ⟨hv, nm_r (e' := nI g) (by rw [ec, hg]) ⟨hv, nm_r (e' := nI a) (by rw [ec]; exact ha) ⟨hv, nm_r (e' := e1) (by rw [ec, rl_us]) (nm_r (nI_pred l) (br_f (nI_nle (by omega) (by omega)) ?_))⟩⟩⟩
    exact w5 _ h
theorem xt_closeL {post : SX → Prop} {l pc a g : Nat} (hl : l + 1 < 25) (hp : pc ≤ 36) (hg : a_levelGroup (l + 1) = nI g) (hg3 : g ≤ 3) (ha : a_levelStart (l + 1) = nI a) (hap : a ≤ pc) (hfit : 36 < pc + cp_lag g (a_levelEntry (l + 1)))
    (h : ∀ (pc' : Nat) (K V N S le' bs' be' : Nat → Int32), pc' ≤ 36 → post (f_tokens, f_faultPlace, f_length, nI pc', f_patternEntry, f_hasPattern, 1, nI l, f_groups, nI a, (-1), f_choices, f_wayPiece, f_wayPlace, f_wayNotes, f_hasResult, f_resultStart, f_resultEnd, f_resultNotes, a_tokenKind, a_tokenValue, a_text, K, V, N, S, a_levelGroup, a_levelStart, le', bs', be', a_placesSeen, a_choicePiece, a_choicePlace, a_choiceNotes)) : wpX_closeLevel post (f_tokens, f_faultPlace, f_length, nI pc, f_patternEntry, f_hasPattern, f_tooLarge, nI (l + 1), f_groups, f_atomStart, f_atomEntry, f_choices, f_wayPiece, f_wayPlace, f_wayNotes, f_hasResult, f_resultStart, f_resultEnd, f_resultNotes, a_tokenKind, a_tokenValue, a_text, a_pieceKind, a_pieceValue, a_pieceNext, a_pieceSecond, a_levelGroup, a_levelStart, a_levelEntry, a_branchStart, a_branchEntry, a_placesSeen, a_choicePiece, a_choicePlace, a_choiceNotes) := by
  have hv : vp_in (nI (l + 1)) 25 := vp_in_nI hl (by omega)
  have ec : (nI (l + 1)).toNatClampNeg = l + 1 := nI_clamp (by omega)
  unfold cp_lag at hfit
  unfold wpX_closeLevel
  by_cases hok : a_levelEntry (l + 1) = -2 ∨ pc < 36
  · obtain ⟨pc1, K1, V1, N1, S1, e1, f1, f2, f3⟩ := cx_endOK (f_tokens := f_tokens) (f_faultPlace := f_faultPlace) (f_length := f_length) (f_patternEntry := f_patternEntry) (f_hasPattern := f_hasPattern) (f_tooLarge := f_tooLarge) (f_groups := f_groups) (f_atomStart := f_atomStart) (f_atomEntry := f_atomEntry) (f_choices := f_choices) (f_wayPiece := f_wayPiece) (f_wayPlace := f_wayPlace) (f_wayNotes := f_wayNotes) (f_hasResult := f_hasResult) (f_resultStart := f_resultStart) (f_resultEnd := f_resultEnd) (f_resultNotes := f_resultNotes) (a_tokenKind := a_tokenKind) (a_tokenValue := a_tokenValue) (a_text := a_text) (a_pieceKind := a_pieceKind) (a_pieceValue := a_pieceValue) (a_pieceNext := a_pieceNext) (a_pieceSecond := a_pieceSecond) (a_levelGroup := a_levelGroup) (a_levelStart := a_levelStart) (a_levelEntry := a_levelEntry) (a_branchStart := a_branchStart) (a_branchEntry := a_branchEntry) (a_placesSeen := a_placesSeen) (a_choicePiece := a_choicePiece) (a_choicePlace := a_choicePlace) (a_choiceNotes := a_choiceNotes) (lv := l + 1) (pc := pc) hl hok
    have hpc1 : 36 < pc1 + 2 * cp_gb g ∧ pc1 ≤ 36 := by
      rcases f1 with ⟨q1, _, q3⟩ | ⟨q1, _, q3, _⟩
      · rw [if_pos q1] at hfit; omega
      · rw [if_neg q1] at hfit
        have := hok.resolve_left q1
        omega
    have hpcle : pc ≤ pc1 := by rcases f1 with ⟨_, _, q3⟩ | ⟨_, _, q3, _⟩ <;> omega
    have hg0 : 1 ≤ g := by
      by_cases e : 0 < g
      · exact e
      · have : cp_gb g = 0 := if_neg e
        omega
    have := cp_gb_le g
    refine f3 _ ?_
    refine ⟨hv, nm_r (e' := nI g) (by rw [ec, hg]) ⟨hv, nm_r (e' := nI a) (by rw [ec]; exact ha) ⟨hv, nm_r (e' := e1) (by rw [ec, rl_us]) (nm_r (nI_pred l) (br_f (nI_nle (by omega) (by omega)) ?_))⟩⟩⟩
    exact cx_wrapL hg0 hg3 (by omega) hpc1.2 (by omega) (fun K V N S => h 36 _ _ _ _ _ _ _ (by omega))
  · have hne : ¬ a_levelEntry (l + 1) = -2 := fun e => hok (Or.inl e)
    obtain rfl : pc = 36 := by omega
    refine cx_end3 hl hne ?_
    refine ⟨hv, nm_r (e' := nI g) (by rw [ec, hg]) ⟨hv, nm_r (e' := nI a) (by rw [ec]; exact ha) ⟨hv, nm_r (e' := -1) (by rw [ec, rl_us]) (nm_r (nI_pred l) ?_)⟩⟩⟩
    by_cases hg0 : g = 0
    · exact br_t (by rw [hg0]; decide) (h 36 _ _ _ _ _ _ _ (by omega))
    · refine br_f (nI_nle (by omega) (by omega)) ?_
      exact cx_wrapL (by omega) hg3 (by omega) (Nat.le_refl _) hap (fun K V N S => h 36 _ _ _ _ _ _ _ (by omega))
/-- the end of building, when it was too large -/
theorem xt_104L {post : SX → Prop} {lv pc : Nat} (hl : lv < 25) (hp : pc ≤ 36) (hae : f_atomEntry = -1 ∨ ∃ a b, f_atomStart = nI a ∧ a ≤ 36 ∧ a_branchStart lv = nI b ∧ b ≤ 36)
    (h : ∀ (pc' pe ae : Int32) (K V N S le' bs' be' : Nat → Int32), post (f_tokens, f_faultPlace, f_length, pc', pe, f_hasPattern, 1, nI lv, f_groups, f_atomStart, ae, f_choices, f_wayPiece, f_wayPlace, f_wayNotes, f_hasResult, f_resultStart, f_resultEnd, f_resultNotes, a_tokenKind, a_tokenValue, a_text, K, V, N, S, a_levelGroup, a_levelStart, le', bs', be', a_placesSeen, a_choicePiece, a_choicePlace, a_choiceNotes)) : wX_buildPattern_104 post f_tokens f_faultPlace f_length (nI pc) f_patternEntry f_hasPattern 1 (nI lv) f_groups f_atomStart f_atomEntry f_choices f_wayPiece f_wayPlace f_wayNotes f_hasResult f_resultStart f_resultEnd f_resultNotes a_tokenKind a_tokenValue a_text a_pieceKind a_pieceValue a_pieceNext a_pieceSecond a_levelGroup a_levelStart a_levelEntry a_branchStart a_branchEntry a_placesSeen a_choicePiece a_choicePlace a_choiceNotes := by
  have hv : vp_in (nI lv) 25 := vp_in_nI hl (by omega)
  have ec : (nI lv).toNatClampNeg = lv := nI_clamp (by omega)
  unfold wX_buildPattern_104
  have tail : ∀ (N S be' : Nat → Int32), wpX_endBranch (fun u => match u with | (f_tokens, f_faultPlace, f_length, f_pieces, f_patternEntry, f_hasPattern, f_tooLarge, f_level, f_groups, f_atomStart, f_atomEntry, f_choices, f_wayPiece, f_wayPlace, f_wayNotes, f_hasResult, f_resultStart, f_resultEnd, f_resultNotes, a_tokenKind, a_tokenValue, a_text, a_pieceKind, a_pieceValue, a_pieceNext, a_pieceSecond, a_levelGroup, a_levelStart, a_levelEntry, a_branchStart, a_branchEntry, a_placesSeen, a_choicePiece, a_choicePlace, a_choiceNotes) => (vp_in f_level 25 ∧ (∀ y : Int32, y = a_levelEntry f_level.toNatClampNeg → post (f_tokens, f_faultPlace, f_length, f_pieces, y, f_hasPattern, f_tooLarge, f_level, f_groups, f_atomStart, f_atomEntry, f_choices, f_wayPiece, f_wayPlace, f_wayNotes, f_hasResult, f_resultStart, f_resultEnd, f_resultNotes, a_tokenKind, a_tokenValue, a_text, a_pieceKind, a_pieceValue, a_pieceNext, a_pieceSecond, a_levelGroup, a_levelStart, a_levelEntry, a_branchStart, a_branchEntry, a_placesSeen, a_choicePiece, a_choicePlace, a_choiceNotes)))) (f_tokens, f_faultPlace, f_length, nI pc, f_patternEntry, f_hasPattern, 1, nI lv, f_groups, f_atomStart, (-1), f_choices, f_wayPiece, f_wayPlace, f_wayNotes, f_hasResult, f_resultStart, f_resultEnd, f_resultNotes, a_tokenKind, a_tokenValue, a_text, a_pieceKind, a_pieceValue, N, S, a_levelGroup, a_levelStart, a_levelEntry, a_branchStart, be', a_placesSeen, a_choicePiece, a_choicePlace, a_choiceNotes) := by
    intro N S be'
    by_cases e : a_levelEntry lv = -2
    · exact cx_end1 hl e ⟨hv, fun y _ => h _ _ _ _ _ _ _ _ _ _⟩
    · by_cases e36 : pc < 36
      · exact cx_end2 hl e e36 ⟨hv, fun y _ => h _ _ _ _ _ _ _ _ _ _⟩
      · obtain rfl : pc = 36 := by omega
        exact cx_end3 hl e ⟨hv, fun y _ => h _ _ _ _ _ _ _ _ _ _⟩
  by_cases e : f_atomEntry = -1
  · refine br_t e ?_
    rw [e]
    exact tail _ _ _
  · rcases hae with hae | ⟨a, b, h1, h2, h3, h4⟩
    · exact absurd hae e
    · refine br_f e ⟨hv, ?_⟩
      rw [ec]
      by_cases eb : a_branchEntry lv = -1
      · exact br_t eb ⟨hv, nm_e (tail _ _ _)⟩
      · refine br_f eb ⟨hv, ?_⟩
        rw [h3, h1]
        refine cx_lead h2 h4 ?_
        rw [← h1]
        exact tail _ _ _
end XT
