section TK
def cq_A (b : Bool) (lv pc en sz : Nat) (gg lsN bsN od br : Nat → Nat) (J : Nat → List Nat) (as_ ae at_ az : Int32) (K V N S lg ls le bs be O W F G opd brn szs jmp gof : Nat → Int32) : Prop :=
  cq_K lv pc en sz gg lsN bsN od br J ae (fg_q O W F G) (fg_q K V N S) lg ls le bs be opd brn szs jmp gof ∧ (ae = -1 ∨ as_ = nI (lsN (lv + 1))) ∧
  (b = true → as_ = nI (lsN (lv + 1)) ∧ az = nI (pc - lsN (lv + 1)) ∧ at_ = nI (od (lv + 1))) ∧ (b = false → at_ = -1) ∧ rl_B O ∧ rl_B W ∧ rl_S F ∧ rl_S G
def xl_L (post : SX → Prop) (n j : Nat) (u : SX) : Prop := match u with
  | (f_tokens, f_faultPlace, f_length, f_pieces, f_patternEntry, f_hasPattern, f_tooLarge, f_level, f_groups, f_atomStart, f_atomEntry, f_choices, f_wayPiece, f_wayPlace, f_wayNotes, f_hasResult, f_resultStart, f_resultEnd, f_resultNotes, a_tokenKind, a_tokenValue, a_text, a_pieceKind, a_pieceValue, a_pieceNext, a_pieceSecond, a_levelGroup, a_levelStart, a_levelEntry, a_branchStart, a_branchEntry, a_placesSeen, a_choicePiece, a_choicePlace, a_choiceNotes) => wX_buildPattern_32 post n (nI j) f_tokens f_faultPlace f_length f_pieces f_patternEntry f_hasPattern f_tooLarge f_level f_groups f_atomStart f_atomEntry f_choices f_wayPiece f_wayPlace f_wayNotes f_hasResult f_resultStart f_resultEnd f_resultNotes a_tokenKind a_tokenValue a_text a_pieceKind a_pieceValue a_pieceNext a_pieceSecond a_levelGroup a_levelStart a_levelEntry a_branchStart a_branchEntry a_placesSeen a_choicePiece a_choicePlace a_choiceNotes
/-- what one token does on both sides -/
def tk_C (f_tokens f_faultPlace f_length f_pieces f_patternEntry f_hasPattern f_tooLarge f_level f_groups f_atomStart f_atomEntry f_choices f_wayPiece f_wayPlace : Int32) (f_wayNotes : Int64) (f_hasResult f_resultStart f_resultEnd : Int32) (f_resultNotes : Int64) (a_tokenKind a_tokenValue a_text a_pieceKind a_pieceValue a_pieceNext a_pieceSecond a_levelGroup a_levelStart a_levelEntry a_branchStart a_branchEntry : Nat → Int32) (a_placesSeen : Nat → Int64) (a_choicePiece a_choicePlace : Nat → Int32) (a_choiceNotes : Nat → Int64) (g_count g_place g_end g_size g_large g_ready g_depth g_groups g_atom g_atomSize g_length g_found : Int32) (b_kind b_value b_op b_with b_one b_two b_copyOp b_copyWith b_copyOne b_copyTwo b_opened b_branch b_sizes b_jumps b_groupOf b_text : Nat → Int32) (b_met : Nat → Int64) (b_todo b_notes : Nat → Int32) (i kk : Nat) (w : Int32) (s : Nat × Nat × Bool) : Prop :=
  (∃ (lv pc en sz : Nat) (gg lsN bsN od br : Nat → Nat) (J : Nat → List Nat) (as_ ae at_ az : Int32) (K V N S lg ls le bs be O W F G c1 c2 c3 c4 opd brn szs jmp gof : Nat → Int32),
     lv = s.1 ∧ cq_A s.2.2 lv pc en sz gg lsN bsN od br J as_ ae at_ az K V N S lg ls le bs be O W F G opd brn szs jmp gof ∧
     (∀ (post : SX → Prop) (n : Nat), wX_buildPattern_32 post n (nI (i + 1)) f_tokens f_faultPlace f_length (nI pc) f_patternEntry f_hasPattern 0 (nI lv) (nI s.2.1) as_ ae f_choices f_wayPiece f_wayPlace f_wayNotes f_hasResult f_resultStart f_resultEnd f_resultNotes a_tokenKind a_tokenValue a_text K V N S lg ls le bs be a_placesSeen a_choicePiece a_choicePlace a_choiceNotes → wX_buildPattern_32 post (n + 1) (nI i) f_tokens f_faultPlace f_length f_pieces f_patternEntry f_hasPattern f_tooLarge f_level f_groups f_atomStart f_atomEntry f_choices f_wayPiece f_wayPlace f_wayNotes f_hasResult f_resultStart f_resultEnd f_resultNotes a_tokenKind a_tokenValue a_text a_pieceKind a_pieceValue a_pieceNext a_pieceSecond a_levelGroup a_levelStart a_levelEntry a_branchStart a_branchEntry a_placesSeen a_choicePiece a_choicePlace a_choiceNotes) ∧
     (∀ post : Int32 → SY → Prop, post 1 (g_count, g_place, nI en, nI sz, cq_la sz, g_ready, nI (lv + 1), nI s.2.1, at_, az, g_length, g_found, b_kind, b_value, O, W, F, G, c1, c2, c3, c4, opd, brn, szs, jmp, gof, b_text, b_met, b_todo, b_notes) → wpY_accept post (g_count, g_place, g_end, g_size, g_large, g_ready, g_depth, g_groups, g_atom, g_atomSize, g_length, g_found, b_kind, b_value, b_op, b_with, b_one, b_two, b_copyOp, b_copyWith, b_copyOne, b_copyTwo, b_opened, b_branch, b_sizes, b_jumps, b_groupOf, b_text, b_met, b_todo, b_notes) (nI kk) w)) ∨
  ((∀ (post : SX → Prop) (n : Nat), (∀ (pc pe lv gr as_ ae : Int32) (K V N S lg ls le bs be : Nat → Int32), post (f_tokens, f_faultPlace, f_length, pc, pe, f_hasPattern, 1, lv, gr, as_, ae, f_choices, f_wayPiece, f_wayPlace, f_wayNotes, f_hasResult, f_resultStart, f_resultEnd, f_resultNotes, a_tokenKind, a_tokenValue, a_text, K, V, N, S, lg, ls, le, bs, be, a_placesSeen, a_choicePiece, a_choicePlace, a_choiceNotes)) → wX_buildPattern_32 post (n + 2) (nI i) f_tokens f_faultPlace f_length f_pieces f_patternEntry f_hasPattern f_tooLarge f_level f_groups f_atomStart f_atomEntry f_choices f_wayPiece f_wayPlace f_wayNotes f_hasResult f_resultStart f_resultEnd f_resultNotes a_tokenKind a_tokenValue a_text a_pieceKind a_pieceValue a_pieceNext a_pieceSecond a_levelGroup a_levelStart a_levelEntry a_branchStart a_branchEntry a_placesSeen a_choicePiece a_choicePlace a_choiceNotes) ∧
   (∃ (sz dp gr at_ az : Int32) (opd brn szs jmp gof : Nat → Int32), ys_S s g_end 1 dp gr at_ opd ∧
     (∀ post : Int32 → SY → Prop, post 1 (g_count, g_place, g_end, sz, 1, g_ready, dp, gr, at_, az, g_length, g_found, b_kind, b_value, b_op, b_with, b_one, b_two, b_copyOp, b_copyWith, b_copyOne, b_copyTwo, opd, brn, szs, jmp, gof, b_text, b_met, b_todo, b_notes) → wpY_accept post (g_count, g_place, g_end, g_size, g_large, g_ready, g_depth, g_groups, g_atom, g_atomSize, g_length, g_found, b_kind, b_value, b_op, b_with, b_one, b_two, b_copyOp, b_copyWith, b_copyOne, b_copyTwo, b_opened, b_branch, b_sizes, b_jumps, b_groupOf, b_text, b_met, b_todo, b_notes) (nI kk) w)))
theorem cp_sum_le (g : Nat → Nat) (le : Nat → Int32) : ∀ d, cp_sum g le d ≤ 3 * d
  | 0 => Nat.le_refl _
  | d + 1 => by
    have h1 := cp_sum_le g le d
    have h2 := cp_gb_le (g d)
    show cp_sum g le d + cp_lag (g d) (le d) ≤ _
    unfold cp_lag
    split <;> omega
theorem cq_szb {lv pc en sz : Nat} {gg lsN bsN od br : Nat → Nat} {J : Nat → List Nat} {ae : Int32} {m x : Nat → fg_I} {lg ls le bs be opd brn szs jmp gof : Nat → Int32} (h : cq_K lv pc en sz gg lsN bsN od br J ae m x lg ls le bs be opd brn szs jmp gof) : sz < 200 ∧ pc ≤ sz ∧ (sz ≤ 36 → en ≤ 72) ∧ (∀ d, d ≤ lv → 0 ≤ opd d) := by
  have hb := cq_en h
  obtain ⟨k1, k2, k3, k4, k5, k6, k7, k8, k9, k10, k11, k12, k13⟩ := h
  have := cp_sum_le gg le (lv + 1)
  refine ⟨by omega, by omega, fun h => by have := hb h; omega, fun d hd => ?_⟩
  obtain ⟨_, _, _, _, _, _, _, _, _, _, e11, e12, _⟩ := k12 d hd
  rw [e11]
  exact nI_pos' (by omega)
variable {f_tokens f_faultPlace f_length f_pieces f_patternEntry f_hasPattern f_tooLarge f_level f_groups f_atomStart f_atomEntry f_choices f_wayPiece f_wayPlace : Int32} {f_wayNotes : Int64} {f_hasResult f_resultStart f_resultEnd : Int32} {f_resultNotes : Int64} {a_tokenKind a_tokenValue a_text a_pieceKind a_pieceValue a_pieceNext a_pieceSecond a_levelGroup a_levelStart a_levelEntry a_branchStart a_branchEntry : Nat → Int32} {a_placesSeen : Nat → Int64} {a_choicePiece a_choicePlace : Nat → Int32} {a_choiceNotes : Nat → Int64}
/-- the loop's end, when it was too large -/
theorem xl_done {post : SX → Prop} {n j c lv pc : Nat} (hj : j < 100) (hc : c ≤ 24) (hl : lv < 25) (hp : pc ≤ 36) (hae : f_atomEntry = -1 ∨ ∃ a b, f_atomStart = nI a ∧ a ≤ 36 ∧ a_branchStart lv = nI b ∧ b ≤ 36)
    (h : ∀ (pc pe lv gr as_ ae : Int32) (K V N S lg ls le bs be : Nat → Int32), post (nI c, f_faultPlace, f_length, pc, pe, f_hasPattern, 1, lv, gr, as_, ae, f_choices, f_wayPiece, f_wayPlace, f_wayNotes, f_hasResult, f_resultStart, f_resultEnd, f_resultNotes, a_tokenKind, a_tokenValue, a_text, K, V, N, S, lg, ls, le, bs, be, a_placesSeen, a_choicePiece, a_choicePlace, a_choiceNotes)) : wX_buildPattern_32 post (n + 1) (nI j) (nI c) f_faultPlace f_length (nI pc) f_patternEntry f_hasPattern 1 (nI lv) f_groups f_atomStart f_atomEntry f_choices f_wayPiece f_wayPlace f_wayNotes f_hasResult f_resultStart f_resultEnd f_resultNotes a_tokenKind a_tokenValue a_text a_pieceKind a_pieceValue a_pieceNext a_pieceSecond a_levelGroup a_levelStart a_levelEntry a_branchStart a_branchEntry a_placesSeen a_choicePiece a_choicePlace a_choiceNotes := by
  have T : wX_buildPattern_104 post (nI c) f_faultPlace f_length (nI pc) f_patternEntry f_hasPattern 1 (nI lv) f_groups f_atomStart f_atomEntry f_choices f_wayPiece f_wayPlace f_wayNotes f_hasResult f_resultStart f_resultEnd f_resultNotes a_tokenKind a_tokenValue a_text a_pieceKind a_pieceValue a_pieceNext a_pieceSecond a_levelGroup a_levelStart a_levelEntry a_branchStart a_branchEntry a_placesSeen a_choicePiece a_choicePlace a_choiceNotes := xt_104L hl hp hae (fun _ _ _ _ _ _ _ _ _ _ => h _ _ _ _ _ _ _ _ _ _ _ _ _ _ _)
  by_cases e : c ≤ j
  · exact br_t (nI_le e (by omega)) T
  · exact br_f (nI_ge (by omega) (by omega)) (br_f (by decide) T)
/-- a token that is no quantifier -/
theorem xl_tok {post : SX → Prop} {n i c kk : Nat} {v ae' : Int32} {N' S' be' : Nat → Int32} {F : SX → Prop} (hc : c ≤ 24) (hi : i < c) (hk : kk ≤ 15) (hq : cs_q kk = false) (hK : a_tokenKind i = nI kk) (hV : a_tokenValue i = v)
    (hj : ∀ post' : SX → Prop, post' (nI c, f_faultPlace, f_length, f_pieces, f_patternEntry, f_hasPattern, 0, f_level, f_groups, f_atomStart, ae', f_choices, f_wayPiece, f_wayPlace, f_wayNotes, f_hasResult, f_resultStart, f_resultEnd, f_resultNotes, a_tokenKind, a_tokenValue, a_text, a_pieceKind, a_pieceValue, N', S', a_levelGroup, a_levelStart, a_levelEntry, a_branchStart, be', a_placesSeen, a_choicePiece, a_choicePlace, a_choiceNotes) → wpX_joinAtom post' (nI c, f_faultPlace, f_length, f_pieces, f_patternEntry, f_hasPattern, 0, f_level, f_groups, f_atomStart, f_atomEntry, f_choices, f_wayPiece, f_wayPlace, f_wayNotes, f_hasResult, f_resultStart, f_resultEnd, f_resultNotes, a_tokenKind, a_tokenValue, a_text, a_pieceKind, a_pieceValue, a_pieceNext, a_pieceSecond, a_levelGroup, a_levelStart, a_levelEntry, a_branchStart, a_branchEntry, a_placesSeen, a_choicePiece, a_choicePlace, a_choiceNotes))
    (ht : ∀ post' : SX → Prop, (∀ u, F u → post' u) → wpX_takeToken post' (nI c, f_faultPlace, f_length, f_pieces, f_patternEntry, f_hasPattern, 0, f_level, f_groups, f_atomStart, ae', f_choices, f_wayPiece, f_wayPlace, f_wayNotes, f_hasResult, f_resultStart, f_resultEnd, f_resultNotes, a_tokenKind, a_tokenValue, a_text, a_pieceKind, a_pieceValue, N', S', a_levelGroup, a_levelStart, a_levelEntry, a_branchStart, be', a_placesSeen, a_choicePiece, a_choicePlace, a_choiceNotes) (nI kk) v)
    (h : ∀ u, F u → xl_L post n (i + 1) u) : wX_buildPattern_32 post (n + 1) (nI i) (nI c) f_faultPlace f_length f_pieces f_patternEntry f_hasPattern 0 f_level f_groups f_atomStart f_atomEntry f_choices f_wayPiece f_wayPlace f_wayNotes f_hasResult f_resultStart f_resultEnd f_resultNotes a_tokenKind a_tokenValue a_text a_pieceKind a_pieceValue a_pieceNext a_pieceSecond a_levelGroup a_levelStart a_levelEntry a_branchStart a_branchEntry a_placesSeen a_choicePiece a_choicePlace a_choiceNotes := by
  have hv : vp_in (nI i) 24 := vp_in_nI (by omega) (by omega)
  have ec : (nI i).toNatClampNeg = i := nI_clamp (by omega)
  refine br_f (nI_ge hi (by omega)) (br_t rfl ⟨hv, ?_⟩)
  rw [ec, hK]
  refine ff_q hk ?_
  rw [hq]
  refine br_t rfl ?_
  refine hj _ ?_
  refine ⟨hv, hv, ?_⟩
  rw [hK, hV]
  refine ht _ (fun u hu => ?_)
  have := h u hu
  obtain ⟨f_tokens, f_faultPlace, f_length, f_pieces, f_patternEntry, f_hasPattern, f_tooLarge, f_level, f_groups, f_atomStart, f_atomEntry, f_choices, f_wayPiece, f_wayPlace, f_wayNotes, f_hasResult, f_resultStart, f_resultEnd, f_resultNotes, a_tokenKind, a_tokenValue, a_text, a_pieceKind, a_pieceValue, a_pieceNext, a_pieceSecond, a_levelGroup, a_levelStart, a_levelEntry, a_branchStart, a_branchEntry, a_placesSeen, a_choicePiece, a_choicePlace, a_choiceNotes⟩ := u
  exact nm_r (nI_1 i) this
theorem xl_quant {post : SX → Prop} {n i c kk : Nat} {v : Int32} {F : SX → Prop} (hc : c ≤ 24) (hi : i < c) (hk : kk ≤ 15) (hq : cs_q kk = true) (hK : a_tokenKind i = nI kk) (hV : a_tokenValue i = v)
    (ht : ∀ post' : SX → Prop, (∀ u, F u → post' u) → wpX_repeatAtom post' (nI c, f_faultPlace, f_length, f_pieces, f_patternEntry, f_hasPattern, 0, f_level, f_groups, f_atomStart, f_atomEntry, f_choices, f_wayPiece, f_wayPlace, f_wayNotes, f_hasResult, f_resultStart, f_resultEnd, f_resultNotes, a_tokenKind, a_tokenValue, a_text, a_pieceKind, a_pieceValue, a_pieceNext, a_pieceSecond, a_levelGroup, a_levelStart, a_levelEntry, a_branchStart, a_branchEntry, a_placesSeen, a_choicePiece, a_choicePlace, a_choiceNotes) (nI kk) v)
    (h : ∀ u, F u → xl_L post n (i + 1) u) : wX_buildPattern_32 post (n + 1) (nI i) (nI c) f_faultPlace f_length f_pieces f_patternEntry f_hasPattern 0 f_level f_groups f_atomStart f_atomEntry f_choices f_wayPiece f_wayPlace f_wayNotes f_hasResult f_resultStart f_resultEnd f_resultNotes a_tokenKind a_tokenValue a_text a_pieceKind a_pieceValue a_pieceNext a_pieceSecond a_levelGroup a_levelStart a_levelEntry a_branchStart a_branchEntry a_placesSeen a_choicePiece a_choicePlace a_choiceNotes := by
  have hv : vp_in (nI i) 24 := vp_in_nI (by omega) (by omega)
  have ec : (nI i).toNatClampNeg = i := nI_clamp (by omega)
  refine br_f (nI_ge hi (by omega)) (br_t rfl ⟨hv, ?_⟩)
  rw [ec, hK]
  refine ff_q hk ?_
  rw [hq]
  refine br_f (by decide) ⟨hv, hv, ?_⟩
  rw [hV]
  refine ht _ (fun u hu => ?_)
  have := h u hu
  obtain ⟨f_tokens, f_faultPlace, f_length, f_pieces, f_patternEntry, f_hasPattern, f_tooLarge, f_level, f_groups, f_atomStart, f_atomEntry, f_choices, f_wayPiece, f_wayPlace, f_wayNotes, f_hasResult, f_resultStart, f_resultEnd, f_resultNotes, a_tokenKind, a_tokenValue, a_text, a_pieceKind, a_pieceValue, a_pieceNext, a_pieceSecond, a_levelGroup, a_levelStart, a_levelEntry, a_branchStart, a_branchEntry, a_placesSeen, a_choicePiece, a_choicePlace, a_choiceNotes⟩ := u
  exact nm_r (nI_1 i) this
/-- the waiting atom joins -/
theorem tk_join {lv pc en sz : Nat} {gg lsN bsN od br : Nat → Nat} {J : Nat → List Nat} {m : Nat → fg_I} {opd brn szs jmp gof : Nat → Int32}
    (h : cq_K lv pc en sz gg lsN bsN od br J f_atomEntry m (fg_q a_pieceKind a_pieceValue a_pieceNext a_pieceSecond) a_levelGroup a_levelStart a_levelEntry a_branchStart a_branchEntry opd brn szs jmp gof) (has : f_atomEntry = -1 ∨ f_atomStart = nI (lsN (lv + 1))) :
    ∃ (N' S' be' : Nat → Int32), cq_K lv pc en sz gg (cq_u lsN (lv + 1) pc) bsN (cq_u od (lv + 1) en) br J (-1) m (fg_q a_pieceKind a_pieceValue N' S') a_levelGroup a_levelStart a_levelEntry a_branchStart be' opd brn szs jmp gof ∧
      (∀ post : SX → Prop, post (f_tokens, f_faultPlace, f_length, f_pieces, f_patternEntry, f_hasPattern, f_tooLarge, nI lv, f_groups, f_atomStart, (-1), f_choices, f_wayPiece, f_wayPlace, f_wayNotes, f_hasResult, f_resultStart, f_resultEnd, f_resultNotes, a_tokenKind, a_tokenValue, a_text, a_pieceKind, a_pieceValue, N', S', a_levelGroup, a_levelStart, a_levelEntry, a_branchStart, be', a_placesSeen, a_choicePiece, a_choicePlace, a_choiceNotes) → wpX_joinAtom post (f_tokens, f_faultPlace, f_length, f_pieces, f_patternEntry, f_hasPattern, f_tooLarge, nI lv, f_groups, f_atomStart, f_atomEntry, f_choices, f_wayPiece, f_wayPlace, f_wayNotes, f_hasResult, f_resultStart, f_resultEnd, f_resultNotes, a_tokenKind, a_tokenValue, a_text, a_pieceKind, a_pieceValue, a_pieceNext, a_pieceSecond, a_levelGroup, a_levelStart, a_levelEntry, a_branchStart, a_branchEntry, a_placesSeen, a_choicePiece, a_choicePlace, a_choiceNotes)) := by
  have hh := h
  obtain ⟨k1, k2, k3, k4, k5, k6, k7, k8, k9, k10, k11, k12, k13⟩ := hh
  obtain ⟨e1, e2, e3, e4, e5, e6, e7, e8, e9, e10, e11, e12, e13⟩ := k12 lv (Nat.le_refl _)
  refine ⟨_, _, _, ?_, fun post hp => cx_join (b := bsN lv) (a := lsN (lv + 1)) (by omega) e5 (by omega) (has.imp id (fun h => ⟨h, by omega⟩)) (fun hb => by have := e10 hb; omega) hp⟩
  refine cq_join h (fun p p1 p2 => ?_) (fun p hp => ?_)
  · by_cases e : f_atomEntry = -1
    · rw [e, if_pos rfl, cx_lo_0 (Nat.le_refl _), cx_lo_0 (Nat.le_refl _), fg_px_id]
    · rw [if_neg e]
      exact fg_q_lo p1 p2
  · by_cases e : f_atomEntry = -1
    · rw [e, if_pos rfl, cx_lo_0 (Nat.le_refl _), cx_lo_0 (Nat.le_refl _)]
    · rw [if_neg e]
      exact fg_q_ln (by omega)
theorem xt_A_v {kk : Nat} {v w pk pv : Int32} (h : xt_A kk v pk pv) (ht : rl_tok (nI kk) v w) (hk : kk ≤ 15) : xt_A kk w pk pv ∧ cy_B pk ∧ cy_B pv ∧ (pk = 0 ∨ pk = 1 ∨ pk = 2) := by
  obtain ⟨k2, hk2, ek, t0, t2, t14⟩ := ht
  obtain rfl : kk = k2 := fg_ij ek (by omega) (by omega)
  rcases h with ⟨rfl, rfl, rfl⟩ | ⟨rfl, rfl, rfl⟩ | ⟨rfl, rfl, rfl⟩ | ⟨rfl, rfl, rfl⟩ | ⟨rfl, rfl, rfl⟩
  · obtain ⟨c, c3, rfl, rfl⟩ := t0 rfl
    refine ⟨Or.inl ⟨rfl, rfl, rfl⟩, cy_Bn (n := 0) (by omega), ?_, Or.inl rfl⟩
    have : c = 0 ∨ c = 1 ∨ c = 2 ∨ c = 3 := by omega
    rcases this with rfl | rfl | rfl | rfl <;> (unfold cy_B; decide)
  · exact ⟨Or.inr (Or.inl ⟨rfl, rfl, rfl⟩), cy_Bn (n := 0) (by omega), cy_Bn (n := 15) (by omega), Or.inl rfl⟩
  · obtain ⟨c, c1, c3, rfl, rfl⟩ := t2 rfl
    exact ⟨Or.inr (Or.inr (Or.inl ⟨rfl, rfl, rfl⟩)), cy_Bn (n := 0) (by omega), cy_Bn (by omega), Or.inl rfl⟩
  · exact ⟨Or.inr (Or.inr (Or.inr (Or.inl ⟨rfl, rfl, rfl⟩))), cy_Bn (n := 1) (by omega), cy_Bn (n := 0) (by omega), Or.inr (Or.inl rfl)⟩
  · exact ⟨Or.inr (Or.inr (Or.inr (Or.inr ⟨rfl, rfl, rfl⟩))), cy_Bn (n := 2) (by omega), cy_Bn (n := 0) (by omega), Or.inr (Or.inr rfl)⟩
end TK
