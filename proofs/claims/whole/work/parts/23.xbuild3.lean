section XD
def cx_ck (a sz : Nat) (g : Int32 → Int32) (f : Nat → Int32) : Nat → Nat → Int32
  | 0 => f
  | i + 1 => upd (cx_ck a sz g f i) (a + i + sz) (g (cx_ck a sz g f i (a + i)))
theorem cx_ck_lo {a sz : Nat} {g : Int32 → Int32} {f : Nat → Int32} {p : Nat} (h : p < a + sz) : ∀ i, cx_ck a sz g f i p = f p
  | 0 => rfl
  | i + 1 => by
    show upd _ _ _ p = _
    rw [rl_un (by omega), cx_ck_lo h i]
theorem cx_ck_cp {a sz : Nat} {g : Int32 → Int32} {f : Nat → Int32} (hz : 0 < sz) : ∀ (i j : Nat), j < i → cx_ck a sz g f i (a + j + sz) = g (cx_ck a sz g f i (a + j))
  | 0, j, h => by omega
  | i + 1, j, h => by
    show upd _ _ _ (a + j + sz) = g (upd _ _ _ (a + j))
    rw [rl_un (f := cx_ck a sz g f i) (j := a + j) (by omega)]
    by_cases e : j = i
    · rw [e, rl_us]
    · rw [rl_un (by omega), cx_ck_cp hz i j (by omega)]
variable {f_tokens f_faultPlace f_length f_pieces f_patternEntry f_hasPattern f_tooLarge f_level f_groups f_atomStart f_atomEntry f_choices f_wayPiece f_wayPlace : Int32} {f_wayNotes : Int64} {f_hasResult f_resultStart f_resultEnd : Int32} {f_resultNotes : Int64} {a_tokenKind a_tokenValue a_text a_pieceKind a_pieceValue a_pieceNext a_pieceSecond a_levelGroup a_levelStart a_levelEntry a_branchStart a_branchEntry : Nat → Int32} {a_placesSeen : Nat → Int64} {a_choicePiece a_choicePlace : Nat → Int32} {a_choiceNotes : Nat → Int64}
theorem cx_moved {post : Int32 → Prop} {y : Int32} {k : Nat} (h : post (fg_mv k y)) : wpX_moved post y (nI k) := by
  by_cases e : y = -1
  · rw [show fg_mv k y = -1 from if_pos e] at h
    exact br_t e h
  · rw [show fg_mv k y = y + nI k from if_neg e] at h
    exact br_f e h
theorem cx_cp24 {post : SX → Prop} {a sz pc n : Nat} (hpc : pc = a + sz) (hn : pc + n ≤ 36) (hz : n = 0 ∨ 0 < sz)
    (h : post (f_tokens, f_faultPlace, f_length, nI (pc + n), f_patternEntry, f_hasPattern, f_tooLarge, f_level, f_groups, nI a, f_atomEntry, f_choices, f_wayPiece, f_wayPlace, f_wayNotes, f_hasResult, f_resultStart, f_resultEnd, f_resultNotes, a_tokenKind, a_tokenValue, a_text, cx_ck a sz id a_pieceKind n, cx_ck a sz id a_pieceValue n, cx_ck a sz (fg_mv sz) a_pieceNext n, cx_ck a sz (fg_mv sz) a_pieceSecond n, a_levelGroup, a_levelStart, a_levelEntry, a_branchStart, a_branchEntry, a_placesSeen, a_choicePiece, a_choicePlace, a_choiceNotes)) : ∀ (d i : Nat), i + d = n →
    wX_copyAtom_24 post (nI sz) (nI n) f_tokens f_faultPlace f_length (nI pc) f_patternEntry f_hasPattern f_tooLarge f_level f_groups (nI a) f_atomEntry f_choices f_wayPiece f_wayPlace f_wayNotes f_hasResult f_resultStart f_resultEnd f_resultNotes (d + 1) (nI i) a_tokenKind a_tokenValue a_text (cx_ck a sz id a_pieceKind i) (cx_ck a sz id a_pieceValue i) (cx_ck a sz (fg_mv sz) a_pieceNext i) (cx_ck a sz (fg_mv sz) a_pieceSecond i) a_levelGroup a_levelStart a_levelEntry a_branchStart a_branchEntry a_placesSeen a_choicePiece a_choicePlace a_choiceNotes := by
  intro d
  induction d with
  | zero =>
    intro i hi
    obtain rfl : i = n := by omega
    exact br_t (nI_le (Nat.le_refl _) (by omega)) (nm_r (nI_add pc i) h)
  | succ d ih =>
    intro i hi
    have hv1 : vp_in (nI (a + i)) 36 := vp_in_nI (by omega) (by omega)
    have hv2 : vp_in (nI (a + i + sz)) 36 := vp_in_nI (by omega) (by omega)
    have e1 : (nI (a + i)).toNatClampNeg = a + i := nI_clamp (by omega)
    have e2 : (nI (a + i + sz)).toNatClampNeg = a + i + sz := nI_clamp (by omega)
    refine br_f (nI_ge (by omega) (by omega)) (nm_r (nI_add a i) (nm_r (nI_add (a + i) sz) ?_))
    rw [e1, e2]
    refine ⟨hv1, hv2, nm_e ⟨hv1, hv2, nm_e ⟨hv1, cx_moved ⟨hv2, nm_e ⟨hv1, cx_moved ⟨hv2, nm_e (nm_r (nI_1 i) ?_)⟩⟩⟩⟩⟩⟩
    exact ih (i + 1) (by omega)
theorem cx_copyOK {a sz t pc : Nat} (hpc : pc = a + sz) (hn : pc + sz * t ≤ 36) (ht : t ≤ 4) :
    ∃ (K V N S : Nat → Int32), (∀ p, p < pc → fg_q K V N S p = fg_q a_pieceKind a_pieceValue a_pieceNext a_pieceSecond p) ∧ (∀ j, j < sz * t → fg_q K V N S (a + j + sz) = fg_px (fg_mv sz) (fg_q K V N S (a + j))) ∧
      (∀ post : SX → Prop, post (f_tokens, f_faultPlace, f_length, nI (pc + sz * t), f_patternEntry, f_hasPattern, f_tooLarge, f_level, f_groups, nI a, f_atomEntry, f_choices, f_wayPiece, f_wayPlace, f_wayNotes, f_hasResult, f_resultStart, f_resultEnd, f_resultNotes, a_tokenKind, a_tokenValue, a_text, K, V, N, S, a_levelGroup, a_levelStart, a_levelEntry, a_branchStart, a_branchEntry, a_placesSeen, a_choicePiece, a_choicePlace, a_choiceNotes) → wpX_copyAtom post (f_tokens, f_faultPlace, f_length, nI pc, f_patternEntry, f_hasPattern, f_tooLarge, f_level, f_groups, nI a, f_atomEntry, f_choices, f_wayPiece, f_wayPlace, f_wayNotes, f_hasResult, f_resultStart, f_resultEnd, f_resultNotes, a_tokenKind, a_tokenValue, a_text, a_pieceKind, a_pieceValue, a_pieceNext, a_pieceSecond, a_levelGroup, a_levelStart, a_levelEntry, a_branchStart, a_branchEntry, a_placesSeen, a_choicePiece, a_choicePlace, a_choiceNotes) (nI sz) (nI t)) := by
  refine ⟨cx_ck a sz id a_pieceKind (sz * t), cx_ck a sz id a_pieceValue (sz * t), cx_ck a sz (fg_mv sz) a_pieceNext (sz * t), cx_ck a sz (fg_mv sz) a_pieceSecond (sz * t), ?_, ?_, ?_⟩
  · intro p hp
    unfold fg_q
    rw [cx_ck_lo (by omega), cx_ck_lo (by omega), cx_ck_lo (by omega), cx_ck_lo (by omega)]
  · intro j hj
    have hz : 0 < sz := by
      rcases Nat.eq_zero_or_pos sz with h | h
      · rw [h, Nat.zero_mul] at hj; omega
      · exact h
    unfold fg_q
    rw [cx_ck_cp hz _ j hj, cx_ck_cp hz _ j hj, cx_ck_cp hz _ j hj, cx_ck_cp hz _ j hj]
    rfl
  · intro post h
    have hb : sz * t < 2 ^ 31 := by omega
    refine nm_r (pk_mul sz t) ?_
    rw [nI_add]
    refine br_t (nI_le (b := 36) hn (by omega)) ⟨sz * t + 1, ?_⟩
    exact cx_cp24 hpc hn (by
      rcases Nat.eq_zero_or_pos sz with h | h
      · exact Or.inl (by rw [h, Nat.zero_mul])
      · exact Or.inr h) h (sz * t) 0 (by omega)
theorem cx_copyL {post : SX → Prop} {a sz t pc : Nat} (hs : sz ≤ 36) (hp : pc ≤ 36) (ht : t ≤ 4) (hn : ¬ pc + sz * t ≤ 36) (h : post (f_tokens, f_faultPlace, f_length, nI pc, f_patternEntry, f_hasPattern, 1, f_level, f_groups, nI a, f_atomEntry, f_choices, f_wayPiece, f_wayPlace, f_wayNotes, f_hasResult, f_resultStart, f_resultEnd, f_resultNotes, a_tokenKind, a_tokenValue, a_text, a_pieceKind, a_pieceValue, a_pieceNext, a_pieceSecond, a_levelGroup, a_levelStart, a_levelEntry, a_branchStart, a_branchEntry, a_placesSeen, a_choicePiece, a_choicePlace, a_choiceNotes)) : wpX_copyAtom post (f_tokens, f_faultPlace, f_length, nI pc, f_patternEntry, f_hasPattern, f_tooLarge, f_level, f_groups, nI a, f_atomEntry, f_choices, f_wayPiece, f_wayPlace, f_wayNotes, f_hasResult, f_resultStart, f_resultEnd, f_resultNotes, a_tokenKind, a_tokenValue, a_text, a_pieceKind, a_pieceValue, a_pieceNext, a_pieceSecond, a_levelGroup, a_levelStart, a_levelEntry, a_branchStart, a_branchEntry, a_placesSeen, a_choicePiece, a_choicePlace, a_choiceNotes) (nI sz) (nI t) := by
  have hb : sz * t ≤ 36 * 4 := Nat.mul_le_mul hs ht
  refine nm_r (pk_mul sz t) ?_
  rw [nI_add]
  exact br_f (nI_ge (b := pc + sz * t) (a := 36) (by omega) (by omega)) h
end XD
