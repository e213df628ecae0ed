section MM
/-! the notes -/
def mm_NX (w : Int64) (v : Nat → Nat) : Prop := ∀ k, k < 6 → ∀ b, b < 6 → w.toBitVec.getLsbD (6 * k + b) = (v k).testBit b
theorem mm_0 : mm_NX 0 (fun _ => 0) := by
  intro k _ b _
  show (0#64).getLsbD _ = (0 : Nat).testBit b
  simp
theorem mm_nw (w : Int64) (v : Nat → Nat) (k a : Nat) (h : mm_NX w v) (hk : k < 6) (ha : a ≤ 32) : mm_NX (xm_nw w k a) (mt_un v k (a + 1)) := by
  intro j hj b hb
  have e1 : (63 : Int64) <<< ((nI (6 * k)).toInt64 &&& 63) = lN (63 * 2 ^ (6 * k)) := wb_shl 63 (by omega)
  have e2 : (nI a + 1).toInt64 <<< ((nI (6 * k)).toInt64 &&& 63) = lN ((a + 1) * 2 ^ (6 * k)) := by
    rw [nI_1, nI_l (by omega), wb_shl (a + 1) (by omega)]
  have e3 : (-1 : Int64).toBitVec = BitVec.allOnes 64 := by decide
  unfold xm_nw
  rw [e1, e2, Int64.toBitVec_or, Int64.toBitVec_and, Int64.toBitVec_xor, BitVec.getLsbD_or, BitVec.getLsbD_and, BitVec.getLsbD_xor, wb_tb, wb_tb, BitVec.getLsbD_ofNat, BitVec.getLsbD_ofNat, e3, BitVec.getLsbD_allOnes, h j hj b hb, Nat.testBit_mul_two_pow, Nat.testBit_mul_two_pow]
  have i64 : 6 * j + b < 64 := by omega
  have t63 : ∀ n, Nat.testBit 63 n = decide (n < 6) := fun n => Nat.testBit_two_pow_sub_one 6 n
  rw [t63]
  by_cases e : j = k
  · subst e
    have u : mt_un v j (a + 1) j = a + 1 := if_pos rfl
    have q1 : 6 * j ≤ 6 * j + b := by omega
    have q2 : 6 * j + b - 6 * j = b := by omega
    rw [u, q2]
    simp [i64, hb]
  · have u : mt_un v k (a + 1) j = v j := if_neg e
    rw [u]
    by_cases l : j < k
    · have q1 : ¬ 6 * k ≤ 6 * j + b := by omega
      simp [i64, q1]
    · have q2 : ¬ 6 * j + b - 6 * k < 6 := by omega
      have q3 : (a + 1).testBit (6 * j + b - 6 * k) = false := by
        apply Nat.testBit_lt_two_pow
        exact Nat.lt_of_lt_of_le (show a + 1 < 2 ^ 6 by omega) (Nat.pow_le_pow_right (by omega) (by omega))
      simp [i64, q2, q3]
theorem mm_get {w : Int64} {v : Nat → Nat} {k : Nat} (h : mm_NX w v) (hk : k < 6) (hv : v k ≤ 33) : (((w.toUInt64 >>> ((nI (6 * k)).toInt64.toUInt64 &&& Int64.toUInt64 63)).toInt64) &&& 63).toInt32 = nI (v k) := by
  obtain ⟨n, hn, rfl⟩ := wb_of w
  have e : n / 2 ^ (6 * k) % 2 ^ 6 = v k := by
    apply Nat.eq_of_testBit_eq
    intro b
    rw [Nat.testBit_mod_two_pow, Nat.testBit_div_two_pow]
    by_cases hb : b < 6
    · have := h k hk b hb
      rw [wb_tb, BitVec.getLsbD_ofNat] at this
      have i64 : 6 * k + b < 64 := by omega
      rw [← this, Nat.add_comm b]
      simp [hb, i64]
    · have q3 : (v k).testBit b = false := by
        apply Nat.testBit_lt_two_pow
        exact Nat.lt_of_lt_of_le (show v k < 2 ^ 6 by omega) (Nat.pow_le_pow_right (by omega) (by omega))
      simp [hb, q3]
  rw [wb_shr hn (by omega), show (63 : Int64) = lN (2 ^ 6 - 1) from rfl, wb_mask (Nat.lt_of_le_of_lt (Nat.div_le_self _ _) hn) (by omega), e, lN_i]
/-! how a search begins -/
def mm_z (n : Nat) (f : Nat → Int64) : Nat → Int64 := fun j => if j < n then 0 else f j
theorem mm_z0 (f : Nat → Int64) : mm_z 0 f = f := by
  funext j; exact if_neg (by omega)
theorem mm_zs (n : Nat) (f : Nat → Int64) : vp_updL (mm_z n f) n 0 = mm_z (n + 1) f := by
  funext j
  unfold vp_updL mm_z
  by_cases h : j = n
  · rw [if_pos h, if_pos (by omega)]
  · rw [if_neg h]
    by_cases h2 : j < n
    · rw [if_pos h2, if_pos (by omega)]
    · rw [if_neg h2, if_neg (by omega)]
theorem mm_zl {n j : Nat} {f : Nat → Int64} (h : j < n) : mm_z n f j = 0 := if_pos h
def mm_w (n : Nat) (f : Nat → Int32) : Nat → Int32 := fun j => if j < n then -1 else f j
theorem mm_w0 (f : Nat → Int32) : mm_w 0 f = f := by
  funext j; exact if_neg (by omega)
theorem mm_ws (n : Nat) (f : Nat → Int32) : upd (mm_w n f) n (-1) = mm_w (n + 1) f := by
  funext j
  unfold upd mm_w
  by_cases h : j = n
  · rw [if_pos h, if_pos (by omega)]
  · rw [if_neg h]
    by_cases h2 : j < n
    · rw [if_pos h2, if_pos (by omega)]
    · rw [if_neg h2, if_neg (by omega)]
theorem mm_m1 : vp_nar .byte (-1) = -1 := by rw [vp_nar_byte]; decide
theorem mm_muz {n : Nat} {f : Nat → Int64} : ∀ p, p ≤ n → mt_mu (mm_z n f) p = 33 * p
  | 0, _ => rfl
  | p + 1, h => by
    show mt_mu _ p + mt_c (mm_z n f p) 33 = _
    rw [mm_muz p (by omega), mm_zl (by omega)]
    have : mt_c 0 33 = 33 := by decide
    omega
section
variable {f_tokens f_faultPlace f_length f_pieces f_patternEntry f_hasPattern f_tooLarge f_level f_groups f_atomStart f_atomEntry f_choices f_wayPiece f_wayPlace : Int32} {f_wayNotes : Int64} {f_hasResult f_resultStart f_resultEnd : Int32} {f_resultNotes : Int64} {a_tokenKind a_tokenValue a_text a_pieceKind a_pieceValue a_pieceNext a_pieceSecond a_levelGroup a_levelStart a_levelEntry a_branchStart a_branchEntry : Nat → Int32} {a_placesSeen : Nat → Int64} {a_choicePiece a_choicePlace : Nat → Int32} {a_choiceNotes : Nat → Int64}
theorem mm_xb {post : SX → Prop} {x1 : Int32} {P : Nat} (hP : P ≤ 36) (h : post (f_tokens, f_faultPlace, f_length, nI P, f_patternEntry, f_hasPattern, f_tooLarge, f_level, f_groups, f_atomStart, f_atomEntry, 0, f_patternEntry, x1, 0, f_hasResult, f_resultStart, f_resultEnd, f_resultNotes, a_tokenKind, a_tokenValue, a_text, a_pieceKind, a_pieceValue, a_pieceNext, a_pieceSecond, a_levelGroup, a_levelStart, a_levelEntry, a_branchStart, a_branchEntry, mm_z P a_placesSeen, a_choicePiece, a_choicePlace, a_choiceNotes)) : ∀ (d i : Nat), i + d = P →
    wX_beginSearch_2 post x1 f_tokens f_faultPlace f_length (nI P) f_patternEntry f_hasPattern f_tooLarge f_level f_groups f_atomStart f_atomEntry f_choices f_wayPiece f_wayPlace f_wayNotes f_hasResult f_resultStart f_resultEnd f_resultNotes (d + 1) (nI i) a_tokenKind a_tokenValue a_text a_pieceKind a_pieceValue a_pieceNext a_pieceSecond a_levelGroup a_levelStart a_levelEntry a_branchStart a_branchEntry (mm_z i a_placesSeen) a_choicePiece a_choicePlace a_choiceNotes := by
  intro d
  induction d with
  | zero =>
    intro i hi
    obtain rfl : i = P := by omega
    exact br_t (nI_le (Nat.le_refl _) (by omega)) h
  | succ d ih =>
    intro i hi
    refine br_f (nI_ge (by omega) (by omega)) ⟨vp_in_nI (by omega) (by omega), nm_r ?_ (nm_r (nI_1 i) (ih (i + 1) (by omega)))⟩
    rw [nI_clamp (by omega), mm_zs]
theorem mm_xbegin {post : SX → Prop} {x1 : Int32} {P : Nat} (hP : P ≤ 36) (h : post (f_tokens, f_faultPlace, f_length, nI P, f_patternEntry, f_hasPattern, f_tooLarge, f_level, f_groups, f_atomStart, f_atomEntry, 0, f_patternEntry, x1, 0, f_hasResult, f_resultStart, f_resultEnd, f_resultNotes, a_tokenKind, a_tokenValue, a_text, a_pieceKind, a_pieceValue, a_pieceNext, a_pieceSecond, a_levelGroup, a_levelStart, a_levelEntry, a_branchStart, a_branchEntry, mm_z P a_placesSeen, a_choicePiece, a_choicePlace, a_choiceNotes)) : wpX_beginSearch post (f_tokens, f_faultPlace, f_length, nI P, f_patternEntry, f_hasPattern, f_tooLarge, f_level, f_groups, f_atomStart, f_atomEntry, f_choices, f_wayPiece, f_wayPlace, f_wayNotes, f_hasResult, f_resultStart, f_resultEnd, f_resultNotes, a_tokenKind, a_tokenValue, a_text, a_pieceKind, a_pieceValue, a_pieceNext, a_pieceSecond, a_levelGroup, a_levelStart, a_levelEntry, a_branchStart, a_branchEntry, a_placesSeen, a_choicePiece, a_choicePlace, a_choiceNotes) x1 := by
  refine ⟨P + 1, ?_⟩
  have := mm_xb (x1 := x1) (f_choices := f_choices) (f_wayPiece := f_wayPiece) (f_wayPlace := f_wayPlace) (f_wayNotes := f_wayNotes) hP h P 0 (by omega)
  rw [mm_z0, nI_0] at this
  exact this
end
section
variable {g_count g_place g_end g_size g_large g_ready g_depth g_groups g_atom g_atomSize g_length g_found : Int32} {b_kind b_value b_op b_with b_one b_two b_copyOp b_copyWith b_copyOne b_copyTwo b_opened b_branch b_sizes b_jumps b_groupOf b_text : Nat → Int32} {b_met : Nat → Int64} {b_todo b_notes : Nat → Int32}
theorem mm_y25 {post : Int32 → SY → Prop} {x2 : Int32} {s0 : Nat} (hs : s0 ≤ 32) (h : ∃ n, wY_search_64 post x2 g_count g_place g_end g_size g_large g_ready g_depth g_groups g_atom g_atomSize g_length g_found n 1 b_kind b_value b_op b_with b_one b_two b_copyOp b_copyWith b_copyOne b_copyTwo b_opened b_branch b_sizes b_jumps b_groupOf b_text b_met (upd b_todo 0 (nI s0)) (upd (mm_w 8 b_notes) 0 (nI s0))) : ∀ (d i : Nat), i + d = 8 →
    wY_search_25 post (nI s0) x2 g_count g_place g_end g_size g_large g_ready g_depth g_groups g_atom g_atomSize g_length g_found (d + 1) (nI i) b_kind b_value b_op b_with b_one b_two b_copyOp b_copyWith b_copyOne b_copyTwo b_opened b_branch b_sizes b_jumps b_groupOf b_text b_met b_todo (mm_w i b_notes) := by
  intro d
  induction d with
  | zero =>
    intro i hi
    obtain rfl : i = 8 := by omega
    exact br_t (nI_le (Nat.le_refl _) (by omega)) (nm_r (by rw [ym_nb (by omega)]) (nm_r (show (0 : Int32) + 1 = 1 from rfl) (nm_e h)))
  | succ d ih =>
    intro i hi
    refine br_f (nI_ge (b := 8) (by omega) (by omega)) ⟨vp_in_nI (by omega) (by omega), nm_r ?_ (nm_r (nI_1 i) (ih (i + 1) (by omega)))⟩
    rw [nI_clamp (by omega), mm_m1, mm_ws]
theorem mm_y2 {post : Int32 → SY → Prop} {x2 : Int32} {s0 e : Nat} (hs : s0 ≤ 32) (he : e ≤ 160) (h : ∃ n, wY_search_64 post x2 g_count g_place (nI e) g_size g_large g_ready g_depth g_groups g_atom g_atomSize g_length g_found n 1 b_kind b_value b_op b_with b_one b_two b_copyOp b_copyWith b_copyOne b_copyTwo b_opened b_branch b_sizes b_jumps b_groupOf b_text (mm_z e b_met) (upd b_todo 0 (nI s0)) (upd (mm_w 8 b_notes) 0 (nI s0))) : ∀ (d i : Nat), i + d = e →
    wY_search_2 post (nI s0) x2 g_count g_place (nI e) g_size g_large g_ready g_depth g_groups g_atom g_atomSize g_length g_found (d + 1) (nI i) b_kind b_value b_op b_with b_one b_two b_copyOp b_copyWith b_copyOne b_copyTwo b_opened b_branch b_sizes b_jumps b_groupOf b_text (mm_z i b_met) b_todo b_notes := by
  intro d
  induction d with
  | zero =>
    intro i hi
    obtain rfl : i = e := by omega
    refine br_t (nI_le (Nat.le_refl _) (by omega)) ⟨9, ?_⟩
    have := mm_y25 hs h 8 0 (by omega)
    rw [mm_w0, nI_0] at this
    exact this
  | succ d ih =>
    intro i hi
    refine br_f (nI_ge (by omega) (by omega)) ⟨vp_in_nI (by omega) (by omega), nm_r ?_ (nm_r (nI_1 i) (ih (i + 1) (by omega)))⟩
    rw [nI_clamp (by omega), mm_zs]
theorem mm_ybegin {post : Int32 → SY → Prop} {x2 : Int32} {s0 e : Nat} (hs : s0 ≤ 32) (he : e ≤ 160) (h : ∃ n, wY_search_64 post x2 g_count g_place (nI e) g_size g_large g_ready g_depth g_groups g_atom g_atomSize g_length g_found n 1 b_kind b_value b_op b_with b_one b_two b_copyOp b_copyWith b_copyOne b_copyTwo b_opened b_branch b_sizes b_jumps b_groupOf b_text (mm_z e b_met) (upd b_todo 0 (nI s0)) (upd (mm_w 8 b_notes) 0 (nI s0))) : wpY_search post (g_count, g_place, nI e, g_size, g_large, g_ready, g_depth, g_groups, g_atom, g_atomSize, g_length, g_found, b_kind, b_value, b_op, b_with, b_one, b_two, b_copyOp, b_copyWith, b_copyOne, b_copyTwo, b_opened, b_branch, b_sizes, b_jumps, b_groupOf, b_text, b_met, b_todo, b_notes) (nI s0) x2 := by
  refine ⟨e + 1, ?_⟩
  have := mm_y2 hs he h e 0 (by omega)
  rw [mm_z0, nI_0] at this
  exact this
end
end MM
