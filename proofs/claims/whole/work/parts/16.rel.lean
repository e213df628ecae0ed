section RL
def rl_tok (k v v' : Int32) : Prop := ∃ kk, kk ≤ 15 ∧ k = nI kk ∧ (kk = 0 → ∃ c, c ≤ 3 ∧ v = nI c ∧ v' = nI c) ∧ (kk = 2 → ∃ c, 1 ≤ c ∧ c ≤ 15 ∧ v = nI c ∧ v' = nI c) ∧ (kk = 14 → ∃ lo hi, v = nI (8 * lo + hi) ∧ v' = nI (8 * lo + hi) ∧ lo ≤ hi ∧ 1 ≤ hi ∧ hi ≤ 4)
def rl_B (f : Nat → Int32) : Prop := ∀ j, vp_nar .byte (f j) = f j
def rl_S (f : Nat → Int32) : Prop := ∀ j, vp_nar .short (f j) = f j
def rl_R (f_tokens f_faultPlace f_length f_pieces f_patternEntry f_hasPattern f_tooLarge f_level f_groups f_atomStart f_atomEntry f_choices f_wayPiece f_wayPlace : Int32) (f_wayNotes : Int64) (f_hasResult f_resultStart f_resultEnd : Int32) (f_resultNotes : Int64) (a_tokenKind a_tokenValue a_text a_pieceKind a_pieceValue a_pieceNext a_pieceSecond a_levelGroup a_levelStart a_levelEntry a_branchStart a_branchEntry : Nat → Int32) (a_placesSeen : Nat → Int64) (a_choicePiece a_choicePlace : Nat → Int32) (a_choiceNotes : Nat → Int64) (g_count g_place g_end g_size g_large g_ready g_depth g_groups g_atom g_atomSize g_length g_found : Int32) (b_kind b_value b_op b_with b_one b_two b_copyOp b_copyWith b_copyOne b_copyTwo b_opened b_branch b_sizes b_jumps b_groupOf b_text : Nat → Int32) (b_met : Nat → Int64) (b_todo b_notes : Nat → Int32) : Prop :=
  ∃ c n : Nat, c ≤ 24 ∧ f_tokens = nI c ∧ g_count = nI c ∧ b_kind = a_tokenKind ∧ (∀ j, j < c → rl_tok (a_tokenKind j) (a_tokenValue j) (b_value j)) ∧ g_place = f_faultPlace ∧
    n ≤ 32 ∧ f_length = nI n ∧ g_length = nI n ∧ b_text = a_text ∧
    g_ready = f_hasPattern ∧ (f_hasPattern = 0 ∨ (f_hasPattern = 1 ∧ ∃ P E : Nat, P ≤ 36 ∧ E ≤ 72 ∧ f_pieces = nI P ∧ g_end = nI (E + 1) ∧ b_op E = 6 ∧ fg_F (fg_q b_op b_with b_one b_two) (fg_q a_pieceKind a_pieceValue a_pieceNext a_pieceSecond) 0 E 0 P f_patternEntry)) ∧
    g_found = f_hasResult ∧ (f_hasResult = 0 ∨ (f_hasResult = 1 ∧ ∃ (s a : Nat) (v : Nat → Nat), s ≤ a ∧ a ≤ 32 ∧ f_resultStart = nI s ∧ f_resultEnd = nI a ∧ b_notes 0 = nI s ∧ b_notes 1 = nI a ∧ mm_NX f_resultNotes v ∧ mt_NO b_notes v)) ∧
    rl_B b_op ∧ rl_B b_with ∧ rl_S b_one ∧ rl_S b_two
def i_Rel (_ : Nat) (u : SX) (v : SY) : Prop := match u with
  | (f_tokens, f_faultPlace, f_length, f_pieces, f_patternEntry, f_hasPattern, f_tooLarge, f_level, f_groups, f_atomStart, f_atomEntry, f_choices, f_wayPiece, f_wayPlace, f_wayNotes, f_hasResult, f_resultStart, f_resultEnd, f_resultNotes, a_tokenKind, a_tokenValue, a_text, a_pieceKind, a_pieceValue, a_pieceNext, a_pieceSecond, a_levelGroup, a_levelStart, a_levelEntry, a_branchStart, a_branchEntry, a_placesSeen, a_choicePiece, a_choicePlace, a_choiceNotes) => match v with
    | (g_count, g_place, g_end, g_size, g_large, g_ready, g_depth, g_groups, g_atom, g_atomSize, g_length, g_found, b_kind, b_value, b_op, b_with, b_one, b_two, b_copyOp, b_copyWith, b_copyOne, b_copyTwo, b_opened, b_branch, b_sizes, b_jumps, b_groupOf, b_text, b_met, b_todo, b_notes) => rl_R f_tokens f_faultPlace f_length f_pieces f_patternEntry f_hasPattern f_tooLarge f_level f_groups f_atomStart f_atomEntry f_choices f_wayPiece f_wayPlace f_wayNotes f_hasResult f_resultStart f_resultEnd f_resultNotes a_tokenKind a_tokenValue a_text a_pieceKind a_pieceValue a_pieceNext a_pieceSecond a_levelGroup a_levelStart a_levelEntry a_branchStart a_branchEntry a_placesSeen a_choicePiece a_choicePlace a_choiceNotes g_count g_place g_end g_size g_large g_ready g_depth g_groups g_atom g_atomSize g_length g_found b_kind b_value b_op b_with b_one b_two b_copyOp b_copyWith b_copyOne b_copyTwo b_opened b_branch b_sizes b_jumps b_groupOf b_text b_met b_todo b_notes
theorem i_up {k : Nat} {u : SX} {v : SY} (h : i_Rel k u v) : i_Rel (k + 3) u v := h
theorem rl_B0 : rl_B (fun _ => 0) := fun _ => by show vp_nar .byte 0 = 0; rw [vp_nar_byte]; decide
theorem rl_S0 : rl_S (fun _ => 0) := fun _ => by show vp_nar .short 0 = 0; rw [vp_nar_short]; decide
theorem i_vc0 : wpX_init (fun u => wpY_init (fun v => i_Rel 0 u v)) :=
  ⟨0, 0, by omega, rfl, rfl, rfl, fun j hj => by omega, rfl, by omega, rfl, rfl, rfl, rfl, Or.inl rfl, rfl, Or.inl rfl, rl_B0, rl_B0, rl_S0, rl_S0⟩
/-! token -/
theorem tk_shr {n : Nat} (h : n < 2 ^ 31) : nI n >>> ((3 : Int32) &&& 31) = nI (n / 8) := pk_shrN h _ 3 (by decide)
theorem tk_and {n : Nat} (h : n < 2 ^ 31) : nI n &&& 7 = nI (n % 8) := pk_andN (by omega) 3 (by decide)
theorem tk_x14 {post : Int32 → Prop} {n : Nat} (h : n < 2 ^ 31) (h1 : n / 8 ≤ n % 8 → 1 ≤ n % 8 → n % 8 ≤ 4 → post 1) (h0 : ¬ (n / 8 ≤ n % 8 ∧ 1 ≤ n % 8 ∧ n % 8 ≤ 4) → post 0) : wpX_isValueOf post 14 (nI n) := by
  refine br_f (by decide) (br_f (by decide) (br_t rfl ?_))
  unfold wpX_leastTimes wpX_mostTimes
  rw [tk_shr h, tk_and h]
  exact br_f (nI_pos h) (pk_lt (n % 8) (n / 8) (fun e => h0 (by omega)) (fun e1 => pk_lt (n % 8) 1 (fun e => h0 (by omega)) (fun e2 => pk_lt 4 (n % 8) (fun e => h0 (by omega)) (fun e3 => h1 e1 e2 e3))))
theorem tk_y14 {A B : Prop} {n : Nat} (h : n < 2 ^ 31) (h1 : n / 8 ≤ n % 8 → 1 ≤ n % 8 → n % 8 ≤ 4 → B) (h0 : ¬ (n / 8 ≤ n % 8 ∧ 1 ≤ n % 8 ∧ n % 8 ≤ 4) → A) :
    (nI n < 0 → A) ∧ (¬ nI n < 0 → (((36 : Int32) < nI n → A) ∧ (¬ (36 : Int32) < nI n → (¬ (8 : Int32) = 0 ∧ (((4 : Int32) < (nI n - nI n / 8 * 8) → A) ∧ (¬ (4 : Int32) < (nI n - nI n / 8 * 8) → (¬ (8 : Int32) = 0 ∧ (((nI n - nI n / 8 * 8) < 1 → A) ∧ (¬ (nI n - nI n / 8 * 8) < 1 → (¬ (8 : Int32) = 0 ∧ (¬ (8 : Int32) = 0 ∧ (((nI n / 8) ≤ (nI n - nI n / 8 * 8) → B) ∧ (¬ (nI n / 8) ≤ (nI n - nI n / 8 * 8) → A))))))))))))) := by
  have e1 : nI n - nI n / 8 * 8 = nI (n % 8) := pk_rem h (d := 8) (by omega) (by omega)
  have e2 : nI n / 8 = nI (n / 8) := pk_div h (d := 8) (by omega) (by omega)
  have z : ¬ (8 : Int32) = 0 := by decide
  rw [e1, e2]
  exact br_f (nI_pos h) (pk_lt 36 n (fun e => h0 (by omega)) (fun e0 => ⟨z, pk_lt 4 (n % 8) (fun e => h0 (by omega)) (fun e1 => ⟨z, pk_lt (n % 8) 1 (fun e => h0 (by omega)) (fun e2 => ⟨z, z, pk_le (n / 8) (n % 8) (fun e => h1 e e2 e1) (fun e => h0 (by omega))⟩)⟩)⟩))
section
variable {g_count g_place g_end g_size g_large g_ready g_depth g_groups g_atom g_atomSize g_length g_found : Int32} {b_kind b_value b_op b_with b_one b_two b_copyOp b_copyWith b_copyOne b_copyTwo b_opened b_branch b_sizes b_jumps b_groupOf b_text : Nat → Int32} {b_met : Nat → Int64} {b_todo b_notes : Nat → Int32}
/-- is the value one of the kind's? both sides say the same -/
theorem tk_val (kk : Nat) (hk : kk ≤ 15) (v : Int32) (hc : ¬ g_count = 24) :
    ((∀ post : Int32 → Prop, post 1 → wpX_isValueOf post (nI kk) v) ∧ (∀ post : Int32 → SY → Prop, wY_token_97 post (nI kk) v g_count g_place g_end g_size g_large g_ready g_depth g_groups g_atom g_atomSize g_length g_found b_kind b_value b_op b_with b_one b_two b_copyOp b_copyWith b_copyOne b_copyTwo b_opened b_branch b_sizes b_jumps b_groupOf b_text b_met b_todo b_notes → wpY_token post (g_count, g_place, g_end, g_size, g_large, g_ready, g_depth, g_groups, g_atom, g_atomSize, g_length, g_found, b_kind, b_value, b_op, b_with, b_one, b_two, b_copyOp, b_copyWith, b_copyOne, b_copyTwo, b_opened, b_branch, b_sizes, b_jumps, b_groupOf, b_text, b_met, b_todo, b_notes) (nI kk) v) ∧ rl_tok (nI kk) v (vp_nar .byte v.toInt8.toInt32)) ∨
    ((∀ post : Int32 → Prop, post 0 → wpX_isValueOf post (nI kk) v) ∧ (∀ post : Int32 → SY → Prop, post 0 (g_count, g_place, g_end, g_size, g_large, g_ready, g_depth, g_groups, g_atom, g_atomSize, g_length, g_found, b_kind, b_value, b_op, b_with, b_one, b_two, b_copyOp, b_copyWith, b_copyOne, b_copyTwo, b_opened, b_branch, b_sizes, b_jumps, b_groupOf, b_text, b_met, b_todo, b_notes) → wpY_token post (g_count, g_place, g_end, g_size, g_large, g_ready, g_depth, g_groups, g_atom, g_atomSize, g_length, g_found, b_kind, b_value, b_op, b_with, b_one, b_two, b_copyOp, b_copyWith, b_copyOne, b_copyTwo, b_opened, b_branch, b_sizes, b_jumps, b_groupOf, b_text, b_met, b_todo, b_notes) (nI kk) v)) := by
  have k0 : ¬ nI kk < 0 := nI_pos (by omega)
  have k15 : ¬ (15 : Int32) < nI kk := nI_nlt (a := 15) (by omega) (by omega)
  by_cases h0 : kk = 0
  · subst h0
    by_cases hv : v < 0
    · exact Or.inr ⟨fun post h => br_t rfl (br_t hv h), fun post h => br_f k0 (br_f k15 (br_f hc (br_t rfl (br_t hv h))))⟩
    · by_cases hv3 : 3 < v
      · exact Or.inr ⟨fun post h => br_t rfl (br_f hv (br_t hv3 h)), fun post h => br_f k0 (br_f k15 (br_f hc (br_t rfl (br_f hv (br_t hv3 h)))))⟩
      · obtain ⟨j, hj, rfl⟩ := nI_of hv
        have hj3 : j ≤ 3 := by
          rw [show (3 : Int32) = nI 3 from rfl, nI_ltI (by omega) hj] at hv3; omega
        refine Or.inl ⟨fun post h => br_t rfl (br_f hv (br_f hv3 h)), fun post h => br_f k0 (br_f k15 (br_f hc (br_t rfl (br_f hv (br_f hv3 (br_f (show ¬ (0 : Int32) = 2 by decide) (br_f (show ¬ (0 : Int32) = 14 by decide) h))))))), 0, by omega, rfl, fun _ => ⟨j, hj3, rfl, ym_nb (by omega)⟩, fun h => by omega, fun h => by omega⟩
  · have n0 : ¬ nI kk = 0 := nI_ne0 (by omega) (by omega)
    by_cases h2 : kk = 2
    · subst h2
      by_cases hv : v < 1
      · exact Or.inr ⟨fun post h => br_f n0 (br_t rfl (br_t hv h)), fun post h => br_f k0 (br_f k15 (br_f hc (br_f n0 (br_t rfl (br_t hv h)))))⟩
      · by_cases hv3 : 15 < v
        · exact Or.inr ⟨fun post h => br_f n0 (br_t rfl (br_f hv (br_t hv3 h))), fun post h => br_f k0 (br_f k15 (br_f hc (br_f n0 (br_t rfl (br_f hv (br_f (Int32.not_le.mpr hv3) h))))))⟩
        · have hv0 : ¬ v < 0 := fun h => hv (Int32.lt_of_lt_of_le h (by decide))
          obtain ⟨j, hj, rfl⟩ := nI_of hv0
          have hj3 : j ≤ 15 := by
            rw [show (15 : Int32) = nI 15 from rfl, nI_ltI (by omega) hj] at hv3; omega
          have hj1 : 1 ≤ j := by
            rw [show (1 : Int32) = nI 1 from rfl, nI_ltI hj (by omega)] at hv; omega
          refine Or.inl ⟨fun post h => br_f n0 (br_t rfl (br_f hv (br_f hv3 h))), fun post h => br_f k0 (br_f k15 (br_f hc (br_f n0 (br_t rfl (br_f hv (br_t (Int32.not_lt.mp hv3) (br_f (show ¬ (2 : Int32) = 14 by decide) h))))))), 2, by omega, rfl, fun h => by omega, fun _ => ⟨j, hj1, hj3, rfl, ym_nb (by omega)⟩, fun h => by omega⟩
    · have n2 : ¬ nI kk = 2 := fun h => h2 ((nI_eq (b := 2) (by omega) (by omega)).mp h)
      by_cases h14 : kk = 14
      · subst h14
        by_cases hv : v < 0
        · refine Or.inr ⟨fun post h => br_f n0 (br_f n2 (br_t rfl ?_)), fun post h => br_f k0 (br_f k15 (br_f hc (br_f n0 (br_f n2 (br_t rfl (br_t hv h))))))⟩
          unfold wpX_leastTimes wpX_mostTimes
          exact br_t hv h
        · obtain ⟨j, hj, rfl⟩ := nI_of hv
          by_cases ok : j / 8 ≤ j % 8 ∧ 1 ≤ j % 8 ∧ j % 8 ≤ 4
          · refine Or.inl ⟨fun post h => tk_x14 hj (fun _ _ _ => h) (fun e => absurd ok e), fun post h => br_f k0 (br_f k15 (br_f hc (br_f n0 (br_f n2 (br_t rfl (tk_y14 hj (fun _ _ _ => h) (fun e => absurd ok e))))))), 14, by omega, rfl, fun h => by omega, fun h => by omega, fun _ => ⟨j / 8, j % 8, ?_, ?_, by omega⟩⟩
            · congr 1; omega
            · rw [ym_nb (by omega)]; congr 1; omega
          · exact Or.inr ⟨fun post h => tk_x14 hj (fun e1 e2 e3 => absurd ⟨e1, e2, e3⟩ ok) (fun _ => h), fun post h => br_f k0 (br_f k15 (br_f hc (br_f n0 (br_f n2 (br_t rfl (tk_y14 hj (fun e1 e2 e3 => absurd ⟨e1, e2, e3⟩ ok) (fun _ => h)))))))⟩
      · have n14 : ¬ nI kk = 14 := fun h => h14 ((nI_eq (b := 14) (by omega) (by omega)).mp h)
        exact Or.inl ⟨fun post h => br_f n0 (br_f n2 (br_f n14 h)), fun post h => br_f k0 (br_f k15 (br_f hc (br_f n0 (br_f n2 (br_f n14 h))))), kk, hk, rfl, fun h => by omega, fun h => by omega, fun h => by omega⟩
end
end RL
