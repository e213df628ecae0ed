section XRep
theorem yq_P1 (A : Nat) : yq_P 0 0 1 A = 1 := by unfold yq_P; omega
theorem yq_P2 (A : Nat) : yq_P 1 0 1 A = A + 1 := by unfold yq_P; omega
theorem yq_P3 (A : Nat) : yq_P 0 1 0 A = 1 := by unfold yq_P; omega
theorem xr_lt (n : Nat) : nI n >>> ((3 : Int32) &&& 31) = nI n >>> ((3 : Int32) &&& 31) := rfl
variable {f_tokens f_faultPlace f_length f_pieces f_patternEntry f_hasPattern f_tooLarge f_level f_groups f_atomStart f_atomEntry f_choices f_wayPiece f_wayPlace : Int32} {f_wayNotes : Int64} {f_hasResult f_resultStart f_resultEnd : Int32} {f_resultNotes : Int64} {a_tokenKind a_tokenValue a_text a_pieceKind a_pieceValue a_pieceNext a_pieceSecond a_levelGroup a_levelStart a_levelEntry a_branchStart a_branchEntry : Nat → Int32} {a_placesSeen : Nat → Int64} {a_choicePiece a_choicePlace : Nat → Int32} {a_choiceNotes : Nat → Int64}
theorem xr_star {kk a A : Nat} {v lz : Int32} (hz : lz = 0 ∨ lz = 1) (hkz : (kk = 7 ∧ lz = 0) ∨ (kk = 10 ∧ lz = 1)) (hp : a + A + 1 ≤ 36) (hv : cq_v (a + A) f_atomEntry) (hm : f_atomEntry = -1 → a = a + A) :
    ∃ (K V N S : Nat → Int32) (ae' : Int32), (∀ p, p < a → fg_q K V N S p = fg_q a_pieceKind a_pieceValue a_pieceNext a_pieceSecond p) ∧ cq_v (a + A + 1) ae' ∧ (ae' = -1 → a = a + A + 1) ∧
      (∀ (m m' : Nat → fg_I) (o n : Nat), fg_F m (fg_q a_pieceKind a_pieceValue a_pieceNext a_pieceSecond) o (o + n) a (a + A) f_atomEntry → yq_R kk o n 0 0 1 m m' → fg_F m' (fg_q K V N S) o (qf_at o n 0 (0 + 0) + 1 * (n + 2)) a (a + A + 1) ae') ∧
      (∀ post : SX → Prop, post (f_tokens, f_faultPlace, f_length, nI (a + A + 1), f_patternEntry, f_hasPattern, 0, f_level, f_groups, nI a, ae', f_choices, f_wayPiece, f_wayPlace, f_wayNotes, f_hasResult, f_resultStart, f_resultEnd, f_resultNotes, a_tokenKind, a_tokenValue, a_text, K, V, N, S, a_levelGroup, a_levelStart, a_levelEntry, a_branchStart, a_branchEntry, a_placesSeen, a_choicePiece, a_choicePlace, a_choiceNotes) → wpX_repeatAtom post (f_tokens, f_faultPlace, f_length, nI (a + A), f_patternEntry, f_hasPattern, 0, f_level, f_groups, nI a, f_atomEntry, f_choices, f_wayPiece, f_wayPlace, f_wayNotes, f_hasResult, f_resultStart, f_resultEnd, f_resultNotes, a_tokenKind, a_tokenValue, a_text, a_pieceKind, a_pieceValue, a_pieceNext, a_pieceSecond, a_levelGroup, a_levelStart, a_levelEntry, a_branchStart, a_branchEntry, a_placesSeen, a_choicePiece, a_choicePlace, a_choiceNotes) (nI kk) v) := by
  obtain ⟨K, V, N, S, s1, s2, s3, s4, s5⟩ := cx_starOK (f_tokens := f_tokens) (f_faultPlace := f_faultPlace) (f_length := f_length) (f_patternEntry := f_patternEntry) (f_hasPattern := f_hasPattern) (f_tooLarge := 0) (f_level := f_level) (f_groups := f_groups) (f_atomStart := nI a) (f_atomEntry := f_atomEntry) (f_choices := f_choices) (f_wayPiece := f_wayPiece) (f_wayPlace := f_wayPlace) (f_wayNotes := f_wayNotes) (f_hasResult := f_hasResult) (f_resultStart := f_resultStart) (f_resultEnd := f_resultEnd) (f_resultNotes := f_resultNotes) (a_tokenKind := a_tokenKind) (a_tokenValue := a_tokenValue) (a_text := a_text) (a_pieceKind := a_pieceKind) (a_pieceValue := a_pieceValue) (a_pieceNext := a_pieceNext) (a_pieceSecond := a_pieceSecond) (a_levelGroup := a_levelGroup) (a_levelStart := a_levelStart) (a_levelEntry := a_levelEntry) (a_branchStart := a_branchStart) (a_branchEntry := a_branchEntry) (a_placesSeen := a_placesSeen) (a_choicePiece := a_choicePiece) (a_choicePlace := a_choicePlace) (a_choiceNotes := a_choiceNotes) (pc := a + A) (s := a) (en := f_atomEntry) hz (by omega) (by omega)
  refine ⟨K, V, N, S, nI (a + A), fun p hp' => s2 p hp', Or.inr ⟨a + A, by omega, rfl⟩, fun h => absurd h (fg_ne (by omega)), fun m m' o n hF hR => ?_, fun post h => ?_⟩
  · obtain ⟨r1, r2, r3, r4⟩ := hR
    obtain ⟨q1, q2, q3⟩ := r4 rfl
    rw [show qf_at o n 0 (0 + 0) = o from qf_at_0 o n 0] at q1 q2 q3 ⊢
    rw [show o + 1 * (n + 2) = o + n + 2 by omega]
    refine qf_star hF (by omega) q1 ?_ q3 s1 s3 s4
    rcases hkz with ⟨k1, k2⟩ | ⟨k1, k2⟩
    · rcases q2 with ⟨_, q⟩ | ⟨q, _⟩
      · exact Or.inl ⟨k2, q⟩
      · omega
    · rcases q2 with ⟨q, _⟩ | ⟨_, q⟩
      · omega
      · exact Or.inr ⟨k2, q⟩
  · rcases hkz with ⟨k1, k2⟩ | ⟨k1, k2⟩
    · subst k1 k2
      refine br_f (by decide) (br_f (by decide) (br_t rfl (br_f (by decide) ?_)))
      unfold wX_repeatAtom_61
      exact s5 _ h
    · subst k1 k2
      refine br_f (by decide) (br_f (by decide) (br_f (by decide) (br_f (by decide) (br_f (by decide) (br_t rfl (br_t rfl ?_))))))
      unfold wX_repeatAtom_61
      exact s5 _ h
theorem xr_plus {kk a A : Nat} {v lz : Int32} (hz : lz = 0 ∨ lz = 1) (hkz : (kk = 8 ∧ lz = 0) ∨ (kk = 11 ∧ lz = 1)) (hp : a + A + (A + 1) ≤ 36) (hv : cq_v (a + A) f_atomEntry) (hm : f_atomEntry = -1 → a = a + A) :
    ∃ (K V N S : Nat → Int32) (ae' : Int32), (∀ p, p < a → fg_q K V N S p = fg_q a_pieceKind a_pieceValue a_pieceNext a_pieceSecond p) ∧ cq_v (a + A + (A + 1)) ae' ∧ (ae' = -1 → a = a + A + (A + 1)) ∧
      (∀ (m m' : Nat → fg_I) (o n : Nat), fg_F m (fg_q a_pieceKind a_pieceValue a_pieceNext a_pieceSecond) o (o + n) a (a + A) f_atomEntry → yq_R kk o n 1 0 1 m m' → fg_F m' (fg_q K V N S) o (qf_at o n 1 (1 + 0) + 1 * (n + 2)) a (a + A + (A + 1)) ae') ∧
      (∀ post : SX → Prop, post (f_tokens, f_faultPlace, f_length, nI (a + A + (A + 1)), f_patternEntry, f_hasPattern, 0, f_level, f_groups, nI a, ae', f_choices, f_wayPiece, f_wayPlace, f_wayNotes, f_hasResult, f_resultStart, f_resultEnd, f_resultNotes, a_tokenKind, a_tokenValue, a_text, K, V, N, S, a_levelGroup, a_levelStart, a_levelEntry, a_branchStart, a_branchEntry, a_placesSeen, a_choicePiece, a_choicePlace, a_choiceNotes) → wpX_repeatAtom post (f_tokens, f_faultPlace, f_length, nI (a + A), f_patternEntry, f_hasPattern, 0, f_level, f_groups, nI a, f_atomEntry, f_choices, f_wayPiece, f_wayPlace, f_wayNotes, f_hasResult, f_resultStart, f_resultEnd, f_resultNotes, a_tokenKind, a_tokenValue, a_text, a_pieceKind, a_pieceValue, a_pieceNext, a_pieceSecond, a_levelGroup, a_levelStart, a_levelEntry, a_branchStart, a_branchEntry, a_placesSeen, a_choicePiece, a_choicePlace, a_choiceNotes) (nI kk) v) := by
  obtain ⟨K, V, N, S, s1, s2, s3⟩ := xq_plusOK (f_tokens := f_tokens) (f_faultPlace := f_faultPlace) (f_length := f_length) (f_patternEntry := f_patternEntry) (f_hasPattern := f_hasPattern) (f_level := f_level) (f_groups := f_groups) (f_atomEntry := f_atomEntry) (f_choices := f_choices) (f_wayPiece := f_wayPiece) (f_wayPlace := f_wayPlace) (f_wayNotes := f_wayNotes) (f_hasResult := f_hasResult) (f_resultStart := f_resultStart) (f_resultEnd := f_resultEnd) (f_resultNotes := f_resultNotes) (a_tokenKind := a_tokenKind) (a_tokenValue := a_tokenValue) (a_text := a_text) (a_pieceKind := a_pieceKind) (a_pieceValue := a_pieceValue) (a_pieceNext := a_pieceNext) (a_pieceSecond := a_pieceSecond) (a_levelGroup := a_levelGroup) (a_levelStart := a_levelStart) (a_levelEntry := a_levelEntry) (a_branchStart := a_branchStart) (a_branchEntry := a_branchEntry) (a_placesSeen := a_placesSeen) (a_choicePiece := a_choicePiece) (a_choicePlace := a_choicePlace) (a_choiceNotes := a_choiceNotes) (a := a) (sz := A) hz (by omega)
  rw [show a + A + (A + 1) = a + A + A + 1 by omega]
  refine ⟨K, V, N, S, fg_mo (nI (a + A + A)) f_atomEntry, s1, ?_, ?_, fun m m' o n hF hR => ?_, fun post h => ?_⟩
  · exact cq_v_mo (Or.inr ⟨a + A + A, by omega, rfl⟩) (cq_v_up hv (by omega))
  · intro h
    exact absurd (cq_mo_m h).2 (fg_ne (by omega))
  · obtain ⟨r1, r2, r3, r4⟩ := hR
    obtain ⟨q1, q2, q3⟩ := r4 rfl
    have e0 : qf_at o n 1 (1 + 0) = o + n := by unfold qf_at; omega
    rw [e0] at q1 q2 q3 ⊢
    rw [show o + n + 1 * (n + 2) = o + n + n + 2 by omega]
    refine s2 m m' o n hF (fun j hj => ?_) q1 ?_ q3
    · have := r2 0 j (by omega) hj
      rw [show qf_ca o n 1 0 = o from by unfold qf_ca; rw [if_neg (by omega), qf_at_0, Nat.add_zero]] at this
      exact this
    · rcases hkz with ⟨k1, k2⟩ | ⟨k1, k2⟩
      · rcases q2 with ⟨_, q⟩ | ⟨q, _⟩
        · exact Or.inl ⟨k2, q⟩
        · omega
      · rcases q2 with ⟨q, _⟩ | ⟨_, q⟩
        · omega
        · exact Or.inr ⟨k2, q⟩
  · rcases hkz with ⟨k1, k2⟩ | ⟨k1, k2⟩
    · subst k1 k2
      refine br_f (by decide) (br_f (by decide) (br_f (by decide) (br_t rfl (br_f (by decide) ?_))))
      unfold wX_repeatAtom_82
      exact s3 _ h
    · subst k1 k2
      refine br_f (by decide) (br_f (by decide) (br_f (by decide) (br_f (by decide) (br_f (by decide) (br_f (by decide) (br_t rfl (br_t rfl ?_)))))))
      unfold wX_repeatAtom_82
      exact s3 _ h
theorem xr_OK {kk a A least opt st : Nat} {v : Int32} (hK : yq_K kk v least opt st) (hp : a + A + yq_P least opt st A ≤ 36) (hv : cq_v (a + A) f_atomEntry) (hm : f_atomEntry = -1 → a = a + A) :
    ∃ (K V N S : Nat → Int32) (ae' : Int32), (∀ p, p < a → fg_q K V N S p = fg_q a_pieceKind a_pieceValue a_pieceNext a_pieceSecond p) ∧ cq_v (a + A + yq_P least opt st A) ae' ∧ (ae' = -1 → a = a + A + yq_P least opt st A) ∧
      (∀ (m m' : Nat → fg_I) (o n : Nat), fg_F m (fg_q a_pieceKind a_pieceValue a_pieceNext a_pieceSecond) o (o + n) a (a + A) f_atomEntry → yq_R kk o n least opt st m m' → fg_F m' (fg_q K V N S) o (qf_at o n least (least + opt) + st * (n + 2)) a (a + A + yq_P least opt st A) ae') ∧
      (∀ post : SX → Prop, post (f_tokens, f_faultPlace, f_length, nI (a + A + yq_P least opt st A), f_patternEntry, f_hasPattern, 0, f_level, f_groups, nI a, ae', f_choices, f_wayPiece, f_wayPlace, f_wayNotes, f_hasResult, f_resultStart, f_resultEnd, f_resultNotes, a_tokenKind, a_tokenValue, a_text, K, V, N, S, a_levelGroup, a_levelStart, a_levelEntry, a_branchStart, a_branchEntry, a_placesSeen, a_choicePiece, a_choicePlace, a_choiceNotes) → wpX_repeatAtom post (f_tokens, f_faultPlace, f_length, nI (a + A), f_patternEntry, f_hasPattern, 0, f_level, f_groups, nI a, f_atomEntry, f_choices, f_wayPiece, f_wayPlace, f_wayNotes, f_hasResult, f_resultStart, f_resultEnd, f_resultNotes, a_tokenKind, a_tokenValue, a_text, a_pieceKind, a_pieceValue, a_pieceNext, a_pieceSecond, a_levelGroup, a_levelStart, a_levelEntry, a_branchStart, a_branchEntry, a_placesSeen, a_choicePiece, a_choicePlace, a_choiceNotes) (nI kk) v) := by
  rcases hK with ⟨k1, h1, h2, h3⟩ | ⟨k1, h1, h2, h3⟩ | ⟨k1, h1, h2, h3⟩ | ⟨k1, h1, h2, h3⟩ | ⟨k1, h1, h2, h3⟩ | ⟨k1, h1, h2, h3⟩ | ⟨k1, h1, h2, h3, h4, h5⟩
  · subst h1 h2 h3
    rw [yq_P1] at hp ⊢
    exact xr_star (Or.inl rfl) (Or.inl ⟨k1, rfl⟩) hp hv hm
  · subst h1 h2 h3
    rw [yq_P2] at hp ⊢
    exact xr_plus (Or.inl rfl) (Or.inl ⟨k1, rfl⟩) hp hv hm
  · subst k1 h1 h2 h3
    rw [yq_P3] at hp ⊢
    refine ⟨upd a_pieceKind (a + A) 4, upd a_pieceValue (a + A) 0, upd a_pieceNext (a + A) f_atomEntry, upd a_pieceSecond (a + A) (-1), nI (a + A), fun p hp' => fg_q_un (by omega), Or.inr ⟨a + A, by omega, rfl⟩, fun h => absurd h (fg_ne (by omega)), fun m m' o n hF hR => ?_, fun post h => ?_⟩
    · obtain ⟨r1, r2, r3, r4⟩ := hR
      have e0 : qf_at o n 0 (0 + 1) = o + n + 1 := by unfold qf_at; omega
      have r3' := r3 0 (by omega) (by omega)
      rw [e0, qf_at_0] at r3'
      rw [e0, Nat.zero_mul, Nat.add_zero]
      refine qf_opt (lz := 0) hF (by omega) (fun j hj => ?_) (Or.inl ⟨rfl, ?_⟩) (fun p _ hp' => fg_q_un (by omega)) (by rw [fg_q_us]) (Or.inl ⟨rfl, by rw [fg_q_us]⟩)
      · have := r2 0 j (by omega) hj
        rw [show qf_ca o n 0 0 = o + 1 from by unfold qf_ca; rw [if_pos (by omega), qf_at_0]] at this
        exact this
      · rcases r3' with ⟨q, _⟩ | ⟨_, q⟩
        · omega
        · exact q
    · refine br_f (by decide) (br_f (by decide) (br_f (by decide) (br_f (by decide) (br_t rfl ?_))))
      exact cx_add (by omega) h
  · subst h1 h2 h3
    rw [yq_P1] at hp ⊢
    exact xr_star (Or.inr rfl) (Or.inr ⟨k1, rfl⟩) hp hv hm
  · subst h1 h2 h3
    rw [yq_P2] at hp ⊢
    exact xr_plus (Or.inr rfl) (Or.inr ⟨k1, rfl⟩) hp hv hm
  · subst k1 h1 h2 h3
    rw [yq_P3] at hp ⊢
    refine ⟨upd a_pieceKind (a + A) 4, upd a_pieceValue (a + A) 0, upd a_pieceNext (a + A) (-1), upd a_pieceSecond (a + A) f_atomEntry, nI (a + A), fun p hp' => fg_q_un (by omega), Or.inr ⟨a + A, by omega, rfl⟩, fun h => absurd h (fg_ne (by omega)), fun m m' o n hF hR => ?_, fun post h => ?_⟩
    · obtain ⟨r1, r2, r3, r4⟩ := hR
      have e0 : qf_at o n 0 (0 + 1) = o + n + 1 := by unfold qf_at; omega
      have r3' := r3 0 (by omega) (by omega)
      rw [e0, qf_at_0] at r3'
      rw [e0, Nat.zero_mul, Nat.add_zero]
      refine qf_opt (lz := 1) hF (by omega) (fun j hj => ?_) (Or.inr ⟨rfl, ?_⟩) (fun p _ hp' => fg_q_un (by omega)) (by rw [fg_q_us]) (Or.inr ⟨rfl, by rw [fg_q_us]⟩)
      · have := r2 0 j (by omega) hj
        rw [show qf_ca o n 0 0 = o + 1 from by unfold qf_ca; rw [if_pos (by omega), qf_at_0]] at this
        exact this
      · rcases r3' with ⟨_, q⟩ | ⟨q, _⟩
        · exact q
        · exact absurd rfl q
    · refine br_f (by decide) (br_f (by decide) (br_f (by decide) (br_f (by decide) (br_f (by decide) (br_f (by decide) (br_f (by decide) (br_t rfl ?_)))))))
      exact cx_add (by omega) h
  · subst k1 h1
    have eP : a + A + yq_P least opt 0 A = a + (least + opt) * A + (least + opt - least) := by
      have := yq_P_le (least := least) (opt := opt) (st := 0) (A := A) (by omega)
      unfold yq_P
      simp only [Nat.add_zero] at this ⊢
      omega
    rw [eP] at hp ⊢
    obtain ⟨K, V, N, S, b, s1, s2, s3, s4⟩ := xq_cntOK (f_tokens := f_tokens) (f_faultPlace := f_faultPlace) (f_length := f_length) (f_patternEntry := f_patternEntry) (f_hasPattern := f_hasPattern) (f_level := f_level) (f_groups := f_groups) (f_atomEntry := f_atomEntry) (f_choices := f_choices) (f_wayPiece := f_wayPiece) (f_wayPlace := f_wayPlace) (f_wayNotes := f_wayNotes) (f_hasResult := f_hasResult) (f_resultStart := f_resultStart) (f_resultEnd := f_resultEnd) (f_resultNotes := f_resultNotes) (a_tokenKind := a_tokenKind) (a_tokenValue := a_tokenValue) (a_text := a_text) (a_pieceKind := a_pieceKind) (a_pieceValue := a_pieceValue) (a_pieceNext := a_pieceNext) (a_pieceSecond := a_pieceSecond) (a_levelGroup := a_levelGroup) (a_levelStart := a_levelStart) (a_levelEntry := a_levelEntry) (a_branchStart := a_branchStart) (a_branchEntry := a_branchEntry) (a_placesSeen := a_placesSeen) (a_choicePiece := a_choicePiece) (a_choicePlace := a_choicePlace) (a_choiceNotes := a_choiceNotes) (a := a) (sz := A) (least := least) (most := least + opt) (by omega) h3 h4 hp
    obtain ⟨v1, v2⟩ := s3 hv
    refine ⟨K, V, N, S, b, s1, v1, fun h => ?_, fun m m' o n hF hR => ?_, fun post h => ?_⟩
    · obtain ⟨y1, y2⟩ := v2 h
      have hA : A = 0 := by have := hm y1; omega
      rw [hA, Nat.mul_zero]; omega
    · obtain ⟨r1, r2, r3, r4⟩ := hR
      rw [Nat.zero_mul, Nat.add_zero]
      refine s2 m m' o n hF r2 (fun c hc hlc => ?_)
      rcases r3 c hc hlc with ⟨q, _⟩ | ⟨_, q⟩
      · omega
      · exact q
    · have e1 : v >>> ((3 : Int32) &&& 31) = nI least := by
        rw [h5, tk_shr (by omega)]; congr 1; omega
      have e2 : v &&& 7 = nI (least + opt) := by
        rw [h5, tk_and (by omega)]; congr 1; omega
      refine br_f (by decide) (br_t (by decide) ?_)
      unfold wpX_leastTimes wpX_mostTimes
      rw [e1, e2]
      exact s4 _ h
theorem xr_L {post : SX → Prop} {kk a A least opt st : Nat} {v : Int32} (hK : yq_K kk v least opt st) (hp0 : a + A ≤ 36) (hp : 36 < a + A + yq_P least opt st A)
    (h : ∀ (pc : Nat) (ae : Int32) (K V N S : Nat → Int32), pc ≤ 36 → post (f_tokens, f_faultPlace, f_length, nI pc, f_patternEntry, f_hasPattern, 1, f_level, f_groups, nI a, ae, f_choices, f_wayPiece, f_wayPlace, f_wayNotes, f_hasResult, f_resultStart, f_resultEnd, f_resultNotes, a_tokenKind, a_tokenValue, a_text, K, V, N, S, a_levelGroup, a_levelStart, a_levelEntry, a_branchStart, a_branchEntry, a_placesSeen, a_choicePiece, a_choicePlace, a_choiceNotes)) : wpX_repeatAtom post (f_tokens, f_faultPlace, f_length, nI (a + A), f_patternEntry, f_hasPattern, 0, f_level, f_groups, nI a, f_atomEntry, f_choices, f_wayPiece, f_wayPlace, f_wayNotes, f_hasResult, f_resultStart, f_resultEnd, f_resultNotes, a_tokenKind, a_tokenValue, a_text, a_pieceKind, a_pieceValue, a_pieceNext, a_pieceSecond, a_levelGroup, a_levelStart, a_levelEntry, a_branchStart, a_branchEntry, a_placesSeen, a_choicePiece, a_choicePlace, a_choiceNotes) (nI kk) v := by
  rcases hK with ⟨k1, h1, h2, h3⟩ | ⟨k1, h1, h2, h3⟩ | ⟨k1, h1, h2, h3⟩ | ⟨k1, h1, h2, h3⟩ | ⟨k1, h1, h2, h3⟩ | ⟨k1, h1, h2, h3⟩ | ⟨k1, h1, h2, h3, h4, h5⟩
  · subst k1 h1 h2 h3
    rw [yq_P1] at hp
    rw [show a + A = 36 by omega]
    refine br_f (by decide) (br_f (by decide) (br_t rfl (br_f (by decide) ?_)))
    unfold wX_repeatAtom_61
    exact cx_starL (by omega) (fun N S => h 36 _ _ _ _ _ (by omega))
  · subst k1 h1 h2 h3
    rw [yq_P2] at hp
    refine br_f (by decide) (br_f (by decide) (br_f (by decide) (br_t rfl (br_f (by decide) ?_))))
    unfold wX_repeatAtom_82
    exact xq_plusL hp0 (by omega) (fun pc ae K V N S hp' => h pc ae K V N S hp')
  · subst k1 h1 h2 h3
    rw [yq_P3] at hp
    rw [show a + A = 36 by omega]
    refine br_f (by decide) (br_f (by decide) (br_f (by decide) (br_f (by decide) (br_t rfl ?_))))
    exact cx_add0 (pc := 36) (by omega) (by omega) (h 36 _ _ _ _ _ (by omega))
  · subst k1 h1 h2 h3
    rw [yq_P1] at hp
    rw [show a + A = 36 by omega]
    refine br_f (by decide) (br_f (by decide) (br_f (by decide) (br_f (by decide) (br_f (by decide) (br_t rfl (br_t rfl ?_))))))
    unfold wX_repeatAtom_61
    exact cx_starL (by omega) (fun N S => h 36 _ _ _ _ _ (by omega))
  · subst k1 h1 h2 h3
    rw [yq_P2] at hp
    refine br_f (by decide) (br_f (by decide) (br_f (by decide) (br_f (by decide) (br_f (by decide) (br_f (by decide) (br_t rfl (br_t rfl ?_)))))))
    unfold wX_repeatAtom_82
    exact xq_plusL hp0 (by omega) (fun pc ae K V N S hp' => h pc ae K V N S hp')
  · subst k1 h1 h2 h3
    rw [yq_P3] at hp
    rw [show a + A = 36 by omega]
    refine br_f (by decide) (br_f (by decide) (br_f (by decide) (br_f (by decide) (br_f (by decide) (br_f (by decide) (br_f (by decide) (br_t rfl ?_)))))))
    exact cx_add0 (pc := 36) (by omega) (by omega) (h 36 _ _ _ _ _ (by omega))
  · subst k1 h1
    have eP : a + A + yq_P least opt 0 A = a + (least + opt) * A + (least + opt - least) := by
      have := yq_P_le (least := least) (opt := opt) (st := 0) (A := A) (by omega)
      unfold yq_P
      simp only [Nat.add_zero] at this ⊢
      omega
    rw [eP] at hp
    have e1 : v >>> ((3 : Int32) &&& 31) = nI least := by
      rw [h5, tk_shr (by omega)]; congr 1; omega
    have e2 : v &&& 7 = nI (least + opt) := by
      rw [h5, tk_and (by omega)]; congr 1; omega
    refine br_f (by decide) (br_t (by decide) ?_)
    unfold wpX_leastTimes wpX_mostTimes
    rw [e1, e2]
    exact xq_cntL (by omega) h3 h4 hp0 hp (fun pc ae K V N S hp' => h pc ae K V N S hp')
end XRep
