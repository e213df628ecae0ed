section XR
variable {f_tokens f_faultPlace f_length f_pieces f_patternEntry f_hasPattern f_tooLarge f_level f_groups f_atomStart f_atomEntry f_choices f_wayPiece f_wayPlace : Int32} {f_wayNotes : Int64} {f_hasResult f_resultStart f_resultEnd : Int32} {f_resultNotes : Int64} {a_tokenKind a_tokenValue a_text a_pieceKind a_pieceValue a_pieceNext a_pieceSecond a_levelGroup a_levelStart a_levelEntry a_branchStart a_branchEntry : Nat → Int32} {a_placesSeen : Nat → Int64} {a_choicePiece a_choicePlace : Nat → Int32} {a_choiceNotes : Nat → Int64}
theorem xq_e1 {a c sz : Nat} : nI a + nI c * nI sz = nI (a + c * sz) := by rw [pk_mul, nI_add]
theorem xq_loop {a sz least : Nat} (hl4 : least ≤ 4) (ae : Int32) : ∀ (c pc : Nat) (b : Int32) (K V N S : Nat → Int32), a + c * sz ≤ pc → pc + (c - least) ≤ 36 → c ≤ 4 →
    ∃ (K' V' N' S' : Nat → Int32) (b' : Int32), (∀ p, p < a → fg_q K' V' N' S' p = fg_q K V N S p) ∧
      (∀ (m' : Nat → fg_I) (o n E : Nat), (ae = -1 ∨ ∃ q, q < 1000 ∧ ae = nI q) → fg_F m' (fg_q K V N S) (qf_at o n least c) E (a + c * sz) pc b →
        (∀ c', c' < c → fg_F m' (fg_q K V N S) (qf_ca o n least c') (qf_ca o n least c' + n) (a + c' * sz) (a + (c' + 1) * sz) (fg_mv (c' * sz) ae)) →
        (∀ c', c' < c → least ≤ c' → qf_S m' (qf_at o n least c') (qf_at o n least c' + 1) E) → fg_F m' (fg_q K' V' N' S') o E a (pc + (c - least)) b') ∧
      (cq_v (a + sz) ae → cq_v pc b → cq_v (pc + (c - least)) b' ∧ (b' = -1 → (ae = -1 ∨ c = 0) ∧ c ≤ least ∧ b = -1)) ∧
      (∀ post : SX → Prop, post (f_tokens, f_faultPlace, f_length, nI (pc + (c - least)), f_patternEntry, f_hasPattern, f_tooLarge, f_level, f_groups, nI a, b', f_choices, f_wayPiece, f_wayPlace, f_wayNotes, f_hasResult, f_resultStart, f_resultEnd, f_resultNotes, a_tokenKind, a_tokenValue, a_text, K', V', N', S', a_levelGroup, a_levelStart, a_levelEntry, a_branchStart, a_branchEntry, a_placesSeen, a_choicePiece, a_choicePlace, a_choiceNotes) → wX_repeatCounted_34 post (nI least) (nI sz) (c + 1) b (nI c - 1) f_tokens f_faultPlace f_length (nI pc) f_patternEntry f_hasPattern f_tooLarge f_level f_groups (nI a) ae f_choices f_wayPiece f_wayPlace f_wayNotes f_hasResult f_resultStart f_resultEnd f_resultNotes a_tokenKind a_tokenValue a_text K V N S a_levelGroup a_levelStart a_levelEntry a_branchStart a_branchEntry a_placesSeen a_choicePiece a_choicePlace a_choiceNotes) := by
  intro c
  induction c with
  | zero =>
    intro pc b K V N S h1 h2 _
    refine ⟨K, V, N, S, b, fun _ _ => rfl, fun m' o n E _ hF _ _ => ?_, fun _ hb => ⟨by rw [Nat.zero_sub, Nat.add_zero]; exact hb, fun h => ⟨Or.inr rfl, Nat.zero_le _, h⟩⟩, fun post h => ?_⟩
    · rw [qf_at_0, Nat.zero_mul, Nat.add_zero] at hF
      rw [Nat.zero_sub, Nat.add_zero]
      exact hF
    · rw [Nat.zero_sub, Nat.add_zero] at h
      exact br_t (by decide) h
  | succ c ih =>
    intro pc b K V N S h1 h2 h3
    have e1 : (c + 1) * sz = c * sz + sz := Nat.succ_mul c sz
    have hle : ∀ c', c' < c → (c' + 1) * sz ≤ c * sz := fun c' hc => Nat.mul_le_mul_right sz hc
    have key : ∀ (post : SX → Prop) (C : Prop), (C → wX_repeatCounted_81 post (wX_repeatCounted_34 post (nI least) (nI sz) (c + 1)) (nI least) (nI sz) (qf_en ae sz c b) (nI c) f_tokens f_faultPlace f_length (nI pc) f_patternEntry f_hasPattern f_tooLarge f_level f_groups (nI a) ae f_choices f_wayPiece f_wayPlace f_wayNotes f_hasResult f_resultStart f_resultEnd f_resultNotes a_tokenKind a_tokenValue a_text K V (cx_lo N (a + c * sz) (a + c * sz + sz) b) (cx_lo S (a + c * sz) (a + c * sz + sz) b) a_levelGroup a_levelStart a_levelEntry a_branchStart a_branchEntry a_placesSeen a_choicePiece a_choicePlace a_choiceNotes) → C →
        wX_repeatCounted_34 post (nI least) (nI sz) (c + 1 + 1) b (nI (c + 1) - 1) f_tokens f_faultPlace f_length (nI pc) f_patternEntry f_hasPattern f_tooLarge f_level f_groups (nI a) ae f_choices f_wayPiece f_wayPlace f_wayNotes f_hasResult f_resultStart f_resultEnd f_resultNotes a_tokenKind a_tokenValue a_text K V N S a_levelGroup a_levelStart a_levelEntry a_branchStart a_branchEntry a_placesSeen a_choicePiece a_choicePlace a_choiceNotes := by
      intro post C h hC
      have h := h hC
      rw [nI_pred]
      refine br_f (nI_pos (by omega)) (nm_r xq_e1 ?_)
      rw [nI_add]
      refine cx_lead (by omega) (by omega) ?_
      by_cases e : ae = -1
      · rw [show qf_en ae sz c b = b from if_pos e] at h
        exact br_t e h
      · rw [show qf_en ae sz c b = ae + nI (c * sz) from if_neg e] at h
        exact br_f e (nm_r (by rw [pk_mul]) h)
    have vb : cq_v (a + sz) ae → cq_v pc b → cq_v pc (qf_en ae sz c b) ∧ (qf_en ae sz c b = -1 → ae = -1 ∧ b = -1) := by
      intro hae hb
      unfold qf_en
      by_cases e : ae = -1
      · rw [if_pos e]; exact ⟨hb, fun h => ⟨e, h⟩⟩
      · rw [if_neg e]
        rcases hae with h | ⟨q, q1, q2⟩
        · exact absurd h e
        · rw [q2, nI_add]
          exact ⟨Or.inr ⟨q + c * sz, by omega, rfl⟩, fun h => absurd h (fg_ne (by omega))⟩
    by_cases hl : c < least
    · obtain ⟨K', V', N', S', b', i1, i2, iv, i3⟩ := ih pc (qf_en ae sz c b) K V (cx_lo N (a + c * sz) (a + c * sz + sz) b) (cx_lo S (a + c * sz) (a + c * sz + sz) b) (by omega) (by omega) (by omega)
      have ez : c + 1 - least = c - least := by omega
      refine ⟨K', V', N', S', b', fun p hp => by rw [i1 p hp, fg_q_ln (by omega)], fun m' o n E hae hF hC hS => ?_, fun hae hb => ?_, fun post h => key post True (fun _ => ?_) trivial⟩
      · rw [ez]
        have Fc := hC c (by omega)
        rw [qf_ca_n, show a + (c + 1) * sz = a + c * sz + sz by omega] at Fc
        rw [show a + (c + 1) * sz = a + c * sz + sz by omega] at hF
        have G := fg_seq (x' := fg_q K V (cx_lo N (a + c * sz) (a + c * sz + sz) b) (cx_lo S (a + c * sz) (a + c * sz + sz) b)) Fc hF (by omega) (fun p p1 p2 => fg_q_lo p1 p2) (fun p p1 _ => fg_q_ln (by omega))
        rw [← qf_en_F (q := 0) hae (by omega), show qf_ca o n least c = qf_at o n least c from by unfold qf_ca; rw [if_neg (by omega), Nat.add_zero]] at G
        exact i2 m' o n E hae G (fun c' hc' => fg_frame (hC c' (by omega)) (fun _ _ _ => rfl) (fun p p1 p2 => fg_q_ln (by have := hle c' hc'; omega))) (fun c' hc' => hS c' (by omega))
      · obtain ⟨v1, v2⟩ := vb hae hb
        obtain ⟨w1, w2⟩ := iv hae v1
        rw [ez]
        refine ⟨w1, fun h => ?_⟩
        obtain ⟨y1, y2, y3⟩ := w2 h
        obtain ⟨z1, z2⟩ := v2 y3
        exact ⟨Or.inl z1, by omega, z2⟩
      · rw [ez] at h
        refine br_t (nI_lt hl (by omega)) (nm_r (show nI c + (-1) = nI c - 1 by rw [Int32.sub_eq_add_neg]) ?_)
        exact i3 post h
    · have hp : pc < 36 := by omega
      obtain ⟨K', V', N', S', b', i1, i2, iv, i3⟩ := ih (pc + 1) (nI pc) (upd K pc 4) (upd V pc 0) (upd (cx_lo N (a + c * sz) (a + c * sz + sz) b) pc (qf_en ae sz c b)) (upd (cx_lo S (a + c * sz) (a + c * sz + sz) b) pc (-1)) (by omega) (by omega) (by omega)
      have ez : pc + (c + 1 - least) = pc + 1 + (c - least) := by omega
      refine ⟨K', V', N', S', b', fun p hp => by rw [i1 p hp, fg_q_un (by omega), fg_q_ln (by omega)], fun m' o n E hae hF hC hS => ?_, fun hae hb => ?_, fun post h => key post True (fun _ => ?_) trivial⟩
      · rw [ez]
        have Fc := hC c (by omega)
        rw [qf_ca_n, show a + (c + 1) * sz = a + c * sz + sz by omega] at Fc
        rw [show a + (c + 1) * sz = a + c * sz + sz by omega] at hF
        have G := fg_seq (x' := fg_q K V (cx_lo N (a + c * sz) (a + c * sz + sz) b) (cx_lo S (a + c * sz) (a + c * sz + sz) b)) Fc hF (by omega) (fun p p1 p2 => fg_q_lo p1 p2) (fun p p1 _ => fg_q_ln (by omega))
        rw [← qf_en_F (q := 0) hae (by omega), show qf_ca o n least c = qf_at o n least c + 1 from by unfold qf_ca; rw [if_pos (by omega)]] at G
        have hSc := hS c (by omega) (by omega)
        have G2 := fg_fork (x' := fg_q (upd K pc 4) (upd V pc 0) (upd (cx_lo N (a + c * sz) (a + c * sz + sz) b) pc (qf_en ae sz c b)) (upd (cx_lo S (a + c * sz) (a + c * sz + sz) b) pc (-1))) (w := 0) (T := -1) G (by omega) hSc.1 (Or.inl ⟨rfl, rfl⟩) (fun p p1 p2 => by rw [fg_q_un (by omega), fg_px_id]) (by rw [fg_q_us]) (Or.inl ⟨hSc.2.1, hSc.2.2, by rw [fg_q_us, fg_mo_id]⟩)
        exact i2 m' o n E hae G2 (fun c' hc' => fg_frame (hC c' (by omega)) (fun _ _ _ => rfl) (fun p p1 p2 => by have := hle c' hc'; rw [fg_q_un (by omega), fg_q_ln (by omega)])) (fun c' hc' => hS c' (by omega))
      · obtain ⟨w1, w2⟩ := iv hae (Or.inr ⟨pc, by omega, rfl⟩)
        rw [ez]
        refine ⟨w1, fun h => ?_⟩
        obtain ⟨y1, y2, y3⟩ := w2 h
        exact absurd y3 (fg_ne (by omega))
      · rw [ez] at h
        refine br_f (nI_nlt (by omega) (by omega)) ?_
        refine cx_add hp ?_
        refine nm_r (show nI c + (-1) = nI c - 1 by rw [Int32.sub_eq_add_neg]) ?_
        exact i3 post h
theorem xq_loopL {post : SX → Prop} {a sz least : Nat} (hl4 : least ≤ 4) (ae : Int32) (h : ∀ (pc : Nat) (b : Int32) (K V N S : Nat → Int32), pc ≤ 36 → post (f_tokens, f_faultPlace, f_length, nI pc, f_patternEntry, f_hasPattern, 1, f_level, f_groups, nI a, b, f_choices, f_wayPiece, f_wayPlace, f_wayNotes, f_hasResult, f_resultStart, f_resultEnd, f_resultNotes, a_tokenKind, a_tokenValue, a_text, K, V, N, S, a_levelGroup, a_levelStart, a_levelEntry, a_branchStart, a_branchEntry, a_placesSeen, a_choicePiece, a_choicePlace, a_choiceNotes)) : ∀ (c pc : Nat) (b tl : Int32) (K V N S : Nat → Int32), a + c * sz ≤ 36 → pc ≤ 36 → c ≤ 4 → (tl = 1 ∨ 36 < pc + (c - least)) →
    wX_repeatCounted_34 post (nI least) (nI sz) (c + 1) b (nI c - 1) f_tokens f_faultPlace f_length (nI pc) f_patternEntry f_hasPattern tl f_level f_groups (nI a) ae f_choices f_wayPiece f_wayPlace f_wayNotes f_hasResult f_resultStart f_resultEnd f_resultNotes a_tokenKind a_tokenValue a_text K V N S a_levelGroup a_levelStart a_levelEntry a_branchStart a_branchEntry a_placesSeen a_choicePiece a_choicePlace a_choiceNotes := by
  intro c
  induction c with
  | zero =>
    intro pc b tl K V N S h1 h2 _ h3
    have : tl = 1 := h3.resolve_right (by omega)
    rw [this]
    exact br_t (by decide) (h pc b K V N S h2)
  | succ c ih =>
    intro pc b tl K V N S h1 h2 h4 h3
    have e1 : (c + 1) * sz = c * sz + sz := Nat.succ_mul c sz
    have key : ∀ (z : Int32) (N S : Nat → Int32), wX_repeatCounted_81 post (wX_repeatCounted_34 post (nI least) (nI sz) (c + 1)) (nI least) (nI sz) z (nI c) f_tokens f_faultPlace f_length (nI pc) f_patternEntry f_hasPattern tl f_level f_groups (nI a) ae f_choices f_wayPiece f_wayPlace f_wayNotes f_hasResult f_resultStart f_resultEnd f_resultNotes a_tokenKind a_tokenValue a_text K V N S a_levelGroup a_levelStart a_levelEntry a_branchStart a_branchEntry a_placesSeen a_choicePiece a_choicePlace a_choiceNotes := by
      intro z N S
      by_cases hl : c < least
      · exact br_t (nI_lt hl (by omega)) (nm_r (show nI c + (-1) = nI c - 1 by rw [Int32.sub_eq_add_neg]) (ih pc z tl K V N S (by omega) h2 (by omega) (h3.imp id (fun h => by omega))))
      · refine br_f (nI_nlt (by omega) (by omega)) ?_
        by_cases hp : pc < 36
        · refine cx_add hp ?_
          exact nm_r (show nI c + (-1) = nI c - 1 by rw [Int32.sub_eq_add_neg]) (ih (pc + 1) _ tl _ _ _ _ (by omega) (by omega) (by omega) (h3.imp id (fun h => by omega)))
        · refine cx_add0 (by omega) (by omega) ?_
          exact nm_r (show nI c + (-1) = nI c - 1 by rw [Int32.sub_eq_add_neg]) (ih pc _ 1 _ _ _ _ (by omega) (by omega) (by omega) (Or.inl rfl))
    rw [nI_pred]
    refine br_f (nI_pos (by omega)) (nm_r xq_e1 ?_)
    rw [nI_add]
    refine cx_lead (by omega) (by omega) ?_
    by_cases e : ae = -1
    · exact br_t e (key _ _ _)
    · exact br_f e (nm_e (key _ _ _))
/-- the counted repetition -/
theorem xq_cntOK {a sz least most : Nat} (h1 : least ≤ most) (h2 : 1 ≤ most) (h3 : most ≤ 4) (hp : a + most * sz + (most - least) ≤ 36) :
    ∃ (K V N S : Nat → Int32) (b : Int32), (∀ p, p < a → fg_q K V N S p = fg_q a_pieceKind a_pieceValue a_pieceNext a_pieceSecond p) ∧
      (∀ (m m' : Nat → fg_I) (o n : Nat), fg_F m (fg_q a_pieceKind a_pieceValue a_pieceNext a_pieceSecond) o (o + n) a (a + sz) f_atomEntry → (∀ c j, c < most → j < n → m' (qf_ca o n least c + j) = m (o + j)) →
        (∀ c, c < most → least ≤ c → qf_S m' (qf_at o n least c) (qf_at o n least c + 1) (qf_at o n least most)) → fg_F m' (fg_q K V N S) o (qf_at o n least most) a (a + most * sz + (most - least)) b) ∧
      (cq_v (a + sz) f_atomEntry → cq_v (a + most * sz + (most - least)) b ∧ (b = -1 → f_atomEntry = -1 ∧ most ≤ least)) ∧
      (∀ post : SX → Prop, post (f_tokens, f_faultPlace, f_length, nI (a + most * sz + (most - least)), f_patternEntry, f_hasPattern, 0, f_level, f_groups, nI a, b, f_choices, f_wayPiece, f_wayPlace, f_wayNotes, f_hasResult, f_resultStart, f_resultEnd, f_resultNotes, a_tokenKind, a_tokenValue, a_text, K, V, N, S, a_levelGroup, a_levelStart, a_levelEntry, a_branchStart, a_branchEntry, a_placesSeen, a_choicePiece, a_choicePlace, a_choiceNotes) → wpX_repeatCounted post (f_tokens, f_faultPlace, f_length, nI (a + sz), f_patternEntry, f_hasPattern, 0, f_level, f_groups, nI a, f_atomEntry, f_choices, f_wayPiece, f_wayPlace, f_wayNotes, f_hasResult, f_resultStart, f_resultEnd, f_resultNotes, a_tokenKind, a_tokenValue, a_text, a_pieceKind, a_pieceValue, a_pieceNext, a_pieceSecond, a_levelGroup, a_levelStart, a_levelEntry, a_branchStart, a_branchEntry, a_placesSeen, a_choicePiece, a_choicePlace, a_choiceNotes) (nI least) (nI most)) := by
  have em : most * sz = sz + sz * (most - 1) := by
    obtain ⟨k, rfl⟩ : ∃ k, most = k + 1 := ⟨most - 1, by omega⟩
    rw [Nat.succ_mul, Nat.add_sub_cancel, Nat.mul_comm, Nat.add_comm]
  obtain ⟨K1, V1, N1, S1, c1, c2, c3⟩ := cx_copyOK (f_tokens := f_tokens) (f_faultPlace := f_faultPlace) (f_length := f_length) (f_patternEntry := f_patternEntry) (f_hasPattern := f_hasPattern) (f_tooLarge := 0) (f_level := f_level) (f_groups := f_groups) (f_atomEntry := f_atomEntry) (f_choices := f_choices) (f_wayPiece := f_wayPiece) (f_wayPlace := f_wayPlace) (f_wayNotes := f_wayNotes) (f_hasResult := f_hasResult) (f_resultStart := f_resultStart) (f_resultEnd := f_resultEnd) (f_resultNotes := f_resultNotes) (a_tokenKind := a_tokenKind) (a_tokenValue := a_tokenValue) (a_text := a_text) (a_pieceKind := a_pieceKind) (a_pieceValue := a_pieceValue) (a_pieceNext := a_pieceNext) (a_pieceSecond := a_pieceSecond) (a_levelGroup := a_levelGroup) (a_levelStart := a_levelStart) (a_levelEntry := a_levelEntry) (a_branchStart := a_branchStart) (a_branchEntry := a_branchEntry) (a_placesSeen := a_placesSeen) (a_choicePiece := a_choicePiece) (a_choicePlace := a_choicePlace) (a_choiceNotes := a_choiceNotes) (a := a) (sz := sz) (t := most - 1) (pc := a + sz) rfl (by omega) (by omega)
  obtain ⟨K', V', N', S', b', i1, i2, iv, i3⟩ := xq_loop (f_tokens := f_tokens) (f_faultPlace := f_faultPlace) (f_length := f_length) (f_patternEntry := f_patternEntry) (f_hasPattern := f_hasPattern) (f_tooLarge := 0) (f_level := f_level) (f_groups := f_groups) (f_choices := f_choices) (f_wayPiece := f_wayPiece) (f_wayPlace := f_wayPlace) (f_wayNotes := f_wayNotes) (f_hasResult := f_hasResult) (f_resultStart := f_resultStart) (f_resultEnd := f_resultEnd) (f_resultNotes := f_resultNotes) (a_tokenKind := a_tokenKind) (a_tokenValue := a_tokenValue) (a_text := a_text) (a_levelGroup := a_levelGroup) (a_levelStart := a_levelStart) (a_levelEntry := a_levelEntry) (a_branchStart := a_branchStart) (a_branchEntry := a_branchEntry) (a_placesSeen := a_placesSeen) (a_choicePiece := a_choicePiece) (a_choicePlace := a_choicePlace) (a_choiceNotes := a_choiceNotes) (a := a) (sz := sz) (least := least) (by omega) f_atomEntry most (a + most * sz) (-1) K1 V1 N1 S1 (Nat.le_refl _) hp h3
  refine ⟨K', V', N', S', b', fun p hp' => by rw [i1 p hp', c1 p (by omega)], fun m m' o n hF hC hS => ?_, fun hae => ?_, fun post h => ?_⟩
  · refine i2 m' o n (qf_at o n least most) (fg_F_en hF (by omega)) ?_ ?_ hS
    · exact fg_empty m' _ _ _
    · exact qf_copies hF (by omega) (by omega) hC c1 c2
  · obtain ⟨w1, w2⟩ := iv hae (Or.inl rfl)
    exact ⟨w1, fun h => ⟨(w2 h).1.resolve_right (by omega), (w2 h).2.1⟩⟩
  · refine nm_r (show nI (a + sz) - nI a = nI sz by rw [pk_sub (by omega)]; congr 1; omega) ?_
    rw [show nI most - 1 = nI (most - 1) from by
      obtain ⟨k, rfl⟩ : ∃ k, most = k + 1 := ⟨most - 1, by omega⟩
      rw [nI_pred, Nat.add_sub_cancel]]
    refine c3 _ ?_
    refine br_t rfl ?_
    rw [show a + sz + sz * (most - 1) = a + most * sz by omega]
    refine nm_r (show nI (most - 1) = nI most - 1 from by
      obtain ⟨k, rfl⟩ : ∃ k, most = k + 1 := ⟨most - 1, by omega⟩
      rw [nI_pred, Nat.add_sub_cancel]) ⟨most + 1, ?_⟩
    exact i3 post h
theorem xq_cntL {post : SX → Prop} {a sz least most : Nat} (h1 : least ≤ most) (h2 : 1 ≤ most) (h3 : most ≤ 4) (hp0 : a + sz ≤ 36) (hp : 36 < a + most * sz + (most - least))
    (h : ∀ (pc : Nat) (b : Int32) (K V N S : Nat → Int32), pc ≤ 36 → post (f_tokens, f_faultPlace, f_length, nI pc, f_patternEntry, f_hasPattern, 1, f_level, f_groups, nI a, b, f_choices, f_wayPiece, f_wayPlace, f_wayNotes, f_hasResult, f_resultStart, f_resultEnd, f_resultNotes, a_tokenKind, a_tokenValue, a_text, K, V, N, S, a_levelGroup, a_levelStart, a_levelEntry, a_branchStart, a_branchEntry, a_placesSeen, a_choicePiece, a_choicePlace, a_choiceNotes)) : wpX_repeatCounted post (f_tokens, f_faultPlace, f_length, nI (a + sz), f_patternEntry, f_hasPattern, 0, f_level, f_groups, nI a, f_atomEntry, f_choices, f_wayPiece, f_wayPlace, f_wayNotes, f_hasResult, f_resultStart, f_resultEnd, f_resultNotes, a_tokenKind, a_tokenValue, a_text, a_pieceKind, a_pieceValue, a_pieceNext, a_pieceSecond, a_levelGroup, a_levelStart, a_levelEntry, a_branchStart, a_branchEntry, a_placesSeen, a_choicePiece, a_choicePlace, a_choiceNotes) (nI least) (nI most) := by
  have em : most * sz = sz + sz * (most - 1) := by
    obtain ⟨k, rfl⟩ : ∃ k, most = k + 1 := ⟨most - 1, by omega⟩
    rw [Nat.succ_mul, Nat.add_sub_cancel, Nat.mul_comm, Nat.add_comm]
  have e1 : nI most - 1 = nI (most - 1) := by
    obtain ⟨k, rfl⟩ : ∃ k, most = k + 1 := ⟨most - 1, by omega⟩
    rw [nI_pred, Nat.add_sub_cancel]
  refine nm_r (show nI (a + sz) - nI a = nI sz by rw [pk_sub (by omega)]; congr 1; omega) ?_
  rw [e1]
  by_cases e : a + most * sz ≤ 36
  · obtain ⟨K1, V1, N1, S1, c1, c2, c3⟩ := cx_copyOK (f_tokens := f_tokens) (f_faultPlace := f_faultPlace) (f_length := f_length) (f_patternEntry := f_patternEntry) (f_hasPattern := f_hasPattern) (f_tooLarge := 0) (f_level := f_level) (f_groups := f_groups) (f_atomEntry := f_atomEntry) (f_choices := f_choices) (f_wayPiece := f_wayPiece) (f_wayPlace := f_wayPlace) (f_wayNotes := f_wayNotes) (f_hasResult := f_hasResult) (f_resultStart := f_resultStart) (f_resultEnd := f_resultEnd) (f_resultNotes := f_resultNotes) (a_tokenKind := a_tokenKind) (a_tokenValue := a_tokenValue) (a_text := a_text) (a_pieceKind := a_pieceKind) (a_pieceValue := a_pieceValue) (a_pieceNext := a_pieceNext) (a_pieceSecond := a_pieceSecond) (a_levelGroup := a_levelGroup) (a_levelStart := a_levelStart) (a_levelEntry := a_levelEntry) (a_branchStart := a_branchStart) (a_branchEntry := a_branchEntry) (a_placesSeen := a_placesSeen) (a_choicePiece := a_choicePiece) (a_choicePlace := a_choicePlace) (a_choiceNotes := a_choiceNotes) (a := a) (sz := sz) (t := most - 1) (pc := a + sz) rfl (by omega) (by omega)
    refine c3 _ ?_
    refine br_t rfl ?_
    rw [show a + sz + sz * (most - 1) = a + most * sz by omega]
    refine nm_r e1.symm ⟨most + 1, ?_⟩
    exact xq_loopL (by omega) f_atomEntry h most (a + most * sz) (-1) 0 K1 V1 N1 S1 e e h3 (Or.inr hp)
  · refine cx_copyL (t := most - 1) (by omega) hp0 (by omega) (by omega) ?_
    exact br_f (by decide) (h (a + sz) _ _ _ _ _ hp0)
end XR
