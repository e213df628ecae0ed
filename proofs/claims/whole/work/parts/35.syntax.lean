section SY1
def cs_q (k : Nat) : Bool := (decide (7 ≤ k) && decide (k ≤ 12)) || decide (k = 14)
def cs_bad (k : Nat) (s : Nat × Nat × Bool) : Prop := (cs_q k = true ∧ s.2.2 = false) ∨ (k = 5 ∧ s.1 = 0) ∨ (k = 3 ∧ s.2.1 = 3)
def cs_b (k : Nat) : Bool := !(decide (k = 3) || decide (k = 4) || decide (k = 6) || cs_q k)
def cs_step (k : Nat) (s : Nat × Nat × Bool) : Nat × Nat × Bool := (if k = 3 ∨ k = 4 then s.1 + 1 else if k = 5 then s.1 - 1 else s.1, if k = 3 then s.2.1 + 1 else s.2.1, cs_b k)
def cs_st (kk : Nat → Nat) : Nat → Nat × Nat × Bool
  | 0 => (0, 0, false)
  | i + 1 => cs_step (kk i) (cs_st kk i)
def cs_I (b : Bool) : Int32 := if b = true then 1 else 0
theorem cs_qi {k : Nat} : cs_q k = true ↔ (7 ≤ k ∧ k ≤ 12) ∨ k = 14 := by unfold cs_q; simp
theorem cs_o (kk : Nat → Nat) : ∀ i, (cs_st kk i).1 ≤ i
  | 0 => Nat.le_refl _
  | i + 1 => by
    have := cs_o kk i
    show (if kk i = 3 ∨ kk i = 4 then (cs_st kk i).1 + 1 else if kk i = 5 then (cs_st kk i).1 - 1 else (cs_st kk i).1) ≤ i + 1
    split
    · omega
    · split <;> omega
theorem cs_g (kk : Nat → Nat) : ∀ i, (∀ j, j < i → ¬ cs_bad (kk j) (cs_st kk j)) → (cs_st kk i).2.1 ≤ 3
  | 0, _ => Nat.zero_le _
  | i + 1, h => by
    have h1 := cs_g kk i (fun j hj => h j (by omega))
    have h2 := h i (by omega)
    show (if kk i = 3 then (cs_st kk i).2.1 + 1 else (cs_st kk i).2.1) ≤ 3
    split
    · rename_i e
      have : ¬ (cs_st kk i).2.1 = 3 := fun e2 => h2 (Or.inr (Or.inr ⟨e, e2⟩))
      omega
    · exact h1
theorem ff_q {post : Int32 → Prop} {k : Nat} (hk : k ≤ 15) (h : post (cs_I (cs_q k))) : wpX_isQuantifier post (nI k) := by
  unfold cs_I at h
  by_cases h1 : k < 7
  · refine br_t (nI_lt (b := 7) h1 (by omega)) (br_f (fun e => ?_) ?_)
    · have := (nI_eq (b := 14) (by omega) (by omega)).mp e; omega
    · rw [if_neg (by rw [cs_qi]; omega)] at h; exact h
  · refine br_f (nI_nlt (b := 7) (by omega) (by omega)) ?_
    by_cases h2 : k ≤ 12
    · rw [if_pos (by rw [cs_qi]; omega)] at h
      exact br_t (nI_le (b := 12) h2 (by omega)) h
    · refine br_f (nI_ge (a := 12) (by omega) (by omega)) ?_
      by_cases h3 : k = 14
      · rw [if_pos (by rw [cs_qi]; omega)] at h
        exact br_t (by rw [h3]; rfl) h
      · rw [if_neg (by rw [cs_qi]; omega)] at h
        exact br_f (fun e => h3 ((nI_eq (b := 14) (by omega) (by omega)).mp e)) h
variable {f_tokens f_faultPlace f_length f_pieces f_patternEntry f_hasPattern f_tooLarge f_level f_groups f_atomStart f_atomEntry f_choices f_wayPiece f_wayPlace : Int32} {f_wayNotes : Int64} {f_hasResult f_resultStart f_resultEnd : Int32} {f_resultNotes : Int64} {a_tokenKind a_tokenValue a_text a_pieceKind a_pieceValue a_pieceNext a_pieceSecond a_levelGroup a_levelStart a_levelEntry a_branchStart a_branchEntry : Nat → Int32} {a_placesSeen : Nat → Int64} {a_choicePiece a_choicePlace : Nat → Int32} {a_choiceNotes : Nat → Int64}
theorem ff_39 {post : Int32 → Prop} {J9 : Int32 → Int32 → Int32 → Int32 → Prop} {k i : Nat} {s : Nat × Nat × Bool} (hk : k ≤ 15) (hb5 : ¬ (k = 5 ∧ s.1 = 0)) (hb3 : ¬ (k = 3 ∧ s.2.1 = 3)) (hs1 : s.1 < 100) (hs2 : s.2.1 < 100)
    (h : J9 (nI (cs_step k s).1) (nI (cs_step k s).2.1) (cs_I (cs_b k)) (nI (i + 1))) : wX_findFault_39 post J9 (nI s.1) (nI s.2.1) (nI i) (nI k) f_tokens f_faultPlace f_length f_pieces f_patternEntry f_hasPattern f_tooLarge f_level f_groups f_atomStart f_atomEntry f_choices f_wayPiece f_wayPlace f_wayNotes f_hasResult f_resultStart f_resultEnd f_resultNotes a_tokenKind a_tokenValue a_text a_pieceKind a_pieceValue a_pieceNext a_pieceSecond a_levelGroup a_levelStart a_levelEntry a_branchStart a_branchEntry a_placesSeen a_choicePiece a_choicePlace a_choiceNotes := by
  have ne : ∀ j, j < 100 → ¬ k = j → ¬ nI k = nI j := fun j hj hne e => hne ((nI_eq (by omega) (by omega)).mp e)
  by_cases k3 : k = 3
  · subst k3
    have g3 : ¬ nI s.2.1 = 3 := fun e => hb3 ⟨rfl, (nI_eq (b := 3) (by omega) (by omega)).mp e⟩
    exact br_f (by decide) (br_t rfl (br_f g3 (br_t rfl (br_f (by decide) (nm_r (nI_1 _) (br_t rfl (nm_r (nI_1 _) (br_f (by decide) (br_f (by decide) (nm_r (nI_1 i) h))))))))))
  · by_cases k4 : k = 4
    · subst k4
      exact br_f (by decide) (br_f (by decide) (br_f (by decide) (br_t rfl (br_f (by decide) (nm_r (nI_1 _) (br_f (by decide) (br_f (by decide) (br_f (by decide) (nm_r (nI_1 i) h)))))))))
    · have n3 := ne 3 (by omega) k3
      have n4 := ne 4 (by omega) k4
      by_cases k5 : k = 5
      · subst k5
        obtain ⟨o, ho⟩ : ∃ o, s.1 = o + 1 := ⟨s.1 - 1, by omega⟩
        have h' : J9 (nI o) (nI s.2.1) 1 (nI (i + 1)) := by
          have : (cs_step 5 s).1 = o := by
            show s.1 - 1 = o
            omega
          rw [this] at h
          exact h
        rw [ho]
        refine br_t rfl (br_f (nI_ne0 (by omega) (by omega)) (br_f (by decide) (br_f (by decide) (br_f (by decide) (br_t rfl (br_f (by decide) (br_t rfl (nm_r (pk_m1 o) (br_t rfl (br_f (by decide) ?_))))))))))
        refine ff_q (k := 5) (by omega) ?_
        exact br_t rfl (nm_r (nI_1 i) h')
      · have n5 := ne 5 (by omega) k5
        have e1 : (cs_step k s).1 = s.1 := by
          show (if k = 3 ∨ k = 4 then s.1 + 1 else if k = 5 then s.1 - 1 else s.1) = s.1
          rw [if_neg (by omega), if_neg k5]
        have e2 : (cs_step k s).2.1 = s.2.1 := by
          show (if k = 3 then s.2.1 + 1 else s.2.1) = s.2.1
          rw [if_neg k3]
        rw [e1, e2] at h
        refine br_f n5 (br_f n3 (br_f n3 (br_f n4 (br_t rfl (br_f n3 (br_f n5 (br_t rfl ?_)))))))
        by_cases k6 : k = 6
        · subst k6
          exact br_t rfl (nm_r (nI_1 i) h)
        · refine br_f (ne 6 (by omega) k6) ?_
          refine ff_q hk ?_
          have eb : cs_b k = !(cs_q k) := by unfold cs_b; simp [k3, k4, k6]
          rw [eb] at h
          cases hq : cs_q k with
          | true =>
            rw [hq] at h
            exact br_f (by decide) (nm_r (nI_1 i) h)
          | false =>
            rw [hq] at h
            exact br_t rfl (nm_r (nI_1 i) h)
/-- what the fault finder answers -/
def ff_R (kk : Nat → Nat) (c : Nat) (r : Int32) : Prop :=
  (r = -1 ∧ (∀ j, j < c → ¬ cs_bad (kk j) (cs_st kk j)) ∧ (cs_st kk c).1 = 0) ∨ (∃ i, i < c ∧ r = nI i ∧ (∀ j, j < i → ¬ cs_bad (kk j) (cs_st kk j)) ∧ cs_bad (kk i) (cs_st kk i)) ∨ (r = nI c ∧ (∀ j, j < c → ¬ cs_bad (kk j) (cs_st kk j)) ∧ 0 < (cs_st kk c).1)
theorem ff_loop {kk : Nat → Nat} {c : Nat} (hc : c ≤ 24) (hK : ∀ j, j < c → kk j ≤ 15 ∧ a_tokenKind j = nI (kk j)) : ∀ (d i : Nat), i + d = c → (∀ j, j < i → ¬ cs_bad (kk j) (cs_st kk j)) →
    ∃ r, ff_R kk c r ∧ ∀ post : Int32 → Prop, post r → wX_findFault_9 post (nI c) f_faultPlace f_length f_pieces f_patternEntry f_hasPattern f_tooLarge f_level f_groups f_atomStart f_atomEntry f_choices f_wayPiece f_wayPlace f_wayNotes f_hasResult f_resultStart f_resultEnd f_resultNotes a_tokenKind a_tokenValue a_text a_pieceKind a_pieceValue a_pieceNext a_pieceSecond a_levelGroup a_levelStart a_levelEntry a_branchStart a_branchEntry a_placesSeen a_choicePiece a_choicePlace a_choiceNotes (d + 1) (nI (cs_st kk i).1) (nI (cs_st kk i).2.1) (cs_I (cs_st kk i).2.2) (nI i) := by
  intro d
  induction d with
  | zero =>
    intro i hi hcl
    obtain rfl : i = c := by omega
    have ho := cs_o kk i
    have hle : nI i ≤ nI i := nI_le (Nat.le_refl _) (by omega)
    by_cases h0 : (cs_st kk i).1 = 0
    · exact ⟨-1, Or.inl ⟨rfl, hcl, h0⟩, fun post hp => br_t hle (br_t (by rw [h0]; decide) hp)⟩
    · exact ⟨nI i, Or.inr (Or.inr ⟨rfl, hcl, by omega⟩), fun post hp => br_t hle (br_f (nI_nle (by omega) (by omega)) hp)⟩
  | succ d ih =>
    intro i hi hcl
    obtain ⟨hk, hkk⟩ := hK i (by omega)
    have ho := cs_o kk i
    have hg := cs_g kk i hcl
    have hlt : ¬ nI c ≤ nI i := nI_ge (by omega) (by omega)
    have hv : vp_in (nI i) 24 := vp_in_nI (by omega) (by omega)
    have ec : a_tokenKind (nI i).toNatClampNeg = nI (kk i) := by rw [nI_clamp (by omega)]; exact hkk
    by_cases hbad : cs_bad (kk i) (cs_st kk i)
    · refine ⟨nI i, Or.inr (Or.inl ⟨i, by omega, rfl, hcl, hbad⟩), fun post hp => br_f hlt ⟨hv, nm_r ec ?_⟩⟩
      refine ff_q hk ?_
      rcases hbad with ⟨q1, q2⟩ | ⟨q1, q2⟩ | ⟨q1, q2⟩
      · rw [q1, q2]
        exact br_f (by decide) (br_t rfl hp)
      · rw [q1, q2]
        exact br_t rfl (br_t rfl (br_t rfl hp))
      · rw [q1, q2]
        exact br_t rfl (br_f (by decide) (br_t rfl (br_t rfl hp)))
    · obtain ⟨r, r1, r2⟩ := ih (i + 1) (by omega) (fun j hj => by
        by_cases e : j = i
        · rw [e]; exact hbad
        · exact hcl j (by omega))
      refine ⟨r, r1, fun post hp => br_f hlt ⟨hv, nm_r ec ?_⟩⟩
      have F := ff_39 (J9 := wX_findFault_9 post (nI c) f_faultPlace f_length f_pieces f_patternEntry f_hasPattern f_tooLarge f_level f_groups f_atomStart f_atomEntry f_choices f_wayPiece f_wayPlace f_wayNotes f_hasResult f_resultStart f_resultEnd f_resultNotes a_tokenKind a_tokenValue a_text a_pieceKind a_pieceValue a_pieceNext a_pieceSecond a_levelGroup a_levelStart a_levelEntry a_branchStart a_branchEntry a_placesSeen a_choicePiece a_choicePlace a_choiceNotes (d + 1)) (post := post) (i := i) (f_tokens := nI c) (f_faultPlace := f_faultPlace) (f_length := f_length) (f_pieces := f_pieces) (f_patternEntry := f_patternEntry) (f_hasPattern := f_hasPattern) (f_tooLarge := f_tooLarge) (f_level := f_level) (f_groups := f_groups) (f_atomStart := f_atomStart) (f_atomEntry := f_atomEntry) (f_choices := f_choices) (f_wayPiece := f_wayPiece) (f_wayPlace := f_wayPlace) (f_wayNotes := f_wayNotes) (f_hasResult := f_hasResult) (f_resultStart := f_resultStart) (f_resultEnd := f_resultEnd) (f_resultNotes := f_resultNotes) (a_tokenKind := a_tokenKind) (a_tokenValue := a_tokenValue) (a_text := a_text) (a_pieceKind := a_pieceKind) (a_pieceValue := a_pieceValue) (a_pieceNext := a_pieceNext) (a_pieceSecond := a_pieceSecond) (a_levelGroup := a_levelGroup) (a_levelStart := a_levelStart) (a_levelEntry := a_levelEntry) (a_branchStart := a_branchStart) (a_branchEntry := a_branchEntry) (a_placesSeen := a_placesSeen) (a_choicePiece := a_choicePiece) (a_choicePlace := a_choicePlace) (a_choiceNotes := a_choiceNotes) hk (fun h => hbad (Or.inr (Or.inl h))) (fun h => hbad (Or.inr (Or.inr h))) (by omega) (by omega) (r2 post hp)
      refine ff_q hk ?_
      cases hq : cs_q (kk i) with
      | false => exact br_t rfl F
      | true =>
        have hb : (cs_st kk i).2.2 = true := by
          cases hh : (cs_st kk i).2.2 with
          | true => rfl
          | false => exact absurd (Or.inl ⟨hq, hh⟩) hbad
        rw [hb]
        exact br_f (by decide) (br_f (by decide) F)
theorem ff_eval {kk : Nat → Nat} {c : Nat} (hc : c ≤ 24) (hK : ∀ j, j < c → kk j ≤ 15 ∧ a_tokenKind j = nI (kk j)) :
    ∃ r, ff_R kk c r ∧ ∀ post : Int32 → Prop, post r → wpX_findFault post (nI c, f_faultPlace, f_length, f_pieces, f_patternEntry, f_hasPattern, f_tooLarge, f_level, f_groups, f_atomStart, f_atomEntry, f_choices, f_wayPiece, f_wayPlace, f_wayNotes, f_hasResult, f_resultStart, f_resultEnd, f_resultNotes, a_tokenKind, a_tokenValue, a_text, a_pieceKind, a_pieceValue, a_pieceNext, a_pieceSecond, a_levelGroup, a_levelStart, a_levelEntry, a_branchStart, a_branchEntry, a_placesSeen, a_choicePiece, a_choicePlace, a_choiceNotes) := by
  obtain ⟨r, r1, r2⟩ := ff_loop (f_faultPlace := f_faultPlace) (f_length := f_length) (f_pieces := f_pieces) (f_patternEntry := f_patternEntry) (f_hasPattern := f_hasPattern) (f_tooLarge := f_tooLarge) (f_level := f_level) (f_groups := f_groups) (f_atomStart := f_atomStart) (f_atomEntry := f_atomEntry) (f_choices := f_choices) (f_wayPiece := f_wayPiece) (f_wayPlace := f_wayPlace) (f_wayNotes := f_wayNotes) (f_hasResult := f_hasResult) (f_resultStart := f_resultStart) (f_resultEnd := f_resultEnd) (f_resultNotes := f_resultNotes) (a_tokenKind := a_tokenKind) (a_tokenValue := a_tokenValue) (a_text := a_text) (a_pieceKind := a_pieceKind) (a_pieceValue := a_pieceValue) (a_pieceNext := a_pieceNext) (a_pieceSecond := a_pieceSecond) (a_levelGroup := a_levelGroup) (a_levelStart := a_levelStart) (a_levelEntry := a_levelEntry) (a_branchStart := a_branchStart) (a_branchEntry := a_branchEntry) (a_placesSeen := a_placesSeen) (a_choicePiece := a_choicePiece) (a_choicePlace := a_choicePlace) (a_choiceNotes := a_choiceNotes) hc hK c 0 (by omega) (fun j hj => by omega)
  exact ⟨r, r1, fun post hp => ⟨_, r2 post hp⟩⟩
end SY1
