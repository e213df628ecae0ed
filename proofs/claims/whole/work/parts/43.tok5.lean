section TO
theorem yq_ex {kk : Nat} {v w : Int32} (hk : kk ≤ 15) (hq : cs_q kk = true) (ht : rl_tok (nI kk) v w) : ∃ least opt st, yq_K kk v least opt st ∧ yq_K kk w least opt st := by
  have hq' := cs_qi.mp hq
  have this : kk = 7 ∨ kk = 8 ∨ kk = 9 ∨ kk = 10 ∨ kk = 11 ∨ kk = 12 ∨ kk = 14 := by clear ht; omega
  obtain ⟨k2, hk2, ek, t0, t2, t14⟩ := ht
  obtain rfl : kk = k2 := fg_ij ek (by omega) (by omega)
  rcases this with h | h | h | h | h | h | h
  · exact ⟨0, 0, 1, Or.inl ⟨h, rfl, rfl, rfl⟩, Or.inl ⟨h, rfl, rfl, rfl⟩⟩
  · exact ⟨1, 0, 1, Or.inr (Or.inl ⟨h, rfl, rfl, rfl⟩), Or.inr (Or.inl ⟨h, rfl, rfl, rfl⟩)⟩
  · exact ⟨0, 1, 0, Or.inr (Or.inr (Or.inl ⟨h, rfl, rfl, rfl⟩)), Or.inr (Or.inr (Or.inl ⟨h, rfl, rfl, rfl⟩))⟩
  · exact ⟨0, 0, 1, Or.inr (Or.inr (Or.inr (Or.inl ⟨h, rfl, rfl, rfl⟩))), Or.inr (Or.inr (Or.inr (Or.inl ⟨h, rfl, rfl, rfl⟩)))⟩
  · exact ⟨1, 0, 1, Or.inr (Or.inr (Or.inr (Or.inr (Or.inl ⟨h, rfl, rfl, rfl⟩)))), Or.inr (Or.inr (Or.inr (Or.inr (Or.inl ⟨h, rfl, rfl, rfl⟩))))⟩
  · exact ⟨0, 1, 0, Or.inr (Or.inr (Or.inr (Or.inr (Or.inr (Or.inl ⟨h, rfl, rfl, rfl⟩))))), Or.inr (Or.inr (Or.inr (Or.inr (Or.inr (Or.inl ⟨h, rfl, rfl, rfl⟩)))))⟩
  · obtain ⟨lo, hi, e1, e2, h1, h2, h3⟩ := t14 h
    have e : 8 * lo + (lo + (hi - lo)) = 8 * lo + hi := by omega
    exact ⟨lo, hi - lo, 0, Or.inr (Or.inr (Or.inr (Or.inr (Or.inr (Or.inr ⟨h, rfl, by omega, by omega, by omega, by rw [e]; exact e1⟩))))), Or.inr (Or.inr (Or.inr (Or.inr (Or.inr (Or.inr ⟨h, rfl, by omega, by omega, by omega, by rw [e]; exact e2⟩)))))⟩
theorem yq_len {o n least opt st A : Nat} (hn : n ≤ 2 * A) : qf_at o n least (least + opt) + st * (n + 2) ≤ o + 2 * ((least + opt + st) * A + opt + st) := by
  have h1 : (least + opt + st) * n ≤ (least + opt + st) * (2 * A) := Nat.mul_le_mul_left _ hn
  unfold qf_at
  rw [Nat.mul_add, show least + opt - least = opt by omega]
  rw [Nat.add_mul (least + opt) st n, ← Nat.mul_assoc, Nat.mul_comm (least + opt + st) 2, Nat.mul_assoc] at h1
  omega
variable {f_tokens f_faultPlace f_length f_pieces f_patternEntry f_hasPattern f_tooLarge f_level f_groups f_atomStart f_atomEntry f_choices f_wayPiece f_wayPlace : Int32} {f_wayNotes : Int64} {f_hasResult f_resultStart f_resultEnd : Int32} {f_resultNotes : Int64} {a_tokenKind a_tokenValue a_text a_pieceKind a_pieceValue a_pieceNext a_pieceSecond a_levelGroup a_levelStart a_levelEntry a_branchStart a_branchEntry : Nat → Int32} {a_placesSeen : Nat → Int64} {a_choicePiece a_choicePlace : Nat → Int32} {a_choiceNotes : Nat → Int64}
variable {g_count g_place g_end g_size g_large g_ready g_depth g_groups g_atom g_atomSize g_length g_found : Int32} {b_kind b_value b_op b_with b_one b_two b_copyOp b_copyWith b_copyOne b_copyTwo b_opened b_branch b_sizes b_jumps b_groupOf b_text : Nat → Int32} {b_met : Nat → Int64} {b_todo b_notes : Nat → Int32}
variable {lv pc en sz g c i kk : Nat} {gg lsN bsN od br : Nat → Nat} {J : Nat → List Nat} {w : Int32}
theorem tk_quant (hc : c ≤ 24) (hi : i < c) (hk : kk ≤ 15) (hq : cs_q kk = true) (hK : a_tokenKind i = nI kk) (ht : rl_tok (nI kk) (a_tokenValue i) w)
    (H : cq_A true lv pc en sz gg lsN bsN od br J f_atomStart f_atomEntry g_atom g_atomSize a_pieceKind a_pieceValue a_pieceNext a_pieceSecond a_levelGroup a_levelStart a_levelEntry a_branchStart a_branchEntry b_op b_with b_one b_two b_opened b_branch b_sizes b_jumps b_groupOf) :
    tk_C (nI c) f_faultPlace f_length (nI pc) f_patternEntry f_hasPattern 0 (nI lv) (nI g) f_atomStart f_atomEntry f_choices f_wayPiece f_wayPlace f_wayNotes f_hasResult f_resultStart f_resultEnd f_resultNotes a_tokenKind a_tokenValue a_text a_pieceKind a_pieceValue a_pieceNext a_pieceSecond a_levelGroup a_levelStart a_levelEntry a_branchStart a_branchEntry a_placesSeen a_choicePiece a_choicePlace a_choiceNotes g_count g_place (nI en) (nI sz) (cq_la sz) g_ready (nI (lv + 1)) (nI g) g_atom g_atomSize g_length g_found b_kind b_value b_op b_with b_one b_two b_copyOp b_copyWith b_copyOne b_copyTwo b_opened b_branch b_sizes b_jumps b_groupOf b_text b_met b_todo b_notes i kk w (lv, g, false) := by
  obtain ⟨HK, has, hb1, hb0, B1, B2, S1, S2⟩ := H
  obtain ⟨rfl, haz, rfl⟩ := hb1 rfl
  have hlv := HK.1
  have hpc := HK.2.1
  have hen := HK.2.2.1
  have k4 := HK.2.2.2.1
  have k6 := HK.2.2.2.2.2.1
  have k7 := HK.2.2.2.2.2.2.1
  have k8 := HK.2.2.2.2.2.2.2.1
  have k9 := HK.2.2.2.2.2.2.2.2.1
  have k10 := HK.2.2.2.2.2.2.2.2.2.1
  have k11 := HK.2.2.2.2.2.2.2.2.2.2.1
  obtain ⟨f1, f2, f3, f4, f5, f6, f7, f8, f9, f10, f11, f12, f13⟩ := HK.2.2.2.2.2.2.2.2.2.2.2.1 lv (Nat.le_refl _)
  obtain ⟨hszb, hsz, hsz2, hop⟩ := cq_szb HK
  obtain ⟨least, opt, st, hKv, hKw⟩ := yq_ex hk hq ht
  obtain ⟨b1, b2, b3, b4, b5⟩ := yq_K_b hKv
  obtain ⟨A, rfl⟩ : ∃ A, pc = lsN (lv + 1) + A := ⟨pc - lsN (lv + 1), by omega⟩
  rw [Nat.add_sub_cancel_left] at haz
  subst haz
  have hPb : yq_P least opt st A ≤ 400 := by
    have : (least + opt + st) * A ≤ 9 * 36 := Nat.mul_le_mul (by omega) (by omega)
    unfold yq_P; omega
  have at0 : (0 : Int32) ≤ nI (od (lv + 1)) := nI_pos' (by omega)
  by_cases hp : lsN (lv + 1) + A + yq_P least opt st A ≤ 36
  · left
    obtain ⟨K, V, N, S, ae', x1, x2, x3, x4, x5⟩ := xr_OK (f_tokens := nI c) (f_faultPlace := f_faultPlace) (f_length := f_length) (f_patternEntry := f_patternEntry) (f_hasPattern := f_hasPattern) (f_level := nI lv) (f_groups := nI g) (f_atomEntry := f_atomEntry) (f_choices := f_choices) (f_wayPiece := f_wayPiece) (f_wayPlace := f_wayPlace) (f_wayNotes := f_wayNotes) (f_hasResult := f_hasResult) (f_resultStart := f_resultStart) (f_resultEnd := f_resultEnd) (f_resultNotes := f_resultNotes) (a_tokenKind := a_tokenKind) (a_tokenValue := a_tokenValue) (a_text := a_text) (a_pieceKind := a_pieceKind) (a_pieceValue := a_pieceValue) (a_pieceNext := a_pieceNext) (a_pieceSecond := a_pieceSecond) (a_levelGroup := a_levelGroup) (a_levelStart := a_levelStart) (a_levelEntry := a_levelEntry) (a_branchStart := a_branchStart) (a_branchEntry := a_branchEntry) (a_placesSeen := a_placesSeen) (a_choicePiece := a_choicePiece) (a_choicePlace := a_choicePlace) (a_choiceNotes := a_choiceNotes) (a := lsN (lv + 1)) (A := A) hKv hp k10 k11
    have hX : ∀ (post : SX → Prop) (n : Nat), wX_buildPattern_32 post n (nI (i + 1)) (nI c) f_faultPlace f_length (nI (lsN (lv + 1) + A + yq_P least opt st A)) f_patternEntry f_hasPattern 0 (nI lv) (nI g) (nI (lsN (lv + 1))) ae' f_choices f_wayPiece f_wayPlace f_wayNotes f_hasResult f_resultStart f_resultEnd f_resultNotes a_tokenKind a_tokenValue a_text K V N S a_levelGroup a_levelStart a_levelEntry a_branchStart a_branchEntry a_placesSeen a_choicePiece a_choicePlace a_choiceNotes → wX_buildPattern_32 post (n + 1) (nI i) (nI c) f_faultPlace f_length (nI (lsN (lv + 1) + A)) f_patternEntry f_hasPattern 0 (nI lv) (nI g) (nI (lsN (lv + 1))) f_atomEntry f_choices f_wayPiece f_wayPlace f_wayNotes f_hasResult f_resultStart f_resultEnd f_resultNotes a_tokenKind a_tokenValue a_text a_pieceKind a_pieceValue a_pieceNext a_pieceSecond a_levelGroup a_levelStart a_levelEntry a_branchStart a_branchEntry a_placesSeen a_choicePiece a_choicePlace a_choiceNotes := by
      intro post n h
      exact xl_quant (F := fun u => u = (nI c, f_faultPlace, f_length, nI (lsN (lv + 1) + A + yq_P least opt st A), f_patternEntry, f_hasPattern, 0, nI lv, nI g, nI (lsN (lv + 1)), ae', f_choices, f_wayPiece, f_wayPlace, f_wayNotes, f_hasResult, f_resultStart, f_resultEnd, f_resultNotes, a_tokenKind, a_tokenValue, a_text, K, V, N, S, a_levelGroup, a_levelStart, a_levelEntry, a_branchStart, a_branchEntry, a_placesSeen, a_choicePiece, a_choicePlace, a_choiceNotes)) hc hi hk hq hK rfl (fun post' h' => x5 post' (h' _ rfl)) (fun u hu => by rw [hu]; exact h)
    by_cases hs : sz + yq_P least opt st A ≤ 36
    · have hen2 := hsz2 (by omega)
      obtain ⟨c1, c2⟩ := HK.2.2.2.2.2.2.2.2.2.2.2.2 (by omega)
      have hoe := c2.1
      have hob := c2.2.2.1
      obtain ⟨n, rfl⟩ : ∃ n, en = od (lv + 1) + n := ⟨en - od (lv + 1), by omega⟩
      have hbd := cq_bound k4 k6 c1 (lv + 1) (Nat.le_refl _)
      have hlen := yq_len (o := od (lv + 1)) (n := n) (least := least) (opt := opt) (st := st) (A := A) (by omega)
      have hPl := yq_P_le (least := least) (opt := opt) (st := st) (A := A) b5
      have hPe : yq_P least opt st A + A = (least + opt + st) * A + opt + st := by unfold yq_P; omega
      have hE : qf_at (od (lv + 1)) n least (least + opt) + st * (n + 2) ≤ 72 := by omega
      obtain ⟨O, W, F, G, e1, e2, e3, e4, y1, y2, y3, y4, y5, y6⟩ := cy_quantC (g_count := g_count) (g_place := g_place) (g_ready := g_ready) (g_depth := nI (lv + 1)) (g_groups := nI g) (g_length := g_length) (g_found := g_found) (b_kind := b_kind) (b_value := b_value) (b_op := b_op) (b_with := b_with) (b_one := b_one) (b_two := b_two) (b_copyOp := b_copyOp) (b_copyWith := b_copyWith) (b_copyOne := b_copyOne) (b_copyTwo := b_copyTwo) (b_opened := b_opened) (b_branch := b_branch) (b_sizes := b_sizes) (b_jumps := b_jumps) (b_groupOf := b_groupOf) (b_text := b_text) (b_met := b_met) (b_todo := b_todo) (b_notes := b_notes) (o := od (lv + 1)) (n := n) (A := A) (sz := sz) hKw hs (by omega) (by omega) B1 B2 S1 S2
      refine ⟨lv, lsN (lv + 1) + A + yq_P least opt st A, qf_at (od (lv + 1)) n least (least + opt) + st * (n + 2), sz + yq_P least opt st A, gg, lsN, bsN, od, br, J, nI (lsN (lv + 1)), ae', -1, nI A, K, V, N, S, a_levelGroup, a_levelStart, a_levelEntry, a_branchStart, a_branchEntry, O, W, F, G, e1, e2, e3, e4, b_opened, b_branch, b_sizes, b_jumps, b_groupOf, rfl, ⟨?_, Or.inr rfl, (fun h => by cases h), fun _ => rfl, y1, y2, y3, y4⟩, hX, fun post h => ?_⟩
      · exact cq_atom HK hp (by omega) (by omega) (by omega) x2 x3 (by omega) (fun _ hF => ⟨x4 _ _ _ _ hF y5, y5.1, x1⟩)
      · rw [cq_la0 hs] at h
        refine ya_quant hk hq at0 ?_
        exact y6 _ h
    · refine ⟨lv, lsN (lv + 1) + A + yq_P least opt st A, en, sz + yq_P least opt st A, gg, lsN, bsN, od, br, J, nI (lsN (lv + 1)), ae', -1, nI A, K, V, N, S, a_levelGroup, a_levelStart, a_levelEntry, a_branchStart, a_branchEntry, b_op, b_with, b_one, b_two, b_copyOp, b_copyWith, b_copyOne, b_copyTwo, b_opened, b_branch, b_sizes, b_jumps, b_groupOf, rfl, ⟨?_, Or.inr rfl, (fun h => by cases h), fun _ => rfl, B1, B2, S1, S2⟩, hX, fun post h => ?_⟩
      · exact cq_atom HK hp (by omega) (by omega) (by omega) x2 x3 (by omega) (fun h _ => absurd h hs)
      · rw [cq_la1 (show 36 < sz + yq_P least opt st A by omega)] at h
        refine ya_quant hk hq at0 ?_
        exact cy_quantL hKw (by omega) (by omega) h
  · right
    refine ⟨fun post n h => ?_, ?_⟩
    · refine xl_quant (F := fun u => ∃ (pc' : Nat) (ae : Int32) (K V N S : Nat → Int32), pc' ≤ 36 ∧ u = (nI c, f_faultPlace, f_length, nI pc', f_patternEntry, f_hasPattern, 1, nI lv, nI g, nI (lsN (lv + 1)), ae, f_choices, f_wayPiece, f_wayPlace, f_wayNotes, f_hasResult, f_resultStart, f_resultEnd, f_resultNotes, a_tokenKind, a_tokenValue, a_text, K, V, N, S, a_levelGroup, a_levelStart, a_levelEntry, a_branchStart, a_branchEntry, a_placesSeen, a_choicePiece, a_choicePlace, a_choiceNotes)) hc hi hk hq hK rfl (fun post' h' => xr_L hKv hpc (by omega) (fun pc' ae K V N S hp' => h' _ ⟨pc', ae, K, V, N, S, hp', rfl⟩)) (fun u hu => ?_)
      obtain ⟨pc', ae, K, V, N, S, hp', hu⟩ := hu
      rw [hu]
      exact xl_done (by omega) hc (by omega) hp' (Or.inr ⟨lsN (lv + 1), bsN lv, rfl, by omega, f5, by omega⟩) h
    · refine ⟨nI (sz + yq_P least opt st A), nI (lv + 1), nI g, -1, nI A, b_opened, b_branch, b_sizes, b_jumps, b_groupOf, ⟨rfl, rfl, rfl, ⟨en, by omega, rfl⟩, (fun h => by cases h), fun _ => rfl, hop⟩, fun post h => ?_⟩
      refine ya_quant hk hq at0 ?_
      exact cy_quantL hKw (by omega) (by omega) h
end TO
