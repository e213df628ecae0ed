section XO
variable {f_tokens f_faultPlace f_length f_pieces f_patternEntry f_hasPattern f_tooLarge f_level f_groups f_atomStart f_atomEntry f_choices f_wayPiece f_wayPlace : Int32} {f_wayNotes : Int64} {f_hasResult f_resultStart f_resultEnd : Int32} {f_resultNotes : Int64} {a_tokenKind a_tokenValue a_text a_pieceKind a_pieceValue a_pieceNext a_pieceSecond a_levelGroup a_levelStart a_levelEntry a_branchStart a_branchEntry : Nat → Int32} {a_placesSeen : Nat → Int64} {a_choicePiece a_choicePlace : Nat → Int32} {a_choiceNotes : Nat → Int64}
theorem xm_IF {x1 x2 : Int32} {P len : Nat} (hP : P ≤ 36) (hl : len ≤ 32) : mt_X (fg_q a_pieceKind a_pieceValue a_pieceNext a_pieceSecond) P len (¬ x2 = 0) (xm_ft a_text) xm_nw (xm_W f_tokens f_faultPlace (nI len) f_pieces f_patternEntry f_hasPattern f_tooLarge f_level f_groups f_atomStart f_atomEntry f_choices f_wayPiece f_wayPlace f_wayNotes f_hasResult f_resultStart f_resultEnd f_resultNotes a_tokenKind a_tokenValue a_text a_pieceKind a_pieceValue a_pieceNext a_pieceSecond a_levelGroup a_levelStart a_levelEntry a_branchStart a_branchEntry a_placesSeen a_choicePiece a_choicePlace a_choiceNotes P x1 x2) (xm_WP f_tokens f_faultPlace (nI len) f_pieces f_patternEntry f_hasPattern f_tooLarge f_level f_groups f_atomStart f_atomEntry f_choices f_wayPiece f_wayPlace f_wayNotes f_hasResult f_resultStart f_resultEnd f_resultNotes a_tokenKind a_tokenValue a_text a_pieceKind a_pieceValue a_pieceNext a_pieceSecond a_levelGroup a_levelStart a_levelEntry a_branchStart a_branchEntry a_placesSeen a_choicePiece a_choicePlace a_choiceNotes P x1 x2) := by
  refine ⟨?_, ?_, ?_, ?_, ?_, ?_, ?_, ?_, ?_⟩
  · intro Q f t s st a w ht ha hal hQ s' hs' post h0 h1 cp cl cn n hst hn
    obtain ⟨n, rfl⟩ : ∃ k, n = k + 1 := ⟨n - 1, by omega⟩
    refine br_f (nI_ge (b := 2378) ht (by omega)) (br_t rfl ?_)
    by_cases hx : x2 = 0
    · exact br_t hx (h1 a w hQ _ _ _ _ _ _ _ _)
    · exact br_f hx (br_t (by rw [hal hx]) (h1 a w hQ _ _ _ _ _ _ _ _))
  · intro Q f t s st a w ht ha hall hne hW s' hs' post h0 h1 cp cl cn n hst hn
    obtain ⟨n, rfl⟩ : ∃ k, n = k + 1 := ⟨n - 1, by omega⟩
    have hne' : ¬ nI a = nI len := fun h => hne ((nI_eq (by omega) (by omega)).mp h)
    exact br_f (nI_ge (b := 2378) ht (by omega)) (br_t rfl (br_f hall (br_f hne' (xm_f44 (f_choices := 0) h0 h1 hst (show f ≤ n by omega) (fun post' h => xm_out h) hs' hW))))
  · intro Q f t s st p a w ht ha hp hs hW s' hs' post h0 h1 cp cl cn n hst hn
    rw [← hs' p hp] at hs
    obtain ⟨n, rfl⟩ : ∃ k, n = k + 1 := ⟨n - 1, by omega⟩
    exact br_f (nI_ge (b := 2378) ht (by omega)) (br_f (fg_ne (by omega)) (xm_f44 (f_choices := 0) h0 h1 hst (show f ≤ n by omega) (fun post' h => xm_seen (by omega) (by omega) hs h) hs' hW))
  · intro Q f t s st p a w ht ha hp hs hk hg hW s' hs' post h0 h1 cp cl cn n hst hn
    rw [← hs' p hp] at hs
    obtain ⟨n, rfl⟩ : ∃ k, n = k + 1 := ⟨n - 1, by omega⟩
    refine br_f (nI_ge (b := 2378) ht (by omega)) (br_f (fg_ne (by omega)) ?_)
    rcases hk with hk | hk | hk
    · exact xm_f44 (f_choices := 0) h0 h1 hst (show f ≤ n by omega) (fun post' h => xm_fit0 (by omega) hl ha hs hk (fun h' => hg (Or.inl ⟨hk, h'.1, h'.2⟩)) h) (xm_ag hs') hW
    · exact xm_f44 (f_choices := 0) h0 h1 hst (show f ≤ n by omega) (fun post' h => xm_beg (by omega) hl ha hs hk (fun e => absurd (Or.inr (Or.inl ⟨hk, e⟩)) hg) (fun _ => h)) (xm_ag hs') hW
    · exact xm_f44 (f_choices := 0) h0 h1 hst (show f ≤ n by omega) (fun post' h => xm_end (by omega) hl ha hs hk (fun e => absurd (Or.inr (Or.inr ⟨hk, e⟩)) hg) (fun _ => h)) (xm_ag hs') hW
  · intro Q f t s st p a w ht ha hp hs hk hg hW s' hs' post h0 h1 cp cl cn n hst hn
    rw [← hs' p hp] at hs
    obtain ⟨n, rfl⟩ : ∃ k, n = k + 1 := ⟨n - 1, by omega⟩
    refine br_f (nI_ge (b := 2378) ht (by omega)) (br_f (fg_ne (by omega)) ?_)
    rcases hg with ⟨hk', g1, g2⟩ | ⟨hk', g1⟩ | ⟨hk', g1⟩
    · have e : mt_nx (a_pieceKind p) a = a + 1 := if_pos hk'
      have hW' := hW _ (xm_ag hs') post h0 h1 cp cl cn n hst (by omega)
      have hW2 := (congrArg (fun z => wX_matchesFrom_7 post x1 x2 n (nI (t + 1)) f_tokens f_faultPlace (nI len) f_pieces f_patternEntry f_hasPattern f_tooLarge f_level f_groups f_atomStart f_atomEntry (nI st.length) (a_pieceNext p) (nI z) w f_hasResult f_resultStart f_resultEnd f_resultNotes a_tokenKind a_tokenValue a_text a_pieceKind a_pieceValue a_pieceNext a_pieceSecond a_levelGroup a_levelStart a_levelEntry a_branchStart a_branchEntry (mt_mk s' p a) cp cl cn) e).mp hW'
      exact xm_g44 (fun post' h => xm_fit1 (by omega) hl g1 hs hk' g2 h) hW2
    · have e : mt_nx (a_pieceKind p) a = a := if_neg (by rw [show a_pieceKind p = 1 from hk']; decide)
      have hW' := hW _ (xm_ag hs') post h0 h1 cp cl cn n hst (by omega)
      have hW2 := (congrArg (fun z => wX_matchesFrom_7 post x1 x2 n (nI (t + 1)) f_tokens f_faultPlace (nI len) f_pieces f_patternEntry f_hasPattern f_tooLarge f_level f_groups f_atomStart f_atomEntry (nI st.length) (a_pieceNext p) (nI z) w f_hasResult f_resultStart f_resultEnd f_resultNotes a_tokenKind a_tokenValue a_text a_pieceKind a_pieceValue a_pieceNext a_pieceSecond a_levelGroup a_levelStart a_levelEntry a_branchStart a_branchEntry (mt_mk s' p a) cp cl cn) e).mp hW'
      exact xm_g44 (fun post' h => xm_beg (by omega) hl ha hs hk' (fun _ => h) (fun e' => absurd g1 e')) hW2
    · have e : mt_nx (a_pieceKind p) a = a := if_neg (by rw [show a_pieceKind p = 2 from hk']; decide)
      have hW' := hW _ (xm_ag hs') post h0 h1 cp cl cn n hst (by omega)
      have hW2 := (congrArg (fun z => wX_matchesFrom_7 post x1 x2 n (nI (t + 1)) f_tokens f_faultPlace (nI len) f_pieces f_patternEntry f_hasPattern f_tooLarge f_level f_groups f_atomStart f_atomEntry (nI st.length) (a_pieceNext p) (nI z) w f_hasResult f_resultStart f_resultEnd f_resultNotes a_tokenKind a_tokenValue a_text a_pieceKind a_pieceValue a_pieceNext a_pieceSecond a_levelGroup a_levelStart a_levelEntry a_branchStart a_branchEntry (mt_mk s' p a) cp cl cn) e).mp hW'
      exact xm_g44 (fun post' h => xm_end (by omega) hl ha hs hk' (fun _ => h) (fun e' => absurd g1 e')) hW2
  · intro Q f t s st p a w k ht ha hp hs hk hv hk6 hW s' hs' post h0 h1 cp cl cn n hst hn
    rw [← hs' p hp] at hs
    obtain ⟨n, rfl⟩ : ∃ k, n = k + 1 := ⟨n - 1, by omega⟩
    exact br_f (nI_ge (b := 2378) ht (by omega)) (br_f (fg_ne (by omega)) (xm_g44 (fun post' h => xm_note (by omega) (by omega) hs hk hv h) (hW _ (xm_ag hs') post h0 h1 cp cl cn n hst (by omega))))
  · intro Q f t s st p a w ht ha hp hs hk hc hW s' hs' post h0 h1 cp cl cn n hst hn
    rw [← hs' p hp] at hs
    obtain ⟨n, rfl⟩ : ∃ k, n = k + 1 := ⟨n - 1, by omega⟩
    exact br_f (nI_ge (b := 2378) ht (by omega)) (br_f (fg_ne (by omega)) (xm_g44 (fun post' h => xm_fork (by omega) (by omega) hs hk hc h) (hW _ (xm_ag hs') post h0 h1 _ _ _ n (xm_Stk_p hst) (by omega))))
  · intro Q f t s st q a w _ hc h
    exact ⟨hc, h⟩
  · intro Q f t s hQ
    exact hQ
end XO
