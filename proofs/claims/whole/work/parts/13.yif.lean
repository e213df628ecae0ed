section YN
variable {g_count g_place g_end g_size g_large g_ready g_depth g_groups g_atom g_atomSize g_length g_found : Int32} {b_kind b_value b_op b_with b_one b_two b_copyOp b_copyWith b_copyOne b_copyTwo b_opened b_branch b_sizes b_jumps b_groupOf b_text : Nat → Int32} {b_met : Nat → Int64} {b_todo b_notes : Nat → Int32}
theorem ym_IF {x2 : Int32} {E len : Nat} (hE : E < 159) (hl : len ≤ 32) (h6 : b_op E = 6) : mt_Y (fg_q b_op b_with b_one b_two) E len (¬ x2 = 0) (xm_ft b_text) (ym_WI g_count g_place g_end g_size g_large g_ready g_depth g_groups g_atom g_atomSize (nI len) g_found b_kind b_value b_op b_with b_one b_two b_copyOp b_copyWith b_copyOne b_copyTwo b_opened b_branch b_sizes b_jumps b_groupOf b_text b_met b_todo b_notes E x2) (ym_WO g_count g_place g_end g_size g_large g_ready g_depth g_groups g_atom g_atomSize (nI len) g_found b_kind b_value b_op b_with b_one b_two b_copyOp b_copyWith b_copyOne b_copyTwo b_opened b_branch b_sizes b_jumps b_groupOf b_text b_met b_todo b_notes E x2) := by
  refine ⟨?_, ?_, ?_, ?_, ?_, ?_, ?_, ?_, ?_, ?_, ?_⟩
  · intro Q f met YL no i a t hi ht ha h4 hon hW met' no' hm hq post h0 h1 todo n N hT hn hN
    obtain ⟨n, rfl⟩ : ∃ k, n = k + 1 := ⟨n - 1, by omega⟩
    have hv : vp_in (nI i) 160 := vp_in_nI (by omega) (by omega)
    exact br_f (nI_pos (by omega)) ⟨hv, br_f (ym_n (by omega) h4 (by decide)) ⟨hv, br_t (ym_c (by omega) h4) ⟨hv, nm_r (by rw [ym_c (f := b_one) (by omega) rfl]; exact hon) (hW _ _ hm hq post h0 h1 todo n N hT (by omega) (by omega))⟩⟩⟩
  · intro Q f met YL no a ha hal hQ met' no' hm hq post h0 h1 todo n N hT hn hN
    obtain ⟨n, rfl⟩ : ∃ k, n = k + 1 := ⟨n - 1, by omega⟩
    have hv : vp_in (nI E) 160 := vp_in_nI (by omega) (by omega)
    have hr := h1 a no hQ met' todo no' hq
    refine br_f (nI_pos (by omega)) ⟨hv, br_t (ym_c (by omega) h6) ?_⟩
    by_cases hx : x2 = 0
    · exact br_t hx (nm_r (by rw [ym_nb (by omega)]) hr)
    · exact br_f hx (br_t (by rw [hal hx]) (nm_r (by rw [ym_nb (by omega)]) hr))
  · intro Q f met YL no a ha hall hne hW met' no' hm hq post h0 h1 todo n N hT hn hN
    obtain ⟨n, rfl⟩ : ∃ k, n = k + 1 := ⟨n - 1, by omega⟩
    have hv : vp_in (nI E) 160 := vp_in_nI (by omega) (by omega)
    have hne' : ¬ nI a = nI len := fun h => hne ((nI_eq (by omega) (by omega)).mp h)
    exact br_f (nI_pos (by omega)) ⟨hv, br_t (ym_c (by omega) h6) (br_f hall (br_f hne' (ym_fail hm hq h0 h1 hT (by omega) (by omega) hW)))⟩
  · intro Q f met YL no i a hi ha n4 n6 hs hW met' no' hm hq post h0 h1 todo n N hT hn hN
    rw [← hm i (by omega)] at hs
    obtain ⟨n, rfl⟩ : ∃ k, n = k + 1 := ⟨n - 1, by omega⟩
    have hv : vp_in (nI i) 160 := vp_in_nI (by omega) (by omega)
    exact br_f (nI_pos (by omega)) ⟨hv, br_f (ym_n (by omega) rfl n6) ⟨hv, br_f (ym_n (by omega) rfl n4) ⟨hv, br_f (ym_bn (by omega) (by omega) hs) (ym_fail hm hq h0 h1 hT (by omega) (by omega) hW)⟩⟩⟩
  · intro Q f met YL no i a hi ha hk hs hg hW met' no' hm hq post h0 h1 todo n N hT hn hN
    rw [← hm i (by omega)] at hs
    obtain ⟨n, rfl⟩ : ∃ k, n = k + 1 := ⟨n - 1, by omega⟩
    have hv : vp_in (nI i) 160 := vp_in_nI (by omega) (by omega)
    have hk' : b_op i = 0 ∨ b_op i = 1 ∨ b_op i = 2 := hk
    have n6 : ¬ b_op i = 6 := by rcases hk' with h | h | h <;> rw [h] <;> decide
    have n4 : ¬ b_op i = 4 := by rcases hk' with h | h | h <;> rw [h] <;> decide
    have n3 : ¬ b_op i = 3 := by rcases hk' with h | h | h <;> rw [h] <;> decide
    refine br_f (nI_pos (by omega)) ⟨hv, br_f (ym_n (by omega) rfl n6) ⟨hv, br_f (ym_n (by omega) rfl n4) ⟨hv, br_t (ym_b0 (by omega) (by omega) hs) ⟨hv, hv, nm_r (xm_mke (by omega) (by omega)) ⟨hv, br_f (ym_n (by omega) rfl n3) ?_⟩⟩⟩⟩⟩
    exact ym_single (by omega) hl ha hk' (fun h => absurd h hg) (fun _ y _ => ym_fail (ym_ag hm) hq h0 h1 hT (by omega) (by omega) hW)
  · intro Q f met YL no i a hi ha hk hs hg ho hW met' no' hm hq post h0 h1 todo n N hT hn hN
    rw [← hm i (by omega)] at hs
    obtain ⟨n, rfl⟩ : ∃ k, n = k + 1 := ⟨n - 1, by omega⟩
    have hv : vp_in (nI i) 160 := vp_in_nI (by omega) (by omega)
    have hk' : b_op i = 0 ∨ b_op i = 1 ∨ b_op i = 2 := hk
    have n6 : ¬ b_op i = 6 := by rcases hk' with h | h | h <;> rw [h] <;> decide
    have n4 : ¬ b_op i = 4 := by rcases hk' with h | h | h <;> rw [h] <;> decide
    have n3 : ¬ b_op i = 3 := by rcases hk' with h | h | h <;> rw [h] <;> decide
    refine br_f (nI_pos (by omega)) ⟨hv, br_f (ym_n (by omega) rfl n6) ⟨hv, br_f (ym_n (by omega) rfl n4) ⟨hv, br_t (ym_b0 (by omega) (by omega) hs) ⟨hv, hv, nm_r (xm_mke (by omega) (by omega)) ⟨hv, br_f (ym_n (by omega) rfl n3) ?_⟩⟩⟩⟩⟩
    exact ym_single (by omega) hl ha hk' (fun _ => ⟨ho, hW _ _ (ym_ag hm) hq post h0 h1 todo n N hT (by omega) (by omega)⟩) (fun h => absurd hg h)
  · intro Q f met YL no i a k o hi ha h5 hw hk6 hs ho hno ho33 hlen hW met' no' hm hq post h0 h1 todo n N hT hn hN
    rw [← hm i (by omega)] at hs
    obtain ⟨n, rfl⟩ : ∃ k, n = k + 1 := ⟨n - 1, by omega⟩
    have hv : vp_in (nI i) 160 := vp_in_nI (by omega) (by omega)
    have h5' : b_op i = 5 := h5
    have hw' : b_with i = nI (k + 2) := hw
    have ho' : b_one i = 1 := ho
    have h8 : vp_in (nI (k + 2)) 8 := vp_in_nI (by omega) (by omega)
    refine br_f (nI_pos (by omega)) ⟨hv, br_f (ym_n (by omega) h5' (by decide)) ⟨hv, br_f (ym_n (by omega) h5' (by decide)) ⟨hv, br_t (ym_b0 (by omega) (by omega) hs) ⟨hv, hv, nm_r (xm_mke (by omega) (by omega)) ⟨hv, br_f (ym_n (by omega) h5' (by decide)) ⟨hv, br_t (ym_c (by omega) h5') ?_⟩⟩⟩⟩⟩⟩
    rw [ym_c (f := b_with) (by omega) hw', nI_clamp (n := k + 2) (by omega), hq (k + 2) (by omega), hno]
    refine nm_r (nI_1 YL.length) ⟨hv, h8, hv, vp_in_nI (by omega) (by omega), nm_r (e' := upd todo YL.length (ym_e (true, k, o))) ?_ ⟨hv, h8, nm_r (e' := upd no' (k + 2) (nI a)) ?_ ?_⟩⟩
    · rw [nI_clamp (n := YL.length) (by omega), ym_u1 o (by omega) k hk6]; rfl
    · rw [ym_nb (by omega)]
    · exact ym_goon (by omega) h5' (by decide) (by decide) (by decide) (by rw [ho', nI_1]) (hW _ _ (ym_ag hm) (ym_au hq) post h0 h1 _ n N (ym_T_p rfl hT) (by omega) (by omega))
  · intro Q f met YL no i a t1 t2 hi ha h3 hs ht1 hon ht2 htw hlen hW met' no' hm hq post h0 h1 todo n N hT hn hN
    rw [← hm i (by omega)] at hs
    obtain ⟨n, rfl⟩ : ∃ k, n = k + 1 := ⟨n - 1, by omega⟩
    have hv : vp_in (nI i) 160 := vp_in_nI (by omega) (by omega)
    have h3' : b_op i = 3 := h3
    have htw' : nI i + b_two i = nI t2 := htw
    refine br_f (nI_pos (by omega)) ⟨hv, br_f (ym_n (by omega) h3' (by decide)) ⟨hv, br_f (ym_n (by omega) h3' (by decide)) ⟨hv, br_t (ym_b0 (by omega) (by omega) hs) ⟨hv, hv, nm_r (xm_mke (by omega) (by omega)) ⟨hv, br_t (ym_c (by omega) h3') (nm_r (nI_1 YL.length) ⟨hv, vp_in_nI (by omega) (by omega), nm_r (e' := upd todo YL.length (ym_e (false, t2, a))) ?_ ⟨hv, br_f (ym_n (by omega) h3' (by decide)) ?_⟩⟩)⟩⟩⟩⟩⟩
    · rw [nI_clamp (n := YL.length) (by omega), ym_c (f := b_two) (by omega) rfl, htw', ym_t1 (by omega) (by omega)]; rfl
    · exact ym_goon (by omega) h3' (by decide) (by decide) (by decide) hon (hW _ _ (ym_ag hm) hq post h0 h1 _ n N (ym_T_p rfl hT) (by omega) (by omega))
  · intro Q f met YL no k o hk6 ho33 hlen hW met' no' hm hq post h0 h1 todo N hT hN
    obtain ⟨N, rfl⟩ : ∃ k, N = k + 1 := ⟨N - 1, by omega⟩
    obtain ⟨hT1, hT2⟩ := hT
    refine br_f (nI_nle (n := YL.length + 1) (by omega) (by omega)) (nm_r (pk_m1 YL.length) ⟨vp_in_nI (by omega) (by omega), nm_r (e' := -(nI (8 * (o + 1) + (k + 2)))) ?_ (br_f (ym_u2 o (by omega) k hk6) ?_)⟩)
    · rw [nI_clamp (by omega), hT1]; rfl
    · rw [ym_u3 o (by omega) k hk6, ym_u4 o (by omega) k hk6, ym_nm (by omega), nI_clamp (n := k + 2) (by omega)]
      exact ⟨vp_in_nI (by omega) (by omega), nm_e (hW _ _ hm (ym_au hq) post h0 h1 todo N hT2 (by omega))⟩
  · intro Q f met YL no i a hi ha hlen hW met' no' hm hq post h0 h1 todo N hT hN
    obtain ⟨N, rfl⟩ : ∃ k, N = k + 1 := ⟨N - 1, by omega⟩
    obtain ⟨hT1, hT2⟩ := hT
    refine br_f (nI_nle (n := YL.length + 1) (by omega) (by omega)) (nm_r (pk_m1 YL.length) ⟨vp_in_nI (by omega) (by omega), nm_r (e' := nI (64 * i + a)) ?_ (br_t (nI_pos' (by omega)) ?_)⟩)
    · rw [nI_clamp (by omega), hT1]; rfl
    · exact nm_r (ym_t2 (by omega) (by omega)) (nm_r (ym_t3 (by omega) (by omega)) ⟨f + 2, hW _ _ hm hq post h0 h1 todo (f + 2) N hT2 (by omega) (by omega)⟩)
  · intro Q f met no hQ met' no' hm hq post h0 h1 todo N hT hN
    obtain ⟨N, rfl⟩ : ∃ k, N = k + 1 := ⟨N - 1, by omega⟩
    exact br_t (by decide) (h0 hQ _ _ _)
end YN
