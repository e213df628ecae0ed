section YC
def cy_sh (f : Nat → Int32) (i e : Nat) : Nat → Int32 := fun j => if i < j ∧ j ≤ e then f (j - 1) else f j
theorem cy_sh_e (f : Nat → Int32) (e : Nat) : cy_sh f e e = f := by
  funext j; exact if_neg (by omega)
theorem cy_sh_s {f : Nat → Int32} {i e : Nat} (h : i + 1 ≤ e) : upd (cy_sh f (i + 1) e) (i + 1) (cy_sh f (i + 1) e i) = cy_sh f i e := by
  funext j
  unfold upd cy_sh
  by_cases h1 : j = i + 1
  · rw [if_pos h1, if_neg (by omega), if_pos (by omega), h1, Nat.add_sub_cancel]
  · rw [if_neg h1]
    by_cases h2 : i + 1 < j ∧ j ≤ e
    · rw [if_pos h2, if_pos (by omega)]
    · rw [if_neg h2, if_neg (by omega)]
theorem cy_sh_lo {f : Nat → Int32} {i e j : Nat} (h : j ≤ i) : cy_sh f i e j = f j := if_neg (by omega)
theorem cy_sh_hi {f : Nat → Int32} {i e j : Nat} (h : i ≤ j) (h2 : j < e) : cy_sh f i e (j + 1) = f j := by
  unfold cy_sh; rw [if_pos (by omega), Nat.add_sub_cancel]
theorem cy_sh_B {f : Nat → Int32} {i e : Nat} (h : rl_B f) : rl_B (cy_sh f i e) := by
  intro j
  unfold cy_sh
  split
  · exact h _
  · exact h _
theorem cy_sh_S {f : Nat → Int32} {i e : Nat} (h : rl_S f) : rl_S (cy_sh f i e) := by
  intro j
  unfold cy_sh
  split
  · exact h _
  · exact h _
theorem cy_nb3 : vp_nar .byte 3 = 3 := by rw [vp_nar_byte]; decide
theorem cy_ns1 : vp_nar .short 1 = 1 := by rw [vp_nar_short]; decide
/-- the jumps that wait, mended -/
def cy_pt (en : Nat) : List Nat → (Nat → Int32) → (Nat → Int32)
  | [], F => F
  | j :: J, F => cy_pt en J (upd F j (nI (en - j)))
theorem cy_pt_n {en : Nat} : ∀ (J : List Nat) (F : Nat → Int32) (j : Nat), ¬ j ∈ J → cy_pt en J F j = F j
  | [], _, _, _ => rfl
  | i :: J, F, j, h => by
    show cy_pt en J (upd F i (nI (en - i))) j = _
    rw [cy_pt_n J _ j (fun h' => h (List.mem_cons_of_mem _ h')), rl_un (fun e => h (by rw [e]; exact List.mem_cons_self))]
theorem cy_pt_m {en : Nat} : ∀ (J : List Nat) (F : Nat → Int32) (j : Nat), j ∈ J → cy_pt en J F j = nI (en - j)
  | [], _, _, h => by cases h
  | i :: J, F, j, h => by
    show cy_pt en J (upd F i (nI (en - i))) j = _
    by_cases hj : j ∈ J
    · exact cy_pt_m J _ j hj
    · rw [cy_pt_n J _ j hj]
      rcases List.mem_cons.mp h with e | e
      · rw [e, rl_us]
      · exact absurd e hj
theorem cy_pt_S {en : Nat} (he : en < 1000) : ∀ (J : List Nat) (F : Nat → Int32), rl_S F → rl_S (cy_pt en J F)
  | [], _, h => h
  | j :: J, F, h => cy_pt_S he J _ (rl_Su h (cy_Sn (by omega)))
variable {g_count g_place g_end g_size g_large g_ready g_depth g_groups g_atom g_atomSize g_length g_found : Int32} {b_kind b_value b_op b_with b_one b_two b_copyOp b_copyWith b_copyOne b_copyTwo b_opened b_branch b_sizes b_jumps b_groupOf b_text : Nat → Int32} {b_met : Nat → Int64} {b_todo b_notes : Nat → Int32}
theorem cy_alt30 {post : SY → Prop} {lv en br sz : Nat} {jm : Int32} (hl : lv < 25) (hen : en + 1 < 160) (hbr : br ≤ en) (hb : b_branch lv = nI br) (hj : b_jumps lv = jm) (hjS : cy_S jm) (B1 : rl_B b_op) (B2 : rl_B b_with) (S1 : rl_S b_one) (S2 : rl_S b_two)
    (h : post (g_count, g_place, nI (en + 2), g_size, 0, g_ready, g_depth, g_groups, g_atom, g_atomSize, g_length, g_found, b_kind, b_value, upd (upd (cy_sh b_op br en) br 3) (en + 1) 4, upd (cy_sh b_with br en) (en + 1) 0, upd (upd (cy_sh b_one br en) br 1) (en + 1) jm, upd (upd (cy_sh b_two br en) br (nI (en + 2 - br))) (en + 1) 0, b_copyOp, b_copyWith, b_copyOne, b_copyTwo, b_opened, upd b_branch lv (nI (en + 2)), b_sizes, upd b_jumps lv (nI (en + 1)), b_groupOf, b_text, b_met, b_todo, b_notes)) : ∀ (d i : Nat), br + d = i → i ≤ en →
    wY_alternative_30 post (nI lv) g_count g_place (nI en) g_size 0 g_ready g_depth g_groups g_atom g_atomSize g_length g_found (d + 1) (nI i) b_kind b_value (cy_sh b_op i en) (cy_sh b_with i en) (cy_sh b_one i en) (cy_sh b_two i en) b_copyOp b_copyWith b_copyOne b_copyTwo b_opened b_branch b_sizes b_jumps b_groupOf b_text b_met b_todo b_notes := by
  have hv : vp_in (nI lv) 25 := vp_in_nI hl (by omega)
  have ec : (nI lv).toNatClampNeg = lv := nI_clamp (by omega)
  have hvb : vp_in (nI br) 160 := vp_in_nI (by omega) (by omega)
  have eb : (nI br).toNatClampNeg = br := nI_clamp (by omega)
  intro d
  induction d with
  | zero =>
    intro i hi hie
    obtain rfl : br = i := by omega
    refine ⟨hv, ?_⟩
    rw [ec, hb, hj]
    refine br_t (nI_le (Nat.le_refl _) (by omega)) (nm_r (nI_1 en) ⟨hv, nm_e ?_⟩)
    rw [eb]
    refine ⟨hvb, nm_r (by rw [cy_nb3]) ⟨hvb, nm_r (by rw [cy_ns1]) ⟨hvb, nm_r (e' := upd (cy_sh b_two br en) br (nI (en + 2 - br))) ?_ ⟨hv, ?_⟩⟩⟩⟩
    · rw [nI_1, pk_sub (show br ≤ en + 1 + 1 by omega), show en + 1 + 1 - br = en + 2 - br by omega, cy_nS (cy_Sn (by omega))]
    · refine cy_emit (en := en + 1) (by omega) (cy_Bn (n := 4) (by omega)) (cy_Bn (n := 0) (by omega)) hjS (cy_Sn (n := 0) (by omega)) ?_
      exact ⟨hv, nm_r (by rw [cy_nS (cy_Sn (show en + 1 < 32768 by omega))]) ⟨hv, nm_r (by rw [cy_nS (cy_Sn (show en + 1 + 1 < 32768 by omega))]) h⟩⟩
  | succ d ih =>
    intro i hi hie
    obtain ⟨i, rfl⟩ : ∃ k, i = k + 1 := ⟨i - 1, by omega⟩
    have hv1 : vp_in (nI i) 160 := vp_in_nI (by omega) (by omega)
    have hv2 : vp_in (nI (i + 1)) 160 := vp_in_nI (by omega) (by omega)
    have e1 : (nI i).toNatClampNeg = i := nI_clamp (by omega)
    have e2 : (nI (i + 1)).toNatClampNeg = i + 1 := nI_clamp (by omega)
    refine ⟨hv, ?_⟩
    rw [ec, hb, nI_pred, e1, e2]
    refine br_f (nI_ge (by omega) (by omega)) ⟨hv1, hv2, nm_r (e' := cy_sh b_op i en) ?_ ⟨hv1, hv2, nm_r (e' := cy_sh b_with i en) ?_ ⟨hv1, hv2, nm_r (e' := cy_sh b_one i en) ?_ ⟨hv1, hv2, nm_r (e' := cy_sh b_two i en) ?_ (nm_r (pk_m1 i) (ih i (by omega) (by omega)))⟩⟩⟩⟩
    · rw [cy_sh_B B1, cy_sh_s (by omega)]
    · rw [cy_sh_B B2, cy_sh_s (by omega)]
    · rw [cy_sh_S S1, cy_sh_s (by omega)]
    · rw [cy_sh_S S2, cy_sh_s (by omega)]
theorem cy_altC {post : SY → Prop} {lv en br sz : Nat} {jm : Int32} (hl : lv < 25) (hen : en + 1 < 160) (hbr : br ≤ en) (hs : sz + 1 ≤ 36) (hb : b_branch lv = nI br) (hj : b_jumps lv = jm) (hjS : cy_S jm) (B1 : rl_B b_op) (B2 : rl_B b_with) (S1 : rl_S b_one) (S2 : rl_S b_two)
    (h : post (g_count, g_place, nI (en + 2), nI (sz + 1), 0, g_ready, nI (lv + 1), g_groups, (-1), g_atomSize, g_length, g_found, b_kind, b_value, upd (upd (cy_sh b_op br en) br 3) (en + 1) 4, upd (cy_sh b_with br en) (en + 1) 0, upd (upd (cy_sh b_one br en) br 1) (en + 1) jm, upd (upd (cy_sh b_two br en) br (nI (en + 2 - br))) (en + 1) 0, b_copyOp, b_copyWith, b_copyOne, b_copyTwo, b_opened, upd b_branch lv (nI (en + 2)), b_sizes, upd b_jumps lv (nI (en + 1)), b_groupOf, b_text, b_met, b_todo, b_notes)) : wpY_alternative post (g_count, g_place, nI en, nI sz, cq_la sz, g_ready, nI (lv + 1), g_groups, g_atom, g_atomSize, g_length, g_found, b_kind, b_value, b_op, b_with, b_one, b_two, b_copyOp, b_copyWith, b_copyOne, b_copyTwo, b_opened, b_branch, b_sizes, b_jumps, b_groupOf, b_text, b_met, b_todo, b_notes) := by
  refine nm_r (nI_pred lv) ?_
  refine cy_grow (sz := sz) (k := 1) (by omega) ?_
  rw [cq_la0 hs]
  refine br_t rfl ⟨en - br + 1, ?_⟩
  have := cy_alt30 (sz := sz) hl hen hbr hb hj hjS B1 B2 S1 S2 h (en - br) en (by omega) (Nat.le_refl _)
  rw [cy_sh_e, cy_sh_e, cy_sh_e, cy_sh_e] at this
  exact this
theorem cy_altL {post : SY → Prop} {lv sz : Nat} (hs : 36 < sz + 1) (hs2 : sz < 1000)
    (h : post (g_count, g_place, g_end, nI (sz + 1), 1, g_ready, nI (lv + 1), g_groups, (-1), g_atomSize, g_length, g_found, b_kind, b_value, b_op, b_with, b_one, b_two, b_copyOp, b_copyWith, b_copyOne, b_copyTwo, b_opened, b_branch, b_sizes, b_jumps, b_groupOf, b_text, b_met, b_todo, b_notes)) : wpY_alternative post (g_count, g_place, g_end, nI sz, cq_la sz, g_ready, nI (lv + 1), g_groups, g_atom, g_atomSize, g_length, g_found, b_kind, b_value, b_op, b_with, b_one, b_two, b_copyOp, b_copyWith, b_copyOne, b_copyTwo, b_opened, b_branch, b_sizes, b_jumps, b_groupOf, b_text, b_met, b_todo, b_notes) := by
  refine nm_r (nI_pred lv) ?_
  refine cy_grow (sz := sz) (k := 1) (by omega) ?_
  rw [cq_la1 hs]
  exact br_f (by decide) h
theorem cy_alt1 {post : SY → Prop} {lv : Nat} (h : post (g_count, g_place, g_end, g_size + 1, 1, g_ready, nI (lv + 1), g_groups, (-1), g_atomSize, g_length, g_found, b_kind, b_value, b_op, b_with, b_one, b_two, b_copyOp, b_copyWith, b_copyOne, b_copyTwo, b_opened, b_branch, b_sizes, b_jumps, b_groupOf, b_text, b_met, b_todo, b_notes)) : wpY_alternative post (g_count, g_place, g_end, g_size, 1, g_ready, nI (lv + 1), g_groups, g_atom, g_atomSize, g_length, g_found, b_kind, b_value, b_op, b_with, b_one, b_two, b_copyOp, b_copyWith, b_copyOne, b_copyTwo, b_opened, b_branch, b_sizes, b_jumps, b_groupOf, b_text, b_met, b_todo, b_notes) := by
  refine nm_r (nI_pred lv) ?_
  refine cy_grow1 ?_
  exact br_f (by decide) h
/-- close -/
theorem cy_close26 {post : SY → Prop} {lv en : Nat} {m : Nat → fg_I} (hen : en < 160) : ∀ (J : List Nat) (F : Nat → Int32) (jm : Int32), fg_JC m J jm → (∀ j, j ∈ J → j < en ∧ F j = (m j).2.2.1) →
    wY_close_55 post (nI lv) g_count g_place (nI en) g_size g_large g_ready g_depth g_groups g_atom g_atomSize g_length g_found b_kind b_value b_op b_with (cy_pt en J F) b_two b_copyOp b_copyWith b_copyOne b_copyTwo b_opened b_branch b_sizes b_jumps b_groupOf b_text b_met b_todo b_notes → wY_close_26 post (nI lv) g_count g_place (nI en) g_size g_large g_ready g_depth g_groups g_atom g_atomSize g_length g_found (J.length + 1) jm b_kind b_value b_op b_with F b_two b_copyOp b_copyWith b_copyOne b_copyTwo b_opened b_branch b_sizes b_jumps b_groupOf b_text b_met b_todo b_notes
  | [], F, jm, hJ, _, h => by
    have : jm = -1 := hJ
    rw [this]
    exact br_t (by decide) h
  | j :: J, F, jm, hJ, hF, h => by
    obtain ⟨h1, h2, h3⟩ := hJ
    obtain ⟨f1, f2⟩ := hF j List.mem_cons_self
    have hv : vp_in (nI j) 160 := vp_in_nI (by omega) (by omega)
    have ec : (nI j).toNatClampNeg = j := nI_clamp (by omega)
    rw [h1]
    refine br_f (nI_pos (by omega)) ⟨hv, nm_r (e' := (m j).2.2.1) (by rw [ec]; exact f2) ⟨hv, nm_r (e' := upd F j (nI (en - j))) ?_ ?_⟩⟩
    · rw [ec, pk_sub (by omega), cy_nS (cy_Sn (by omega))]
    · exact cy_close26 hen J (upd F j (nI (en - j))) _ h3 (fun i hi => ⟨(hF i (List.mem_cons_of_mem _ hi)).1, by rw [rl_un (by have := h2 i hi; omega)]; exact (hF i (List.mem_cons_of_mem _ hi)).2⟩) h
theorem cy_close81 {post : SY → Prop} {lv : Nat} (hl : lv < 25) (h : post (g_count, g_place, g_end, g_size, g_large, g_ready, g_depth, g_groups, b_opened lv, g_size - b_sizes lv, g_length, g_found, b_kind, b_value, b_op, b_with, b_one, b_two, b_copyOp, b_copyWith, b_copyOne, b_copyTwo, b_opened, b_branch, b_sizes, b_jumps, b_groupOf, b_text, b_met, b_todo, b_notes)) : wY_close_81 post (nI lv) g_count g_place g_end g_size g_large g_ready g_depth g_groups g_atom g_atomSize g_length g_found b_kind b_value b_op b_with b_one b_two b_copyOp b_copyWith b_copyOne b_copyTwo b_opened b_branch b_sizes b_jumps b_groupOf b_text b_met b_todo b_notes := by
  have hv : vp_in (nI lv) 25 := vp_in_nI hl (by omega)
  have ec : (nI lv).toNatClampNeg = lv := nI_clamp (by omega)
  exact ⟨hv, nm_r (by rw [ec]) ⟨hv, nm_r (by rw [ec]) h⟩⟩
theorem cy_close55_0 {post : SY → Prop} {lv : Nat} (hl : lv < 25) (hg : b_groupOf lv = nI 0) (h : post (g_count, g_place, g_end, g_size, g_large, g_ready, g_depth, g_groups, b_opened lv, g_size - b_sizes lv, g_length, g_found, b_kind, b_value, b_op, b_with, b_one, b_two, b_copyOp, b_copyWith, b_copyOne, b_copyTwo, b_opened, b_branch, b_sizes, b_jumps, b_groupOf, b_text, b_met, b_todo, b_notes)) : wY_close_55 post (nI lv) g_count g_place g_end g_size g_large g_ready g_depth g_groups g_atom g_atomSize g_length g_found b_kind b_value b_op b_with b_one b_two b_copyOp b_copyWith b_copyOne b_copyTwo b_opened b_branch b_sizes b_jumps b_groupOf b_text b_met b_todo b_notes := by
  have hv : vp_in (nI lv) 25 := vp_in_nI hl (by omega)
  have ec : (nI lv).toNatClampNeg = lv := nI_clamp (by omega)
  refine ⟨hv, br_t (by rw [ec, hg]; decide) (cy_close81 hl h)⟩
theorem cy_close55_g {post : SY → Prop} {lv g en : Nat} (hl : lv < 25) (hen : en < 160) (hg1 : 1 ≤ g) (hg3 : g ≤ 3) (hg : b_groupOf lv = nI g) (h : post (g_count, g_place, nI (en + 1), g_size, 0, g_ready, g_depth, g_groups, b_opened lv, g_size - b_sizes lv, g_length, g_found, b_kind, b_value, upd b_op en 5, upd b_with en (nI (2 * g + 1)), upd b_one en 1, upd b_two en 0, b_copyOp, b_copyWith, b_copyOne, b_copyTwo, b_opened, b_branch, b_sizes, b_jumps, b_groupOf, b_text, b_met, b_todo, b_notes)) : wY_close_55 post (nI lv) g_count g_place (nI en) g_size 0 g_ready g_depth g_groups g_atom g_atomSize g_length g_found b_kind b_value b_op b_with b_one b_two b_copyOp b_copyWith b_copyOne b_copyTwo b_opened b_branch b_sizes b_jumps b_groupOf b_text b_met b_todo b_notes := by
  have hv : vp_in (nI lv) 25 := vp_in_nI hl (by omega)
  have ec : (nI lv).toNatClampNeg = lv := nI_clamp (by omega)
  refine ⟨hv, br_f (by rw [ec, hg]; exact nI_nle (by omega) (by omega)) ⟨hv, ?_⟩⟩
  rw [ec, hg, show 2 * nI g + 1 = nI (2 * g + 1) by rw [show 2 * nI g = nI (2 * g) from pk_mul 2 g, nI_1]]
  exact cy_emit hen (cy_Bn (n := 5) (by omega)) (cy_Bn (by omega)) (cy_Sn (n := 1) (by omega)) (cy_Sn (n := 0) (by omega)) (cy_close81 hl h)
theorem cy_close55_1 {post : SY → Prop} {lv : Nat} (hl : lv < 25) (h : post (g_count, g_place, g_end, g_size, 1, g_ready, g_depth, g_groups, b_opened lv, g_size - b_sizes lv, g_length, g_found, b_kind, b_value, b_op, b_with, b_one, b_two, b_copyOp, b_copyWith, b_copyOne, b_copyTwo, b_opened, b_branch, b_sizes, b_jumps, b_groupOf, b_text, b_met, b_todo, b_notes)) : wY_close_55 post (nI lv) g_count g_place g_end g_size 1 g_ready g_depth g_groups g_atom g_atomSize g_length g_found b_kind b_value b_op b_with b_one b_two b_copyOp b_copyWith b_copyOne b_copyTwo b_opened b_branch b_sizes b_jumps b_groupOf b_text b_met b_todo b_notes := by
  have hv : vp_in (nI lv) 25 := vp_in_nI hl (by omega)
  have ec : (nI lv).toNatClampNeg = lv := nI_clamp (by omega)
  refine ⟨hv, br_c (fun _ => cy_close81 hl h) (fun _ => ⟨hv, ?_⟩)⟩
  exact cy_emit1 (cy_close81 hl h)
theorem cy_close1 {post : SY → Prop} {lv : Nat} (hl : lv < 25) (h : post (g_count, g_place, g_end, g_size, 1, g_ready, nI lv, g_groups, b_opened lv, g_size - b_sizes lv, g_length, g_found, b_kind, b_value, b_op, b_with, b_one, b_two, b_copyOp, b_copyWith, b_copyOne, b_copyTwo, b_opened, b_branch, b_sizes, b_jumps, b_groupOf, b_text, b_met, b_todo, b_notes)) : wpY_close post (g_count, g_place, g_end, g_size, 1, g_ready, nI (lv + 1), g_groups, g_atom, g_atomSize, g_length, g_found, b_kind, b_value, b_op, b_with, b_one, b_two, b_copyOp, b_copyWith, b_copyOne, b_copyTwo, b_opened, b_branch, b_sizes, b_jumps, b_groupOf, b_text, b_met, b_todo, b_notes) :=
  nm_r (nI_pred lv) (nm_r (nI_pred lv) (br_f (by decide) (cy_close55_1 hl h)))
theorem cy_closeC {post : SY → Prop} {lv en : Nat} {J : List Nat} {m : Nat → fg_I} (hl : lv < 25) (hen : en < 160) (hJ : fg_JC m J (b_jumps lv)) (hF : ∀ j, j ∈ J → j < en ∧ b_one j = (m j).2.2.1)
    (h : wY_close_55 post (nI lv) g_count g_place (nI en) g_size 0 g_ready (nI lv) g_groups g_atom g_atomSize g_length g_found b_kind b_value b_op b_with (cy_pt en J b_one) b_two b_copyOp b_copyWith b_copyOne b_copyTwo b_opened b_branch b_sizes b_jumps b_groupOf b_text b_met b_todo b_notes) : wpY_close post (g_count, g_place, nI en, g_size, 0, g_ready, nI (lv + 1), g_groups, g_atom, g_atomSize, g_length, g_found, b_kind, b_value, b_op, b_with, b_one, b_two, b_copyOp, b_copyWith, b_copyOne, b_copyTwo, b_opened, b_branch, b_sizes, b_jumps, b_groupOf, b_text, b_met, b_todo, b_notes) := by
  have hv : vp_in (nI lv) 25 := vp_in_nI hl (by omega)
  have ec : (nI lv).toNatClampNeg = lv := nI_clamp (by omega)
  refine nm_r (nI_pred lv) (nm_r (nI_pred lv) (br_t rfl ⟨hv, nm_r (e' := b_jumps lv) (by rw [ec]) ⟨J.length + 1, ?_⟩⟩))
  exact cy_close26 hen J b_one (b_jumps lv) hJ hF h
end YC
