section YA
variable {g_count g_place g_end g_size g_large g_ready g_depth g_groups g_atom g_atomSize g_length g_found : Int32} {b_kind b_value b_op b_with b_one b_two b_copyOp b_copyWith b_copyOne b_copyTwo b_opened b_branch b_sizes b_jumps b_groupOf b_text : Nat → Int32} {b_met : Nat → Int64} {b_todo b_notes : Nat → Int32}
theorem ya_nb1 : narrow .boolean (.int (1 : Int32)) = .int 1 := rfl
theorem ya_atom {post : Int32 → SY → Prop} {kk : Nat} {v pk pv : Int32} {F : SY → Prop} (hA : xt_A kk v pk pv) (he : ∀ post' : Int32 → SY → Prop, (∀ u, F u → post' 1 u) → wpY_single post' (g_count, g_place, g_end, g_size, g_large, g_ready, g_depth, g_groups, g_atom, g_atomSize, g_length, g_found, b_kind, b_value, b_op, b_with, b_one, b_two, b_copyOp, b_copyWith, b_copyOne, b_copyTwo, b_opened, b_branch, b_sizes, b_jumps, b_groupOf, b_text, b_met, b_todo, b_notes) pk pv) (h : ∀ u, F u → post 1 u) : wpY_accept post (g_count, g_place, g_end, g_size, g_large, g_ready, g_depth, g_groups, g_atom, g_atomSize, g_length, g_found, b_kind, b_value, b_op, b_with, b_one, b_two, b_copyOp, b_copyWith, b_copyOne, b_copyTwo, b_opened, b_branch, b_sizes, b_jumps, b_groupOf, b_text, b_met, b_todo, b_notes) (nI kk) v := by
  have k0 : ¬ nI kk < 0 := nI_pos (by unfold xt_A at hA; omega)
  have k15 : ¬ (15 : Int32) < nI kk := nI_nlt (a := 15) (by unfold xt_A at hA; omega) (by omega)
  refine br_f k0 (br_f k15 ?_)
  rcases hA with ⟨rfl, rfl, rfl⟩ | ⟨rfl, rfl, rfl⟩ | ⟨rfl, rfl, rfl⟩ | ⟨rfl, rfl, rfl⟩ | ⟨rfl, rfl, rfl⟩
  · exact br_t rfl (he _ (fun u hu => ⟨ya_nb1, h u hu⟩))
  · exact br_f (by decide) (br_t rfl (he _ (fun u hu => ⟨ya_nb1, h u hu⟩)))
  · exact br_f (by decide) (br_f (by decide) (br_t rfl (he _ (fun u hu => ⟨ya_nb1, h u hu⟩))))
  · exact br_f (by decide) (br_f (by decide) (br_f (by decide) (br_f (by decide) (br_f (by decide) (br_f (by decide) (br_f (by decide) (br_f (by decide) (br_f (by decide) (br_f (by decide) (br_f (by decide) (br_f (by decide) (br_f (by decide) (br_t rfl (he _ (fun u hu => ⟨ya_nb1, h u hu⟩)))))))))))))))
  · exact br_f (by decide) (br_f (by decide) (br_f (by decide) (br_f (by decide) (br_f (by decide) (br_f (by decide) (br_f (by decide) (br_f (by decide) (br_f (by decide) (br_f (by decide) (br_f (by decide) (br_f (by decide) (br_f (by decide) (br_f (by decide) (br_f (by decide) (br_t rfl (he _ (fun u hu => ⟨ya_nb1, h u hu⟩)))))))))))))))))
theorem ya_open3 {post : Int32 → SY → Prop} {g : Nat} {v : Int32} {F : SY → Prop} (hg : ¬ g = 3) (hg2 : g < 100) (he : ∀ post' : SY → Prop, (∀ u, F u → post' u) → wpY_open post' (g_count, g_place, g_end, g_size, g_large, g_ready, g_depth, nI (g + 1), g_atom, g_atomSize, g_length, g_found, b_kind, b_value, b_op, b_with, b_one, b_two, b_copyOp, b_copyWith, b_copyOne, b_copyTwo, b_opened, b_branch, b_sizes, b_jumps, b_groupOf, b_text, b_met, b_todo, b_notes) (nI (g + 1))) (h : ∀ u, F u → post 1 u) : wpY_accept post (g_count, g_place, g_end, g_size, g_large, g_ready, g_depth, nI g, g_atom, g_atomSize, g_length, g_found, b_kind, b_value, b_op, b_with, b_one, b_two, b_copyOp, b_copyWith, b_copyOne, b_copyTwo, b_opened, b_branch, b_sizes, b_jumps, b_groupOf, b_text, b_met, b_todo, b_notes) (nI 3) v := by
  have n3 : ¬ nI g = 3 := fun e => hg ((nI_eq (b := 3) (by omega) (by omega)).mp e)
  refine br_f (by decide) (br_f (by decide) (br_f (by decide) (br_f (by decide) (br_f (by decide) (br_t rfl (br_t rfl (br_f n3 (br_t rfl (nm_r (nI_1 g) ?_)))))))))
  rw [nI_1]
  exact he _ (fun u hu => h u hu)
theorem ya_open4 {post : Int32 → SY → Prop} {v : Int32} {F : SY → Prop} (he : ∀ post' : SY → Prop, (∀ u, F u → post' u) → wpY_open post' (g_count, g_place, g_end, g_size, g_large, g_ready, g_depth, g_groups, g_atom, g_atomSize, g_length, g_found, b_kind, b_value, b_op, b_with, b_one, b_two, b_copyOp, b_copyWith, b_copyOne, b_copyTwo, b_opened, b_branch, b_sizes, b_jumps, b_groupOf, b_text, b_met, b_todo, b_notes) (nI 0)) (h : ∀ u, F u → post 1 u) : wpY_accept post (g_count, g_place, g_end, g_size, g_large, g_ready, g_depth, g_groups, g_atom, g_atomSize, g_length, g_found, b_kind, b_value, b_op, b_with, b_one, b_two, b_copyOp, b_copyWith, b_copyOne, b_copyTwo, b_opened, b_branch, b_sizes, b_jumps, b_groupOf, b_text, b_met, b_todo, b_notes) (nI 4) v := by
  refine br_f (by decide) (br_f (by decide) (br_f (by decide) (br_f (by decide) (br_f (by decide) (br_f (by decide) (br_t rfl (br_f (by decide) (br_f (by decide) ?_))))))))
  exact he _ (fun u hu => h u hu)
theorem ya_close {post : Int32 → SY → Prop} {o : Nat} {v : Int32} {F : SY → Prop} (ho : 0 < o) (ho2 : o < 100) (he : ∀ post' : SY → Prop, (∀ u, F u → post' u) → wpY_close post' (g_count, g_place, g_end, g_size, g_large, g_ready, nI (o + 1), g_groups, g_atom, g_atomSize, g_length, g_found, b_kind, b_value, b_op, b_with, b_one, b_two, b_copyOp, b_copyWith, b_copyOne, b_copyTwo, b_opened, b_branch, b_sizes, b_jumps, b_groupOf, b_text, b_met, b_todo, b_notes)) (h : ∀ u, F u → post 1 u) : wpY_accept post (g_count, g_place, g_end, g_size, g_large, g_ready, nI (o + 1), g_groups, g_atom, g_atomSize, g_length, g_found, b_kind, b_value, b_op, b_with, b_one, b_two, b_copyOp, b_copyWith, b_copyOne, b_copyTwo, b_opened, b_branch, b_sizes, b_jumps, b_groupOf, b_text, b_met, b_todo, b_notes) (nI 5) v := by
  have n1 : ¬ nI (o + 1) = 1 := fun e => by
    have := (nI_eq (b := 1) (by omega) (by omega)).mp e
    omega
  refine br_f (by decide) (br_f (by decide) (br_f (by decide) (br_f (by decide) (br_f (by decide) (br_f (by decide) (br_f (by decide) (br_t rfl (br_f n1 ?_))))))))
  exact he _ (fun u hu => h u hu)
theorem ya_bar {post : Int32 → SY → Prop} {v : Int32} {F : SY → Prop} (he : ∀ post' : SY → Prop, (∀ u, F u → post' u) → wpY_alternative post' (g_count, g_place, g_end, g_size, g_large, g_ready, g_depth, g_groups, g_atom, g_atomSize, g_length, g_found, b_kind, b_value, b_op, b_with, b_one, b_two, b_copyOp, b_copyWith, b_copyOne, b_copyTwo, b_opened, b_branch, b_sizes, b_jumps, b_groupOf, b_text, b_met, b_todo, b_notes)) (h : ∀ u, F u → post 1 u) : wpY_accept post (g_count, g_place, g_end, g_size, g_large, g_ready, g_depth, g_groups, g_atom, g_atomSize, g_length, g_found, b_kind, b_value, b_op, b_with, b_one, b_two, b_copyOp, b_copyWith, b_copyOne, b_copyTwo, b_opened, b_branch, b_sizes, b_jumps, b_groupOf, b_text, b_met, b_todo, b_notes) (nI 6) v := by
  refine br_f (by decide) (br_f (by decide) (br_f (by decide) (br_f (by decide) (br_f (by decide) (br_f (by decide) (br_f (by decide) (br_f (by decide) (br_t rfl ?_))))))))
  exact he _ (fun u hu => h u hu)
/-- a quantifier comes to its own row -/
theorem ya_181 {post : Int32 → SY → Prop} {kk : Nat} {v : Int32} (hk : kk ≤ 15) (hq : cs_q kk = true) (h : wY_accept_181 post (nI kk) v g_count g_place g_end g_size g_large g_ready g_depth g_groups g_atom g_atomSize g_length g_found b_kind b_value b_op b_with b_one b_two b_copyOp b_copyWith b_copyOne b_copyTwo b_opened b_branch b_sizes b_jumps b_groupOf b_text b_met b_todo b_notes) : wpY_accept post (g_count, g_place, g_end, g_size, g_large, g_ready, g_depth, g_groups, g_atom, g_atomSize, g_length, g_found, b_kind, b_value, b_op, b_with, b_one, b_two, b_copyOp, b_copyWith, b_copyOne, b_copyTwo, b_opened, b_branch, b_sizes, b_jumps, b_groupOf, b_text, b_met, b_todo, b_notes) (nI kk) v := by
  have k0 : ¬ nI kk < 0 := nI_pos (by omega)
  have k15 : ¬ (15 : Int32) < nI kk := nI_nlt (a := 15) (by omega) (by omega)
  have hq' := cs_qi.mp hq
  have : kk = 7 ∨ kk = 8 ∨ kk = 9 ∨ kk = 10 ∨ kk = 11 ∨ kk = 12 ∨ kk = 14 := by omega
  refine br_f k0 (br_f k15 ?_)
  rcases this with rfl | rfl | rfl | rfl | rfl | rfl | rfl
  · exact br_f (by decide) (br_f (by decide) (br_f (by decide) (br_f (by decide) (br_f (by decide) (br_f (by decide) (br_f (by decide) (br_t rfl h)))))))
  · exact br_f (by decide) (br_f (by decide) (br_f (by decide) (br_f (by decide) (br_f (by decide) (br_f (by decide) (br_f (by decide) (br_f (by decide) (br_t rfl h))))))))
  · exact br_f (by decide) (br_f (by decide) (br_f (by decide) (br_f (by decide) (br_f (by decide) (br_f (by decide) (br_f (by decide) (br_f (by decide) (br_f (by decide) (br_t rfl h)))))))))
  · exact br_f (by decide) (br_f (by decide) (br_f (by decide) (br_f (by decide) (br_f (by decide) (br_f (by decide) (br_f (by decide) (br_f (by decide) (br_f (by decide) (br_f (by decide) (br_t rfl h))))))))))
  · exact br_f (by decide) (br_f (by decide) (br_f (by decide) (br_f (by decide) (br_f (by decide) (br_f (by decide) (br_f (by decide) (br_f (by decide) (br_f (by decide) (br_f (by decide) (br_f (by decide) (br_t rfl h)))))))))))
  · exact br_f (by decide) (br_f (by decide) (br_f (by decide) (br_f (by decide) (br_f (by decide) (br_f (by decide) (br_f (by decide) (br_f (by decide) (br_f (by decide) (br_f (by decide) (br_f (by decide) (br_f (by decide) (br_t rfl h))))))))))))
  · exact br_f (by decide) (br_f (by decide) (br_f (by decide) (br_f (by decide) (br_f (by decide) (br_f (by decide) (br_f (by decide) (br_f (by decide) (br_f (by decide) (br_f (by decide) (br_f (by decide) (br_f (by decide) (br_f (by decide) (br_f (by decide) (br_t rfl h))))))))))))))
theorem ya_quant {post : Int32 → SY → Prop} {kk : Nat} {v : Int32} (hk : kk ≤ 15) (hq : cs_q kk = true) (ha : 0 ≤ g_atom) (h : wpY_quantify (fun u => match u with | (g_count, g_place, g_end, g_size, g_large, g_ready, g_depth, g_groups, g_atom, g_atomSize, g_length, g_found, b_kind, b_value, b_op, b_with, b_one, b_two, b_copyOp, b_copyWith, b_copyOne, b_copyTwo, b_opened, b_branch, b_sizes, b_jumps, b_groupOf, b_text, b_met, b_todo, b_notes) => (post 1 (g_count, g_place, g_end, g_size, g_large, g_ready, g_depth, g_groups, (-1), g_atomSize, g_length, g_found, b_kind, b_value, b_op, b_with, b_one, b_two, b_copyOp, b_copyWith, b_copyOne, b_copyTwo, b_opened, b_branch, b_sizes, b_jumps, b_groupOf, b_text, b_met, b_todo, b_notes))) (g_count, g_place, g_end, g_size, g_large, g_ready, g_depth, g_groups, g_atom, g_atomSize, g_length, g_found, b_kind, b_value, b_op, b_with, b_one, b_two, b_copyOp, b_copyWith, b_copyOne, b_copyTwo, b_opened, b_branch, b_sizes, b_jumps, b_groupOf, b_text, b_met, b_todo, b_notes) (nI kk) v) : wpY_accept post (g_count, g_place, g_end, g_size, g_large, g_ready, g_depth, g_groups, g_atom, g_atomSize, g_length, g_found, b_kind, b_value, b_op, b_with, b_one, b_two, b_copyOp, b_copyWith, b_copyOne, b_copyTwo, b_opened, b_branch, b_sizes, b_jumps, b_groupOf, b_text, b_met, b_todo, b_notes) (nI kk) v :=
  ya_181 hk hq (br_t ha h)
/-- a token that is bad here -/
theorem ya_bad {post : Int32 → SY → Prop} {kk o g : Nat} {b : Bool} {v : Int32} (hk : kk ≤ 15) (ho : o < 100) (hb : cs_bad kk (o, g, b)) (hat : b = false → g_atom = -1)
    (h : post 0 (g_count, g_place, g_end, g_size, g_large, g_ready, nI (o + 1), nI g, g_atom, g_atomSize, g_length, g_found, b_kind, b_value, b_op, b_with, b_one, b_two, b_copyOp, b_copyWith, b_copyOne, b_copyTwo, b_opened, b_branch, b_sizes, b_jumps, b_groupOf, b_text, b_met, b_todo, b_notes)) : wpY_accept post (g_count, g_place, g_end, g_size, g_large, g_ready, nI (o + 1), nI g, g_atom, g_atomSize, g_length, g_found, b_kind, b_value, b_op, b_with, b_one, b_two, b_copyOp, b_copyWith, b_copyOne, b_copyTwo, b_opened, b_branch, b_sizes, b_jumps, b_groupOf, b_text, b_met, b_todo, b_notes) (nI kk) v := by
  rcases hb with ⟨q1, q2⟩ | ⟨q1, q2⟩ | ⟨q1, q2⟩
  · refine ya_181 hk q1 (br_f ?_ h)
    rw [hat q2]; decide
  · dsimp only at q2
    subst q1 q2
    exact br_f (by decide) (br_f (by decide) (br_f (by decide) (br_f (by decide) (br_f (by decide) (br_f (by decide) (br_f (by decide) (br_t rfl (br_t rfl h))))))))
  · dsimp only at q2
    subst q1 q2
    exact br_f (by decide) (br_f (by decide) (br_f (by decide) (br_f (by decide) (br_f (by decide) (br_t rfl (br_t rfl (br_t rfl h)))))))
/-! too large: the rest of the tokens is read for its grammar alone -/
def ys_S (s : Nat × Nat × Bool) (en la dp gr at_ : Int32) (opd : Nat → Int32) : Prop :=
  la = 1 ∧ dp = nI (s.1 + 1) ∧ gr = nI s.2.1 ∧ (∃ e, e < 1000 ∧ en = nI e) ∧ (s.2.2 = true → 0 ≤ at_) ∧ (s.2.2 = false → at_ = -1) ∧ (∀ d, d ≤ s.1 → 0 ≤ opd d)
theorem ys_step {post : Int32 → SY → Prop} {kk : Nat} {v v' vx : Int32} {s : Nat × Nat × Bool} (hs : ys_S s g_end g_large g_depth g_groups g_atom b_opened) (hk : kk ≤ 15) (hbad : ¬ cs_bad kk s) (ho : s.1 + 1 < 25) (hg : s.2.1 ≤ 3)
    (h : ∀ (sz dp gr at_ az : Int32) (opd brn szs jmp gof : Nat → Int32), ys_S (cs_step kk s) g_end 1 dp gr at_ opd → post 1 (g_count, g_place, g_end, sz, 1, g_ready, dp, gr, at_, az, g_length, g_found, b_kind, b_value, b_op, b_with, b_one, b_two, b_copyOp, b_copyWith, b_copyOne, b_copyTwo, opd, brn, szs, jmp, gof, b_text, b_met, b_todo, b_notes)) : wpY_accept post (g_count, g_place, g_end, g_size, g_large, g_ready, g_depth, g_groups, g_atom, g_atomSize, g_length, g_found, b_kind, b_value, b_op, b_with, b_one, b_two, b_copyOp, b_copyWith, b_copyOne, b_copyTwo, b_opened, b_branch, b_sizes, b_jumps, b_groupOf, b_text, b_met, b_todo, b_notes) (nI kk) v := by
  obtain ⟨o, g, b⟩ := s
  obtain ⟨rfl, rfl, rfl, ⟨e, he, rfl⟩, hat, hat0, hop⟩ := hs
  dsimp only at hat hat0 hop ho hg
  have he0 : (0 : Int32) ≤ nI e := nI_pos' (by omega)
  by_cases hq : cs_q kk = true
  · have hb : b = true := by
      cases b with
      | true => rfl
      | false => exact absurd (Or.inl ⟨hq, rfl⟩) hbad
    refine ya_quant hk hq (hat hb) ?_
    refine cy_quant1 (fun s => ?_)
    refine h _ _ _ _ _ _ _ _ _ _ ⟨rfl, ?_, ?_, ⟨e, he, rfl⟩, ?_, fun _ => rfl, ?_⟩
    · show _ = nI ((if kk = 3 ∨ kk = 4 then o + 1 else if kk = 5 then o - 1 else o) + 1)
      have := cs_qi.mp hq
      rw [if_neg (by omega), if_neg (by omega)]
    · show _ = nI (if kk = 3 then g + 1 else g)
      have := cs_qi.mp hq
      rw [if_neg (by omega)]
    · intro hh
      have : cs_b kk = false := by unfold cs_b; rw [hq]; simp
      rw [show (cs_step kk (o, g, b)).2.2 = cs_b kk from rfl, this] at hh
      cases hh
    · show ∀ d, d ≤ (if kk = 3 ∨ kk = 4 then o + 1 else if kk = 5 then o - 1 else o) → _
      have := cs_qi.mp hq
      rw [if_neg (by omega), if_neg (by omega)]
      exact hop
  · have hq' : ¬ ((7 ≤ kk ∧ kk ≤ 12) ∨ kk = 14) := fun h => hq (cs_qi.mpr h)
    have hq0 : cs_q kk = false := by
      cases hh : cs_q kk with
      | true => exact absurd hh hq
      | false => rfl
    by_cases k3 : kk = 3
    · subst k3
      have g3 : ¬ g = 3 := fun e => hbad (Or.inr (Or.inr ⟨rfl, e⟩))
      refine ya_open3 (g := g) (F := fun u => u = (g_count, g_place, nI e, g_size + 2, 1, g_ready, nI (o + 1 + 1), nI (g + 1), (-1), g_atomSize, g_length, g_found, b_kind, b_value, b_op, b_with, b_one, b_two, b_copyOp, b_copyWith, b_copyOne, b_copyTwo, upd b_opened (o + 1) (nI e), upd b_branch (o + 1) (nI e), upd b_sizes (o + 1) (vp_nar .short g_size.toInt16.toInt32), upd b_jumps (o + 1) (-1), upd b_groupOf (o + 1) (nI (g + 1)), b_text, b_met, b_todo, b_notes)) g3 (by omega) (fun post' h' => cy_open1 he (by omega) (by omega) (by omega) (h' _ rfl)) (fun u hu => ?_)
      rw [hu]
      refine h _ _ _ _ _ _ _ _ _ _ ⟨rfl, rfl, rfl, ⟨e, he, rfl⟩, (fun hh => by cases hh), fun _ => rfl, fun d hd => ?_⟩
      by_cases ed : d = o + 1
      · rw [ed, rl_us]; exact he0
      · rw [rl_un ed]
        have hd' : d ≤ o + 1 := hd
        exact hop d (by omega)
    · by_cases k4 : kk = 4
      · subst k4
        refine ya_open4 (F := fun u => u = (g_count, g_place, nI e, g_size, 1, g_ready, nI (o + 1 + 1), nI g, (-1), g_atomSize, g_length, g_found, b_kind, b_value, b_op, b_with, b_one, b_two, b_copyOp, b_copyWith, b_copyOne, b_copyTwo, upd b_opened (o + 1) (nI e), upd b_branch (o + 1) (nI e), upd b_sizes (o + 1) (vp_nar .short g_size.toInt16.toInt32), upd b_jumps (o + 1) (-1), upd b_groupOf (o + 1) (nI 0), b_text, b_met, b_todo, b_notes)) (fun post' h' => cy_open0 he (by omega) (h' _ rfl)) (fun u hu => ?_)
        rw [hu]
        refine h _ _ _ _ _ _ _ _ _ _ ⟨rfl, rfl, rfl, ⟨e, he, rfl⟩, (fun hh => by cases hh), fun _ => rfl, fun d hd => ?_⟩
        by_cases ed : d = o + 1
        · rw [ed, rl_us]; exact he0
        · rw [rl_un ed]
          have hd' : d ≤ o + 1 := hd
          exact hop d (by omega)
      · by_cases k5 : kk = 5
        · subst k5
          have ho0 : 0 < o := by
            rcases Nat.eq_zero_or_pos o with e0 | e0
            · exact absurd (Or.inr (Or.inl ⟨rfl, e0⟩)) hbad
            · exact e0
          refine ya_close (o := o) (F := fun u => u = (g_count, g_place, nI e, g_size, 1, g_ready, nI o, nI g, b_opened o, g_size - b_sizes o, g_length, g_found, b_kind, b_value, b_op, b_with, b_one, b_two, b_copyOp, b_copyWith, b_copyOne, b_copyTwo, b_opened, b_branch, b_sizes, b_jumps, b_groupOf, b_text, b_met, b_todo, b_notes)) ho0 (by omega) (fun post' h' => cy_close1 (by omega) (h' _ rfl)) (fun u hu => ?_)
          rw [hu]
          refine h _ _ _ _ _ _ _ _ _ _ ⟨rfl, ?_, rfl, ⟨e, he, rfl⟩, fun _ => hop o (Nat.le_refl _), (fun hh => by cases hh), fun d hd => ?_⟩
          · show nI o = nI (o - 1 + 1)
            congr 1; omega
          · have hd' : d ≤ o - 1 := hd
            exact hop d (by omega)
        · by_cases k6 : kk = 6
          · subst k6
            refine ya_bar (F := fun u => u = (g_count, g_place, nI e, g_size + 1, 1, g_ready, nI (o + 1), nI g, (-1), g_atomSize, g_length, g_found, b_kind, b_value, b_op, b_with, b_one, b_two, b_copyOp, b_copyWith, b_copyOne, b_copyTwo, b_opened, b_branch, b_sizes, b_jumps, b_groupOf, b_text, b_met, b_todo, b_notes)) (fun post' h' => cy_alt1 (h' _ rfl)) (fun u hu => ?_)
            rw [hu]
            exact h _ _ _ _ _ _ _ _ _ _ ⟨rfl, rfl, rfl, ⟨e, he, rfl⟩, (fun hh => by cases hh), fun _ => rfl, hop⟩
          · obtain ⟨pk, pv, hA⟩ : ∃ pk pv, xt_A kk v pk pv := by
              have : kk = 0 ∨ kk = 1 ∨ kk = 2 ∨ kk = 13 ∨ kk = 15 := by omega
              rcases this with h | h | h | h | h
              · exact ⟨_, _, Or.inl ⟨h, rfl, rfl⟩⟩
              · exact ⟨_, _, Or.inr (Or.inl ⟨h, rfl, rfl⟩)⟩
              · exact ⟨_, _, Or.inr (Or.inr (Or.inl ⟨h, rfl, rfl⟩))⟩
              · exact ⟨_, _, Or.inr (Or.inr (Or.inr (Or.inl ⟨h, rfl, rfl⟩)))⟩
              · exact ⟨_, _, Or.inr (Or.inr (Or.inr (Or.inr ⟨h, rfl, rfl⟩)))⟩
            have eb : cs_b kk = true := by unfold cs_b; rw [hq0]; simp [k3, k4, k6]
            refine ya_atom (F := fun u => u = (g_count, g_place, nI e, g_size + 1, 1, g_ready, nI (o + 1), nI g, nI e, 1, g_length, g_found, b_kind, b_value, b_op, b_with, b_one, b_two, b_copyOp, b_copyWith, b_copyOne, b_copyTwo, b_opened, b_branch, b_sizes, b_jumps, b_groupOf, b_text, b_met, b_todo, b_notes)) hA (fun post' h' => cy_single1 (h' _ rfl)) (fun u hu => ?_)
            rw [hu]
            refine h _ _ _ _ _ _ _ _ _ _ ⟨rfl, ?_, ?_, ⟨e, he, rfl⟩, fun _ => he0, fun hh => ?_, ?_⟩
            · show _ = nI ((if kk = 3 ∨ kk = 4 then o + 1 else if kk = 5 then o - 1 else o) + 1)
              rw [if_neg (by omega), if_neg k5]
            · show _ = nI (if kk = 3 then g + 1 else g)
              rw [if_neg k3]
            · rw [show (cs_step kk (o, g, b)).2.2 = cs_b kk from rfl, eb] at hh
              cases hh
            · show ∀ d, d ≤ (if kk = 3 ∨ kk = 4 then o + 1 else if kk = 5 then o - 1 else o) → _
              rw [if_neg (by omega), if_neg k5]
              exact hop
end YA
