section CJ
variable {lv pc en sz : Nat} {gg lsN bsN od br : Nat → Nat} {J : Nat → List Nat} {m x m' x' : Nat → fg_I} {lg ls le bs be opd brn szs jmp gof : Nat → Int32}
theorem cp_lag_2 (g : Nat) : cp_lag g (-2) = 2 * cp_gb g := by unfold cp_lag; rw [if_pos rfl]; omega
/-- a bracket opens -/
theorem cq_open {g en' : Nat} {brn' : Nat → Int32} (h : cq_K lv pc en sz gg lsN bsN od br J (-1) m x lg ls le bs be opd brn szs jmp gof) (hl : lv + 1 ≤ 24) (hg : g ≤ 3) (hls : lsN (lv + 1) = pc) (hod : od (lv + 1) = en) (he : en' ≤ 80)
    (hb : ∀ d, d ≤ lv → brn' d = brn d)
    (hC : sz + 2 * cp_gb g ≤ 36 → en' = en + cp_gb g ∧ brn' (lv + 1) = nI en' ∧ (∀ j, j < en → m' j = m j) ∧ (0 < g → (m' en).1 = 5 ∧ (m' en).2.1 = nI (2 * g) ∧ (m' en).2.2.1 = 1)) :
    cq_K (lv + 1) pc en' (sz + 2 * cp_gb g) (cq_u gg (lv + 1) g) (cq_u lsN (lv + 2) pc) (cq_u bsN (lv + 1) pc) (cq_u od (lv + 2) en') (cq_u br (lv + 1) en') (cq_uJ J (lv + 1) []) (-1) m' x (upd lg (lv + 1) (nI g)) (upd ls (lv + 1) (nI pc)) (upd le (lv + 1) (-2)) (upd bs (lv + 1) (nI pc)) (upd be (lv + 1) (-1)) (upd opd (lv + 1) (nI en)) brn' (upd szs (lv + 1) (nI sz)) (upd jmp (lv + 1) (-1)) (upd gof (lv + 1) (nI g)) := by
  obtain ⟨k1, k2, k3, k4, k5, k6, k7, k8, k9, k10, k11, k12, k13⟩ := h
  have hsum : ∀ d, d ≤ lv + 1 → cp_sum (cq_u gg (lv + 1) g) (upd le (lv + 1) (-2)) d = cp_sum gg le d := fun d hd => cp_sum_f d (fun i hi => ⟨cq_un (by omega), rl_un (by omega)⟩)
  refine ⟨hl, k2, he, by rw [cq_un (by omega)]; exact k4, by rw [cq_un (by omega)]; exact k5, by rw [cq_un (by omega)]; exact k6, by rw [cq_us]; exact Nat.le_refl _, by rw [cq_us]; exact he, ?_, Or.inl rfl, fun _ => cq_us, fun d hd => ?_, fun hs' => ?_⟩
  · show sz + 2 * cp_gb g = pc + (cp_sum (cq_u gg (lv + 1) g) (upd le (lv + 1) (-2)) (lv + 1) + cp_lag (cq_u gg (lv + 1) g (lv + 1)) (upd le (lv + 1) (-2) (lv + 1)))
    rw [hsum _ (Nat.le_refl _), cq_us, rl_us, cp_lag_2]
    omega
  · by_cases e : d = lv + 1
    · subst e
      refine ⟨by rw [rl_us, cq_us], by rw [rl_us, cq_us], by rw [cq_us]; exact hg, by rw [rl_us, cq_un (by omega), hls], by rw [rl_us, cq_us], ?_, by rw [cq_un (by omega), cq_us, hls]; exact Nat.le_refl _, by rw [cq_us, cq_us]; exact Nat.le_refl _, by rw [rl_us]; exact Or.inl rfl, fun _ => by rw [cq_us, cq_us], by rw [rl_us, cq_un (by omega), hod], by rw [cq_un (by omega)]; exact k8, fun _ => by rw [cq_us, cq_un (by omega), hls]⟩
      rw [rl_us, cq_un (by omega), hsum _ (Nat.le_refl _), hls, k9]
    · have hd' : d ≤ lv := by omega
      obtain ⟨e1, e2, e3, e4, e5, e6, e7, e8, e9, e10, e11, e12, e13⟩ := k12 d hd'
      refine ⟨by rw [rl_un e, cq_un e]; exact e1, by rw [rl_un e, cq_un e]; exact e2, by rw [cq_un e]; exact e3, by rw [rl_un e, cq_un (by omega)]; exact e4, by rw [rl_un e, cq_un e]; exact e5, by rw [rl_un e, cq_un (by omega), hsum d (by omega)]; exact e6, by rw [cq_un (by omega), cq_un e]; exact e7, by rw [cq_un e, cq_un (by omega)]; exact e8, by rw [rl_un e, cq_un (by omega)]; exact e9, fun hh => by rw [rl_un e] at hh; rw [cq_un e, cq_un (by omega)]; exact e10 hh, by rw [rl_un e, cq_un (by omega)]; exact e11, by rw [cq_un (by omega)]; exact e12, fun hh => by rw [rl_un e] at hh; rw [cq_un e, cq_un (by omega)]; exact e13 hh⟩
  · obtain ⟨c1, c2⟩ := k13 (by omega)
    obtain ⟨q1, q2, q3, q4⟩ := hC hs'
    refine ⟨fun d hd => ?_, ?_⟩
    · by_cases e : d = lv + 1
      · subst e
        rw [cq_us, cq_us, cq_us, rl_us, rl_us, rl_us, cq_un (show lv + 1 ≠ lv + 2 by omega), cq_us, cq_un (show lv + 1 ≠ lv + 2 by omega), cq_us, cq_uJs, hod, hls]
        exact ⟨q2, q4, Or.inl ⟨rfl, q1, rfl, rfl⟩, fg_empty m' x en' pc⟩
      · have hd' : d ≤ lv := by omega
        rw [cq_un e, cq_un e, rl_un e, rl_un e, rl_un e, cq_un (show d ≠ lv + 2 by omega), cq_un (show d + 1 ≠ lv + 2 by omega), cq_un (show d ≠ lv + 2 by omega), cq_un e, cq_un (show d + 1 ≠ lv + 2 by omega), cq_uJn e, hb d hd']
        refine ⟨(c1 d hd').1, cp_L_frame (c1 d hd').2 (fun j j1 j2 => q3 j ?_) (fun _ _ _ => rfl)⟩
        have := cq_omono c1 (lv - d) (d + 1) (by omega)
        rw [show d + 1 + (lv - d) = lv + 1 by omega, hod] at this
        omega
    · rw [cq_us, cq_us]
      exact fg_empty m' x en' pc
/-- a bar -/
theorem cq_bar {en' pc' : Nat} {e1 : Int32} {brn' jmp' : Nat → Int32} (h : cq_K lv pc en sz gg lsN bsN od br J (-1) m x lg ls le bs be opd brn szs jmp gof) (hls : lsN (lv + 1) = pc) (hod : od (lv + 1) = en) (he : en' ≤ 80) (hp : pc' ≤ 36)
    (hf : (le lv = -2 ∧ e1 = be lv ∧ pc' = pc) ∨ (¬ le lv = -2 ∧ e1 = nI pc ∧ pc' = pc + 1 ∧ (x' pc).1 = 4 ∧ (x' pc).2.2 = (le lv, be lv)))
    (hx : ∀ p, p < pc → x' p = x p) (hb : ∀ d, d < lv → brn' d = brn d ∧ jmp' d = jmp d)
    (hC : sz + 1 ≤ 36 → en' = en + 2 ∧ brn' lv = nI (en + 2) ∧ jmp' lv = nI (en + 1) ∧ (∀ j, j < br lv → m' j = m j) ∧ (∀ j, br lv ≤ j → j < en → m' (j + 1) = m j) ∧ (m' (br lv)).1 = 3 ∧ nI (br lv) + (m' (br lv)).2.2.1 = nI (br lv + 1) ∧ nI (br lv) + (m' (br lv)).2.2.2 = nI (en + 2) ∧ (m' (en + 1)).1 = 4 ∧ (m' (en + 1)).2.2.1 = jmp lv) :
    ∃ J', cq_K lv pc' en' (sz + 1) gg (cq_u lsN (lv + 1) pc') (cq_u bsN lv pc') (cq_u od (lv + 1) en') (cq_u br lv (en + 2)) J' (-1) m' x' lg ls (upd le lv e1) (upd bs lv (nI pc')) (upd be lv (-1)) opd brn' szs jmp' gof := by
  obtain ⟨k1, k2, k3, k4, k5, k6, k7, k8, k9, k10, k11, k12, k13⟩ := h
  have hbe : ¬ be lv = -2 := cq_v_m2 (k12 lv (Nat.le_refl _)).2.2.2.2.2.2.2.2.1 (by omega)
  have he1 : ¬ e1 = -2 := by
    rcases hf with ⟨_, h, _⟩ | ⟨_, h, _⟩
    · rw [h]; exact hbe
    · exact cq_v_m2 (n := pc + 1) (Or.inr ⟨pc, by omega, h⟩) (by omega)
  have hsum : ∀ d, d ≤ lv → cp_sum gg (upd le lv e1) d = cp_sum gg le d := fun d hd => cp_sum_f d (fun i hi => ⟨rfl, rl_un (by omega)⟩)
  have hpc : pc ≤ pc' := by rcases hf with ⟨_, _, h⟩ | ⟨_, _, h, _⟩ <;> omega
  have code : sz + 1 ≤ 36 → ∃ J', cp_L m' x' (gg lv) e1 (nI (en + 1)) (-1) (od lv) (en + 2) (en + 2) (lsN lv) pc' pc' J' := by
    intro hs'
    obtain ⟨c1, c2⟩ := k13 (by omega)
    obtain ⟨q1, q2, q3, q4, q5, q6, q7, q8, q9, q10⟩ := hC hs'
    have L := (c1 lv (Nat.le_refl _)).2
    rw [hod, hls] at L
    exact cp_bar L (fun j _ j2 => q4 j j2) q5 q6 q7 q8 q9 q10 (fun p _ p2 => hx p p2) hbe (by omega) hf
  have ⟨J0, hJ0⟩ : ∃ J0 : List Nat, sz + 1 ≤ 36 → cp_L m' x' (gg lv) e1 (nI (en + 1)) (-1) (od lv) (en + 2) (en + 2) (lsN lv) pc' pc' J0 := by
    by_cases hs' : sz + 1 ≤ 36
    · obtain ⟨J0, h0⟩ := code hs'
      exact ⟨J0, fun _ => h0⟩
    · exact ⟨[], fun h => absurd h hs'⟩
  refine ⟨cq_uJ J lv J0, k1, hp, he, by rw [cq_un (by omega)]; exact k4, k5, by rw [cq_un (by omega)]; exact k6, by rw [cq_us]; exact Nat.le_refl _, by rw [cq_us]; exact he, ?_, Or.inl rfl, fun _ => cq_us, fun d hd => ?_, fun hs' => ?_⟩
  · show sz + 1 = pc' + (cp_sum gg (upd le lv e1) lv + cp_lag (gg lv) (upd le lv e1 lv))
    have k9' : sz = pc + (cp_sum gg le lv + cp_lag (gg lv) (le lv)) := k9
    rw [hsum _ (Nat.le_refl _), rl_us]
    unfold cp_lag at k9' ⊢
    rw [if_neg he1]
    rcases hf with ⟨h1, _, h⟩ | ⟨h1, _, h, _⟩
    · rw [if_pos h1] at k9'; omega
    · rw [if_neg h1] at k9'; omega
  · obtain ⟨f1, f2, f3, f4, f5, f6, f7, f8, f9, f10, f11, f12, f13⟩ := k12 d hd
    by_cases e : d = lv
    · subst e
      exact ⟨f1, f2, f3, by rw [cq_un (by omega)]; exact f4, by rw [rl_us, cq_us], by rw [cq_un (by omega), hsum d (Nat.le_refl _)]; exact f6, by rw [cq_un (by omega), cq_us]; omega, by rw [cq_us, cq_us]; exact Nat.le_refl _, by rw [rl_us]; exact Or.inl rfl, fun _ => by rw [cq_us, cq_us], by rw [cq_un (by omega)]; exact f11, by rw [cq_un (by omega)]; exact f12, fun hh => by rw [rl_us] at hh; exact absurd hh he1⟩
    · exact ⟨f1, f2, f3, by rw [cq_un (by omega)]; exact f4, by rw [rl_un e, cq_un e]; exact f5, by rw [cq_un (by omega), hsum d (by omega)]; exact f6, by rw [cq_un (by omega), cq_un e]; exact f7, by rw [cq_un e, cq_un (by omega)]; exact f8, by rw [rl_un e, cq_un (by omega)]; exact f9, fun hh => by rw [rl_un e] at hh; rw [cq_un e, cq_un (by omega)]; exact f10 hh, by rw [cq_un (by omega)]; exact f11, by rw [cq_un (by omega)]; exact f12, fun hh => by rw [rl_un e] at hh; rw [cq_un e, cq_un (by omega)]; exact f13 hh⟩
  · obtain ⟨c1, c2⟩ := k13 (by omega)
    obtain ⟨q1, q2, q3, q4, q5, q6, q7, q8, q9, q10⟩ := hC hs'
    refine ⟨fun d hd => ?_, ?_⟩
    · by_cases e : d = lv
      · subst e
        rw [cq_us, rl_us, rl_us, cq_us, cq_us, cq_us, cq_uJs, cq_un (show d ≠ d + 1 by omega), cq_un (show d ≠ d + 1 by omega), q3, q1]
        exact ⟨q2, hJ0 hs'⟩
      · rw [cq_un e, rl_un e, rl_un e, cq_un e, cq_un (show d + 1 ≠ lv + 1 by omega), cq_un (show d + 1 ≠ lv + 1 by omega), cq_uJn e, cq_un (show d ≠ lv + 1 by omega), cq_un (show d ≠ lv + 1 by omega), (hb d (by omega)).1, (hb d (by omega)).2]
        refine ⟨(c1 d hd).1, cp_L_frame (c1 d hd).2 (fun j j1 j2 => q4 j ?_) (fun p p1 p2 => hx p ?_)⟩
        · have h1 := cq_omono c1 (lv - (d + 1)) (d + 1) (by omega)
          rw [show d + 1 + (lv - (d + 1)) = lv by omega] at h1
          obtain ⟨b1, _⟩ := cp_L_le (c1 lv (Nat.le_refl _)).2
          omega
        · have h1 := cq_mono k12 (lv - d) (d + 1) (by omega)
          rw [show d + 1 + (lv - d) = lv + 1 by omega, hls] at h1
          omega
    · rw [cq_us, cq_us, q1]
      exact fg_empty m' x' (en + 2) pc'
/-- a bracket closes -/
theorem cq_close {l en' pc1 pc' : Nat} {e1 ae' : Int32} {x1 : Nat → fg_I} (h : cq_K (l + 1) pc en sz gg lsN bsN od br J (-1) m x lg ls le bs be opd brn szs jmp gof) (hls : lsN (l + 2) = pc) (hod : od (l + 2) = en) (he : en' ≤ 80) (hp : pc' ≤ 36)
    (hf : (le (l + 1) = -2 ∧ e1 = be (l + 1) ∧ pc1 = pc) ∨ (¬ le (l + 1) = -2 ∧ e1 = nI pc ∧ pc1 = pc + 1 ∧ (x1 pc).1 = 4 ∧ (x1 pc).2.2 = (le (l + 1), be (l + 1))))
    (hx : ∀ p, p < pc → x1 p = x p)
    (hg : (gg (l + 1) = 0 ∧ pc' = pc1 ∧ ae' = e1 ∧ x' = x1) ∨ (0 < gg (l + 1) ∧ pc' = pc1 + 2 ∧ ae' = nI (pc1 + 1) ∧ (∀ p, lsN (l + 1) ≤ p → p < pc1 → x' p = fg_px (fg_mo (nI pc1)) (x1 p)) ∧ (∀ p, p < lsN (l + 1) → x' p = x1 p) ∧ x' pc1 = (3, nI (2 * (gg (l + 1) - 1) + 1), -1, -1) ∧ x' (pc1 + 1) = (3, nI (2 * (gg (l + 1) - 1)), fg_mo (nI pc1) e1, -1)))
    (hC : sz ≤ 36 → en' = en + cp_gb (gg (l + 1)) ∧ (∀ j, j < en → (¬ le (l + 1) = -2 → ¬ j ∈ J (l + 1)) → m' j = m j) ∧ (¬ le (l + 1) = -2 → ∀ j, j ∈ J (l + 1) → (m' j).1 = 4 ∧ nI j + (m' j).2.2.1 = nI en) ∧ (0 < gg (l + 1) → (m' en).1 = 5 ∧ (m' en).2.1 = nI (2 * gg (l + 1) + 1) ∧ (m' en).2.2.1 = 1)) :
    cq_K l pc' en' sz gg lsN bsN od br J ae' m' x' lg ls (upd le (l + 1) e1) (upd bs (l + 1) (nI pc1)) (upd be (l + 1) (-1)) opd brn szs jmp gof ∧ lsN (l + 1) ≤ pc ∧ sz = lsN (l + 1) + cp_sum gg le (l + 1) + (pc' - lsN (l + 1)) := by
  obtain ⟨k1, k2, k3, k4, k5, k6, k7, k8, k9, k10, k11, k12, k13⟩ := h
  obtain ⟨f1, f2, f3, f4, f5, f6, f7, f8, f9, f10, f11, f12, f13⟩ := k12 (l + 1) (Nat.le_refl _)
  have hsum : ∀ d, d ≤ l + 1 → cp_sum gg (upd le (l + 1) e1) d = cp_sum gg le d := fun d hd => cp_sum_f d (fun i hi => ⟨rfl, rl_un (by omega)⟩)
  have hlp : lsN (l + 1) ≤ pc := by rw [hls] at f8; omega
  have hpc : pc ≤ pc1 := by rcases hf with ⟨_, _, h⟩ | ⟨_, _, h, _⟩ <;> omega
  have hpp : pc1 ≤ pc' := by rcases hg with ⟨_, h, _⟩ | ⟨_, h, _⟩ <;> omega
  have k9' : sz = pc + (cp_sum gg le (l + 1) + cp_lag (gg (l + 1)) (le (l + 1))) := k9
  have hlag : pc' = pc + cp_lag (gg (l + 1)) (le (l + 1)) := by
    unfold cp_lag cp_gb
    rcases hf with ⟨h1, _, h⟩ | ⟨h1, _, h, _⟩
    · rw [if_pos h1]
      rcases hg with ⟨g1, g2, _⟩ | ⟨g1, g2, _⟩
      · rw [if_neg (by omega)]; omega
      · rw [if_pos g1]; omega
    · rw [if_neg h1]
      rcases hg with ⟨g1, g2, _⟩ | ⟨g1, g2, _⟩
      · rw [if_neg (by omega)]; omega
      · rw [if_pos g1]; omega
  have hv1 : cq_v pc1 e1 := by
    rcases hf with ⟨h1, h2, h3⟩ | ⟨_, h2, h3, _⟩
    · rw [h2]
      rw [show l + 1 + 1 = l + 2 by omega, hls] at f9
      exact cq_v_up f9 hpc
    · exact Or.inr ⟨pc, by omega, h2⟩
  have hbe2 : be (l + 1) = -1 → bsN (l + 1) = pc := fun h => by rw [f10 h]; exact hls
  have hv' : cq_v pc' ae' := by
    rcases hg with ⟨_, g2, g3, _⟩ | ⟨_, g2, g3, _⟩
    · rw [g2, g3]; exact hv1
    · exact Or.inr ⟨pc1 + 1, by omega, g3⟩
  have hm1 : ae' = -1 → lsN (l + 1) = pc' := by
    intro ha
    rcases hg with ⟨_, g2, g3, _⟩ | ⟨_, g2, g3, _⟩
    · rw [g3] at ha
      rcases hf with ⟨h1, h2, h3⟩ | ⟨_, h2, h3, _⟩
      · rw [h2] at ha
        rw [g2, h3, ← hbe2 ha, f13 h1]
      · rw [h2] at ha
        exact absurd ha (fg_ne (by omega))
    · rw [g3] at ha
      exact absurd ha (fg_ne (by omega))
  refine ⟨⟨by omega, hp, he, k4, k5, k6, by omega, f12, ?_, hv', hm1, fun d hd => ?_, fun hs' => ?_⟩, hlp, by omega⟩
  · rw [hsum _ (Nat.le_refl _)]; omega
  · obtain ⟨q1, q2, q3, q4, q5, q6, q7, q8, q9, q10, q11, q12, q13⟩ := k12 d (by omega)
    have e : d ≠ l + 1 := by omega
    exact ⟨q1, q2, q3, q4, by rw [rl_un e]; exact q5, by rw [hsum d (by omega)]; exact q6, q7, q8, by rw [rl_un e]; exact q9, fun hh => by rw [rl_un e] at hh; exact q10 hh, q11, q12, fun hh => by rw [rl_un e] at hh; exact q13 hh⟩
  · obtain ⟨c1, c2⟩ := k13 hs'
    obtain ⟨q1, q2, q3, q4⟩ := hC hs'
    have L := (c1 (l + 1) (Nat.le_refl _)).2
    rw [show l + 1 + 1 = l + 2 by omega, hod, hls] at L
    obtain ⟨b1, b2, b3, b4, _⟩ := cp_L_le L
    have hlow : ∀ j, j < od (l + 1) → m' j = m j := fun j hj => q2 j (by omega) (fun hne hjJ => by
      rcases L.2.1 with ⟨a1, _⟩ | ⟨_, a2, _⟩
      · exact hne a1
      · have := cp_mem a2 hjJ; omega)
    obtain ⟨D1, D2⟩ := cp_done (m' := m') (x' := x1) (pc' := pc1) (le' := e1) L (by omega) (fun j j1 j2 j3 => q2 j j2 j3) q3 (fun p _ p2 => hx p p2) hf
    refine ⟨fun d hd => ?_, ?_⟩
    · have e : d ≠ l + 1 := by omega
      rw [rl_un e, rl_un e]
      refine ⟨(c1 d (by omega)).1, cp_L_frame (c1 d (by omega)).2 (fun j j1 j2 => hlow j ?_) (fun p p1 p2 => ?_)⟩
      · have h1 := cq_omono c1 (l - d) (d + 1) (by omega)
        rw [show d + 1 + (l - d) = l + 1 by omega] at h1
        omega
      · have h1 := cq_mono k12 (l - d) (d + 1) (by omega)
        rw [show d + 1 + (l - d) = l + 1 by omega] at h1
        rcases hg with ⟨_, _, _, g4⟩ | ⟨_, _, _, _, g5, _⟩
        · rw [g4, hx p (by omega)]
        · rw [g5 p (by omega), hx p (by omega)]
    · rcases hg with ⟨g1, g2, g3, g4⟩ | ⟨g1, g2, g3, g4, g5, g6, g7⟩
      · have e0 : cp_gb (gg (l + 1)) = 0 := by unfold cp_gb; rw [if_neg (by omega)]
        rw [e0, Nat.add_zero] at D1 q1
        rw [g2, g3, g4, q1]
        exact D1
      · have e0 : cp_gb (gg (l + 1)) = 1 := if_pos g1
        rw [e0] at D1 q1
        obtain ⟨n1, n2, n3⟩ := D2 g1
        obtain ⟨r1, r2, r3⟩ := q4 g1
        rw [g2, g3, q1]
        refine fg_grp D1 (by omega) g4 n3 r3 (by rw [g6]) (by rw [g7]) ?_ ?_
        · refine Or.inr (Or.inr (Or.inr ⟨n1, by rw [g7], 2 * (gg (l + 1) - 1), by omega, by rw [g7], ?_⟩))
          rw [n2]; congr 1; omega
        · refine Or.inr (Or.inr (Or.inr ⟨r1, by rw [g6], 2 * (gg (l + 1) - 1) + 1, by omega, by rw [g6], ?_⟩))
          rw [r2]; congr 1; omega
end CJ
