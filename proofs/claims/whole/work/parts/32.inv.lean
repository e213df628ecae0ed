section CI
/-! the invariant of the building, both sides -/
def cp_lag (g : Nat) (le : Int32) : Nat := 2 * cp_gb g + (if le = -2 then 0 else 1)
def cp_sum (g : Nat → Nat) (le : Nat → Int32) : Nat → Nat
  | 0 => 0
  | d + 1 => cp_sum g le d + cp_lag (g d) (le d)
theorem cp_sum_f {g g' : Nat → Nat} {le le' : Nat → Int32} : ∀ d, (∀ i, i < d → g' i = g i ∧ le' i = le i) → cp_sum g' le' d = cp_sum g le d
  | 0, _ => rfl
  | d + 1, h => by
    show cp_sum g' le' d + cp_lag (g' d) (le' d) = cp_sum g le d + cp_lag (g d) (le d)
    rw [cp_sum_f d (fun i hi => h i (by omega)), (h d (by omega)).1, (h d (by omega)).2]
def cq_u (f : Nat → Nat) (k v : Nat) : Nat → Nat := fun j => if j = k then v else f j
theorem cq_us {f : Nat → Nat} {k v : Nat} : cq_u f k v k = v := if_pos rfl
theorem cq_un {f : Nat → Nat} {k v j : Nat} (h : j ≠ k) : cq_u f k v j = f j := if_neg h
def cq_uJ (f : Nat → List Nat) (k : Nat) (v : List Nat) : Nat → List Nat := fun j => if j = k then v else f j
theorem cq_uJs {f : Nat → List Nat} {k : Nat} {v : List Nat} : cq_uJ f k v k = v := if_pos rfl
theorem cq_uJn {f : Nat → List Nat} {k j : Nat} {v : List Nat} (h : j ≠ k) : cq_uJ f k v j = f j := if_neg h
theorem cq_v_up {n k : Nat} {y : Int32} (h : cq_v n y) (hn : n ≤ k) : cq_v k y := by
  rcases h with h | ⟨q, q1, q2⟩
  · exact Or.inl h
  · exact Or.inr ⟨q, by omega, q2⟩
theorem cq_v_m2 {n : Nat} {y : Int32} (h : cq_v n y) (hn : n ≤ 1000) : ¬ y = -2 := by
  rcases h with h | ⟨q, q1, q2⟩
  · rw [h]; decide
  · rw [q2]
    intro e
    have := nI_pos (n := q) (by omega)
    rw [e] at this
    exact this (by decide)
theorem cq_v_mo {n : Nat} {t y : Int32} (ht : cq_v n t) (hy : cq_v n y) : cq_v n (fg_mo t y) := by
  unfold fg_mo
  split
  · exact ht
  · exact hy
theorem cq_mo_m {t y : Int32} (h : fg_mo t y = -1) : y = -1 ∧ t = -1 := by
  unfold fg_mo at h
  split at h
  · rename_i e; exact ⟨e, h⟩
  · rename_i e; exact absurd h e
def cq_D (gg lsN bsN od : Nat → Nat) (lg ls le bs be opd szs gof : Nat → Int32) (d : Nat) : Prop :=
  lg d = nI (gg d) ∧ gof d = nI (gg d) ∧ gg d ≤ 3 ∧ ls d = nI (lsN d) ∧ bs d = nI (bsN d) ∧ szs d = nI (lsN d + cp_sum gg le d) ∧ lsN d ≤ bsN d ∧ bsN d ≤ lsN (d + 1) ∧ cq_v (lsN (d + 1)) (be d) ∧ (be d = -1 → bsN d = lsN (d + 1)) ∧ opd d = nI (od d) ∧ od d ≤ 80 ∧ (le d = -2 → bsN d = lsN d)
def cq_C (lv pc en : Nat) (gg lsN bsN od br : Nat → Nat) (J : Nat → List Nat) (ae : Int32) (m x : Nat → fg_I) (le be brn jmp : Nat → Int32) : Prop :=
  (∀ d, d ≤ lv → brn d = nI (br d) ∧ cp_L m x (gg d) (le d) (jmp d) (be d) (od d) (br d) (od (d + 1)) (lsN d) (bsN d) (lsN (d + 1)) (J d)) ∧ fg_F m x (od (lv + 1)) en (lsN (lv + 1)) pc ae
def cq_K (lv pc en sz : Nat) (gg lsN bsN od br : Nat → Nat) (J : Nat → List Nat) (ae : Int32) (m x : Nat → fg_I) (lg ls le bs be opd brn szs jmp gof : Nat → Int32) : Prop :=
  lv ≤ 24 ∧ pc ≤ 36 ∧ en ≤ 80 ∧ lsN 0 = 0 ∧ gg 0 = 0 ∧ od 0 = 0 ∧ lsN (lv + 1) ≤ pc ∧ od (lv + 1) ≤ 80 ∧ sz = pc + cp_sum gg le (lv + 1) ∧ cq_v pc ae ∧ (ae = -1 → lsN (lv + 1) = pc) ∧
  (∀ d, d ≤ lv → cq_D gg lsN bsN od lg ls le bs be opd szs gof d) ∧
  (sz ≤ 36 → cq_C lv pc en gg lsN bsN od br J ae m x le be brn jmp)
section
variable {lv pc en sz : Nat} {gg lsN bsN od br : Nat → Nat} {J : Nat → List Nat} {ae : Int32} {m x m' x' : Nat → fg_I} {lg ls le bs be opd brn szs jmp gof : Nat → Int32}
theorem cq_mono (hD : ∀ d, d ≤ lv → cq_D gg lsN bsN od lg ls le bs be opd szs gof d) : ∀ k d, d + k ≤ lv + 1 → lsN d ≤ lsN (d + k)
  | 0, d, _ => Nat.le_refl _
  | k + 1, d, h => by
    have h1 := cq_mono hD k d (by omega)
    obtain ⟨_, _, _, _, _, _, a, b, _⟩ := hD (d + k) (by omega)
    rw [show d + (k + 1) = d + k + 1 by omega]
    omega
theorem cq_omono (hC : ∀ d, d ≤ lv → brn d = nI (br d) ∧ cp_L m x (gg d) (le d) (jmp d) (be d) (od d) (br d) (od (d + 1)) (lsN d) (bsN d) (lsN (d + 1)) (J d)) : ∀ k d, d + k ≤ lv + 1 → od d ≤ od (d + k)
  | 0, d, _ => Nat.le_refl _
  | k + 1, d, h => by
    have h1 := cq_omono hC k d (by omega)
    obtain ⟨a, b, _⟩ := cp_L_le (hC (d + k) (by omega)).2
    rw [show d + (k + 1) = d + k + 1 by omega]
    omega
/-- the program is at most twice the size -/
theorem cq_bound (h0 : lsN 0 = 0) (o0 : od 0 = 0) (hC : ∀ d, d ≤ lv → brn d = nI (br d) ∧ cp_L m x (gg d) (le d) (jmp d) (be d) (od d) (br d) (od (d + 1)) (lsN d) (bsN d) (lsN (d + 1)) (J d)) : ∀ k, k ≤ lv + 1 → od k ≤ 2 * lsN k + 2 * cp_sum gg le k
  | 0, _ => by rw [o0]; omega
  | k + 1, h => by
    have h1 := cq_bound h0 o0 hC k (by omega)
    obtain ⟨_, _, c, d, e⟩ := cp_L_le (hC k (by omega)).2
    show od (k + 1) ≤ 2 * lsN (k + 1) + 2 * (cp_sum gg le k + cp_lag (gg k) (le k))
    unfold cp_lag
    have := cp_gb_le (gg k)
    split at e <;> rename_i hh
    · rw [if_pos hh]; omega
    · rw [if_neg hh]; omega
theorem cq_en (h : cq_K lv pc en sz gg lsN bsN od br J ae m x lg ls le bs be opd brn szs jmp gof) (hs : sz ≤ 36) : en ≤ 2 * sz := by
  obtain ⟨k1, k2, k3, k4, k5, k6, k7, k8, k9, k10, k11, k12, k13⟩ := h
  obtain ⟨c1, c2⟩ := k13 hs
  have h1 := cq_bound k4 k6 c1 (lv + 1) (Nat.le_refl _)
  have h2 := c2.1
  have h3 := c2.2.2.1
  omega
/-- another atom in the place of the waiting one -/
theorem cq_atom {pc' en' sz' : Nat} {ae' : Int32} (h : cq_K lv pc en sz gg lsN bsN od br J ae m x lg ls le bs be opd brn szs jmp gof)
    (hp : pc' ≤ 36) (he : en' ≤ 80) (hs : sz' + pc = sz + pc') (hl : lsN (lv + 1) ≤ pc') (hv : cq_v pc' ae') (hm1 : ae' = -1 → lsN (lv + 1) = pc') (hle : pc ≤ pc')
    (hC : sz' ≤ 36 → fg_F m x (od (lv + 1)) en (lsN (lv + 1)) pc ae → fg_F m' x' (od (lv + 1)) en' (lsN (lv + 1)) pc' ae' ∧ (∀ j, j < od (lv + 1) → m' j = m j) ∧ (∀ p, p < lsN (lv + 1) → x' p = x p)) :
    cq_K lv pc' en' sz' gg lsN bsN od br J ae' m' x' lg ls le bs be opd brn szs jmp gof := by
  obtain ⟨k1, k2, k3, k4, k5, k6, k7, k8, k9, k10, k11, k12, k13⟩ := h
  refine ⟨k1, hp, he, k4, k5, k6, hl, k8, by omega, hv, hm1, k12, fun hs' => ?_⟩
  obtain ⟨c1, c2⟩ := k13 (by omega)
  obtain ⟨d1, d2, d3⟩ := hC hs' c2
  refine ⟨fun d hd => ⟨(c1 d hd).1, cp_L_frame (c1 d hd).2 (fun j j1 j2 => d2 j ?_) (fun p p1 p2 => d3 p ?_)⟩, d1⟩
  · have := cq_omono c1 (lv - d) (d + 1) (by omega)
    rw [show d + 1 + (lv - d) = lv + 1 by omega] at this
    omega
  · have := cq_mono k12 (lv - d) (d + 1) (by omega)
    rw [show d + 1 + (lv - d) = lv + 1 by omega] at this
    omega
/-- the waiting atom joins its branch -/
theorem cq_join (h : cq_K lv pc en sz gg lsN bsN od br J ae m x lg ls le bs be opd brn szs jmp gof)
    (hx1 : ∀ p, bsN lv ≤ p → p < lsN (lv + 1) → x' p = fg_px (fg_mo ae) (x p)) (hx2 : ∀ p, p < bsN lv ∨ lsN (lv + 1) ≤ p → x' p = x p) :
    cq_K lv pc en sz gg (cq_u lsN (lv + 1) pc) bsN (cq_u od (lv + 1) en) br J (-1) m x' lg ls le bs (upd be lv (fg_mo ae (be lv))) opd brn szs jmp gof := by
  obtain ⟨k1, k2, k3, k4, k5, k6, k7, k8, k9, k10, k11, k12, k13⟩ := h
  refine ⟨k1, k2, k3, by rw [cq_un (by omega)]; exact k4, k5, by rw [cq_un (by omega)]; exact k6, by rw [cq_us]; exact Nat.le_refl _, by rw [cq_us]; exact k3, k9, Or.inl rfl, fun _ => cq_us, fun d hd => ?_, fun hs' => ?_⟩
  · obtain ⟨e1, e2, e3, e4, e5, e6, e7, e8, e9, e10, e11, e12, e13⟩ := k12 d hd
    by_cases e : d = lv
    · subst e
      refine ⟨e1, e2, e3, by rw [cq_un (by omega)]; exact e4, e5, by rw [cq_un (by omega)]; exact e6, by rw [cq_un (by omega)]; exact e7, by rw [cq_us]; omega, by rw [rl_us, cq_us]; exact cq_v_mo k10 (cq_v_up e9 k7), fun hh => ?_, by rw [cq_un (by omega)]; exact e11, by rw [cq_un (by omega)]; exact e12, by rw [cq_un (by omega)]; exact e13⟩
      rw [rl_us] at hh
      obtain ⟨h1, h2⟩ := cq_mo_m hh
      rw [cq_us, e10 h1, k11 h2]
    · rw [show cq_D gg (cq_u lsN (lv + 1) pc) bsN (cq_u od (lv + 1) en) lg ls le bs (upd be lv (fg_mo ae (be lv))) opd szs gof d = cq_D gg lsN bsN od lg ls le bs be opd szs gof d by
        unfold cq_D
        rw [cq_un (by omega), cq_un (by omega), cq_un (by omega), rl_un e]]
      exact k12 d hd
  · obtain ⟨c1, c2⟩ := k13 hs'
    refine ⟨fun d hd => ⟨(c1 d hd).1, ?_⟩, ?_⟩
    · by_cases e : d = lv
      · subst e
        rw [cq_us, cq_us, rl_us, cq_un (by omega), cq_un (by omega)]
        obtain ⟨_, _, b3, b4, _⟩ := cp_L_le (c1 d hd).2
        exact cp_join (c1 d hd).2 c2 (by omega) (fun p p1 p2 => hx2 p (Or.inl p2)) hx1 (fun p p1 p2 => hx2 p (Or.inr p1))
      · rw [cq_un (by omega), cq_un (by omega), cq_un (by omega), cq_un (by omega), rl_un e]
        have h1 := cq_mono k12 (lv - (d + 1)) (d + 1) (by omega)
        rw [show d + 1 + (lv - (d + 1)) = lv by omega] at h1
        obtain ⟨_, _, b3, b4, _⟩ := cp_L_le (c1 lv (Nat.le_refl _)).2
        exact cp_L_frame (c1 d hd).2 (fun _ _ _ => rfl) (fun p p1 p2 => hx2 p (Or.inl (by omega)))
    · rw [cq_us, cq_us]
      exact fg_empty m x' en pc
end
end CI
