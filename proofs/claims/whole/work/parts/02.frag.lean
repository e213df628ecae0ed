section FG
/-! fragments: a piece of the reference's program against a range of the component's pieces, by ghost labels and conditions of each place -/
abbrev fg_I : Type := Int32 × Int32 × Int32 × Int32
def fg_px (f : Int32 → Int32) (y : fg_I) : fg_I := (y.1, y.2.1, f y.2.2.1, f y.2.2.2)
def fg_mo (t y : Int32) : Int32 := if y = -1 then t else y
def fg_mv (k : Nat) (y : Int32) : Int32 := if y = -1 then -1 else y + nI k
def fg_tg (s e : Nat) (sb : Nat → Bool) (y : Int32) : Prop := y = -1 ∨ ∃ q, s ≤ q ∧ q < e ∧ sb q = false ∧ y = nI q
def fg_SG (i p : fg_I) : Prop :=
  (i.1 = 0 ∧ p.1 = 0 ∧ p.2.1 = i.2.1) ∨ (i.1 = 1 ∧ p.1 = 1) ∨ (i.1 = 2 ∧ p.1 = 2) ∨ (i.1 = 5 ∧ p.1 = 3 ∧ ∃ k, k < 6 ∧ p.2.1 = nI k ∧ i.2.1 = nI (k + 2))
def fg_LC (m x : Nat → fg_I) (a b s e : Nat) (r : Nat → Int32) (ch pd pj : Nat → Bool) (l : Nat → List Int32) (pr : Nat → Nat) (sb : Nat → Bool) (u : Nat → List Int32) (ad : Nat → Nat) (j : Nat) : Prop :=
  ((m j).1 = 4 ∧ ch j = false ∧ ((pj j = true ∧ r j = -1) ∨ (pj j = false ∧ ∃ t, a ≤ t ∧ t ≤ b ∧ nI j + (m j).2.2.1 = nI t ∧ ch t = false ∧ r j = r t ∧ (j < t ∨ (t < b ∧ (m t).1 = 3)))))
  ∨ (∃ p, s ≤ p ∧ p < e ∧ sb p = false ∧ ad p = j ∧ r j = nI p ∧ ch j = false ∧ (m j).2.2.1 = 1 ∧ ch (j + 1) = false ∧ (x p).2.2.1 = r (j + 1) ∧ fg_SG (m j) (x p))
  ∨ ((m j).1 = 3 ∧ ∃ t1 t2, a ≤ t1 ∧ t1 ≤ b ∧ nI j + (m j).2.2.1 = nI t1 ∧ ch t1 = false ∧ a ≤ t2 ∧ t2 ≤ b ∧ nI j + (m j).2.2.2 = nI t2 ∧ (ch t2 = true → pr t2 = j ∧ j < t2) ∧
      ((ch j = false ∧ pd t2 = false ∧ ∃ p, s ≤ p ∧ p < e ∧ sb p = false ∧ ad p = j ∧ r j = nI p ∧ (x p).1 = 4 ∧ u p = r t1 :: l t2) ∨ (ch j = true ∧ pd j = pd t2 ∧ l j = r t1 :: l t2)))
def fg_XC (x : Nat → fg_I) (s : Nat) (sb : Nat → Bool) (u : Nat → List Int32) (pa : Nat → Nat) (p : Nat) : Prop :=
  (sb p = true → (x p).1 = 4) ∧ ((x p).1 = 4 → ((∃ q, (x p).2.2.1 = nI q ∧ s ≤ q ∧ q < p ∧ sb q = true ∧ (x q).1 = 4 ∧ pa q = p ∧ u p = u q ++ [(x p).2.2.2]) ∨ u p = [(x p).2.2.1, (x p).2.2.2]))
/-- the body: every address and every piece keeps its own condition -/
def fg_B (m x : Nat → fg_I) (a b s e : Nat) (r : Nat → Int32) (ch pd pj : Nat → Bool) (l : Nat → List Int32) (pr : Nat → Nat) (sb : Nat → Bool) (u : Nat → List Int32) (ad pa : Nat → Nat) : Prop :=
  (∀ j, a ≤ j → j < b → fg_LC m x a b s e r ch pd pj l pr sb u ad j) ∧
  (∀ j, a ≤ j → j ≤ b → ch j = false → l j = [r j]) ∧
  (∀ j, a ≤ j → j ≤ b → ∀ y, y ∈ l j → fg_tg s e sb y) ∧
  (∀ p, s ≤ p → p < e → fg_XC x s sb u pa p)
/-- a whole fragment: program [a, b) and pieces [s, e), entered at en, left at b and at -1 -/
def fg_F (m x : Nat → fg_I) (a b s e : Nat) (en : Int32) : Prop :=
  a ≤ b ∧ s ≤ e ∧ b ≤ a + 2 * (e - s) ∧ (en = -1 → a = b) ∧ (a = b → s = e) ∧
  ∃ (r : Nat → Int32) (ch : Nat → Bool) (l : Nat → List Int32) (pr : Nat → Nat) (sb : Nat → Bool) (u : Nat → List Int32) (ad pa : Nat → Nat),
    r a = en ∧ r b = -1 ∧ ch a = false ∧ ch b = false ∧ fg_B m x a b s e r ch (fun _ => false) (fun _ => false) l pr sb u ad pa

theorem fg_ne {q : Nat} (h : q < 2 ^ 31) : ¬ nI q = -1 := by
  intro e
  have h1 := nI_pos (n := q) h
  rw [e] at h1
  exact h1 (by decide)
theorem fg_ij {a b : Nat} (h : nI a = nI b) (ha : a < 2 ^ 31) (hb : b < 2 ^ 31) : a = b := (nI_eq ha hb).mp h
theorem fg_sh {j t d : Nat} {y : Int32} (h : nI j + y = nI t) : nI (j + d) + y = nI (t + d) := by
  rw [← nI_add, ← nI_add, ← h]; grind
theorem fg_mo_m (t : Int32) : fg_mo t (-1) = t := if_pos rfl
theorem fg_mo_n {t : Int32} {q : Nat} (h : q < 2 ^ 31) : fg_mo t (nI q) = nI q := if_neg (fg_ne h)
theorem fg_mv_m (k : Nat) : fg_mv k (-1) = -1 := if_pos rfl
theorem fg_mv_n {k q : Nat} (h : q < 2 ^ 31) : fg_mv k (nI q) = nI (q + k) := by
  rw [fg_mv, if_neg (fg_ne h), nI_add]
theorem fg_mo_id (y : Int32) : fg_mo (-1) y = y := by
  by_cases h : y = -1
  · rw [h]; exact fg_mo_m _
  · exact if_neg h
theorem fg_px_id (y : fg_I) : fg_px (fg_mo (-1)) y = y := by
  obtain ⟨a, b, c, d⟩ := y
  show (a, b, fg_mo (-1) c, fg_mo (-1) d) = _
  rw [fg_mo_id, fg_mo_id]
theorem fg_px_i (y : fg_I) : fg_px id y = y := rfl
theorem fg_SG_px {i p : fg_I} (f : Int32 → Int32) (h : fg_SG i p) : fg_SG i (fg_px f p) := h
theorem fg_SG_4 {i p : fg_I} (h : fg_SG i p) : i.1 ≠ 4 ∧ i.1 ≠ 3 ∧ p.1 ≠ 4 := by
  rcases h with ⟨h1, h2, _⟩ | ⟨h1, h2⟩ | ⟨h1, h2⟩ | ⟨h1, h2, _⟩ <;> rw [h1, h2] <;> decide

/-- the map: program moved by d, pieces moved by k, targets by φ -/
theorem fg_map {m x m' x' : Nat → fg_I} {a b s e A B S E : Nat} {r r' : Nat → Int32} {ch ch' pd pd' pj pj' : Nat → Bool} {l l' : Nat → List Int32} {pr pr' : Nat → Nat} {sb sb' : Nat → Bool} {u u' : Nat → List Int32} {ad ad' : Nat → Nat} (d k : Nat) (φ : Int32 → Int32)
    (hA : A ≤ a + d) (hB : b + d ≤ B) (hS : S ≤ s + k) (hE : e + k ≤ E)
    (hφ : ∀ q, s ≤ q → q < e → φ (nI q) = nI (q + k))
    (hp : ∀ j, a ≤ j → j < b → pj j = true → φ (-1) = -1)
    (hm : ∀ j, a ≤ j → j < b → m' (j + d) = m j)
    (hx : ∀ p, s ≤ p → p < e → x' (p + k) = fg_px φ (x p))
    (hr : ∀ j, a ≤ j → j ≤ b → r' (j + d) = φ (r j))
    (hc : ∀ j, a ≤ j → j ≤ b → ch' (j + d) = ch j)
    (hd : ∀ j, a ≤ j → j ≤ b → pd' (j + d) = pd j)
    (hj : ∀ j, a ≤ j → j < b → pj' (j + d) = pj j)
    (hl : ∀ j, a ≤ j → j ≤ b → l' (j + d) = (l j).map φ)
    (hq : ∀ j, a ≤ j → j ≤ b → ch j = true → pr' (j + d) = pr j + d)
    (hs : ∀ p, s ≤ p → p < e → sb' (p + k) = sb p)
    (hu : ∀ p, s ≤ p → p < e → u' (p + k) = (u p).map φ)
    (ha : ∀ p, s ≤ p → p < e → ad' (p + k) = ad p + d)
    {j : Nat} (h1 : a ≤ j) (h2 : j < b) (h : fg_LC m x a b s e r ch pd pj l pr sb u ad j) : fg_LC m' x' A B S E r' ch' pd' pj' l' pr' sb' u' ad' (j + d) := by
  have h3 : j ≤ b := Nat.le_of_lt h2
  rcases h with ⟨h4, hcj, hh⟩ | ⟨p, p1, p2, p3, p4, p5, p6, p7, p8, p9, p10⟩ | ⟨h4, t1, t2, a1, a2, a3, a4, a5, a6, a7, a8, hh⟩
  · refine Or.inl ⟨by rw [hm j h1 h2]; exact h4, by rw [hc j h1 h3]; exact hcj, ?_⟩
    rcases hh with ⟨e1, e2⟩ | ⟨e1, t, t1, t2, t3, t4, t5, t6⟩
    · exact Or.inl ⟨by rw [hj j h1 h2]; exact e1, by rw [hr j h1 h3, e2]; exact hp j h1 h2 e1⟩
    · refine Or.inr ⟨by rw [hj j h1 h2]; exact e1, t + d, by omega, by omega, ?_, by rw [hc t t1 t2]; exact t4, by rw [hr j h1 h3, hr t t1 t2, t5], ?_⟩
      · rw [hm j h1 h2]; exact fg_sh t3
      · rcases t6 with h | ⟨h, h'⟩
        · exact Or.inl (by omega)
        · exact Or.inr ⟨by omega, by rw [hm t t1 h]; exact h'⟩
  · refine Or.inr (Or.inl ⟨p + k, by omega, by omega, by rw [hs p p1 p2]; exact p3, by rw [ha p p1 p2, p4], by rw [hr j h1 h3, p5]; exact hφ p p1 p2, by rw [hc j h1 h3]; exact p6, by rw [hm j h1 h2]; exact p7, ?_, ?_, ?_⟩)
    · rw [show j + d + 1 = (j + 1) + d by omega, hc (j + 1) (by omega) (by omega)]; exact p8
    · rw [show j + d + 1 = (j + 1) + d by omega, hr (j + 1) (by omega) (by omega), hx p p1 p2, ← p9]; rfl
    · rw [hm j h1 h2, hx p p1 p2]; exact fg_SG_px φ p10
  · refine Or.inr (Or.inr ⟨by rw [hm j h1 h2]; exact h4, t1 + d, t2 + d, by omega, by omega, by rw [hm j h1 h2]; exact fg_sh a3, by rw [hc t1 a1 a2]; exact a4, by omega, by omega, by rw [hm j h1 h2]; exact fg_sh a7, ?_, ?_⟩)
    · intro h
      rw [hc t2 a5 a6] at h
      have := a8 h
      exact ⟨by rw [hq t2 a5 a6 h, this.1], by omega⟩
    · rcases hh with ⟨c1, c2, p, p1, p2, p3, p4, p5, p6, p7⟩ | ⟨c1, c2, c3⟩
      · refine Or.inl ⟨by rw [hc j h1 h3]; exact c1, by rw [hd t2 a5 a6]; exact c2, p + k, by omega, by omega, by rw [hs p p1 p2]; exact p3, by rw [ha p p1 p2, p4], by rw [hr j h1 h3, p5]; exact hφ p p1 p2, by rw [hx p p1 p2]; exact p6, ?_⟩
        rw [hu p p1 p2, p7, hr t1 a1 a2, hl t2 a5 a6]; rfl
      · refine Or.inr ⟨by rw [hc j h1 h3]; exact c1, by rw [hd j h1 h3, hd t2 a5 a6]; exact c2, ?_⟩
        rw [hl j h1 h3, c3, hr t1 a1 a2, hl t2 a5 a6]; rfl
theorem fg_xmap {x x' : Nat → fg_I} {s e S : Nat} {sb sb' : Nat → Bool} {u u' : Nat → List Int32} {pa pa' : Nat → Nat} (k : Nat) (φ : Int32 → Int32)
    (hS : S ≤ s + k)
    (hφ : ∀ q, s ≤ q → q < e → φ (nI q) = nI (q + k))
    (hx : ∀ p, s ≤ p → p < e → x' (p + k) = fg_px φ (x p))
    (hs : ∀ p, s ≤ p → p < e → sb' (p + k) = sb p)
    (hu : ∀ p, s ≤ p → p < e → u' (p + k) = (u p).map φ)
    (ha : ∀ p, s ≤ p → p + 1 < e → sb p = true → pa' (p + k) = pa p + k)
    {p : Nat} (h1 : s ≤ p) (h2 : p < e) (h : fg_XC x s sb u pa p) : fg_XC x' S sb' u' pa' (p + k) := by
  refine ⟨fun h0 => ?_, fun h0 => ?_⟩
  · rw [hs p h1 h2] at h0
    rw [hx p h1 h2]; exact h.1 h0
  · rw [hx p h1 h2] at h0
    rcases h.2 h0 with ⟨q, q1, q2, q3, q4, q5, q6, q7⟩ | h
    · have q8 : q < e := by omega
      refine Or.inl ⟨q + k, ?_, by omega, by omega, by rw [hs q q2 q8]; exact q4, by rw [hx q q2 q8]; exact q5, by rw [ha q q2 (by omega) q4, q6], ?_⟩
      · rw [hx p h1 h2, ← hφ q q2 q8, ← q1]; rfl
      · rw [hu p h1 h2, q7, List.map_append, hu q q2 q8, hx p h1 h2]; rfl
    · refine Or.inr ?_
      rw [hu p h1 h2, h, hx p h1 h2]; rfl
theorem fg_tmap {s e S E : Nat} {sb sb' : Nat → Bool} (k : Nat) (φ : Int32 → Int32) (hS : S ≤ s + k) (hE : e + k ≤ E)
    (hφ : ∀ q, s ≤ q → q < e → φ (nI q) = nI (q + k)) (hs : ∀ p, s ≤ p → p < e → sb' (p + k) = sb p) (h0 : fg_tg S E sb' (φ (-1))) {y : Int32} (h : fg_tg s e sb y) : fg_tg S E sb' (φ y) := by
  rcases h with h | ⟨q, q1, q2, q3, q4⟩
  · rw [h]; exact h0
  · exact Or.inr ⟨q + k, by omega, by omega, by rw [hs q q1 q2]; exact q3, by rw [q4, hφ q q1 q2]⟩
theorem fg_tg_m {s e : Nat} {sb : Nat → Bool} : fg_tg s e sb (-1) := Or.inl rfl
/-- what a part of a glued fragment gives, all four clauses at once -/
theorem fg_part {m x m' x' : Nat → fg_I} {a b s e A B S E : Nat} {r r' : Nat → Int32} {ch ch' pd pd' pj pj' : Nat → Bool} {l l' : Nat → List Int32} {pr pr' : Nat → Nat} {sb sb' : Nat → Bool} {u u' : Nat → List Int32} {ad ad' pa pa' : Nat → Nat} (d k : Nat) (φ : Int32 → Int32)
    (H : fg_B m x a b s e r ch pd pj l pr sb u ad pa)
    (hA : A ≤ a + d) (hB : b + d ≤ B) (hS : S ≤ s + k) (hE : e + k ≤ E)
    (hφ : ∀ q, s ≤ q → q < e → φ (nI q) = nI (q + k))
    (hp : ∀ j, a ≤ j → j < b → pj j = true → φ (-1) = -1)
    (h0 : fg_tg S E sb' (φ (-1)))
    (hm : ∀ j, a ≤ j → j < b → m' (j + d) = m j)
    (hx : ∀ p, s ≤ p → p < e → x' (p + k) = fg_px φ (x p))
    (hr : ∀ j, a ≤ j → j ≤ b → r' (j + d) = φ (r j))
    (hc : ∀ j, a ≤ j → j ≤ b → ch' (j + d) = ch j)
    (hd : ∀ j, a ≤ j → j ≤ b → pd' (j + d) = pd j)
    (hj : ∀ j, a ≤ j → j < b → pj' (j + d) = pj j)
    (hl : ∀ j, a ≤ j → j ≤ b → l' (j + d) = (l j).map φ)
    (hq : ∀ j, a ≤ j → j ≤ b → ch j = true → pr' (j + d) = pr j + d)
    (hs : ∀ p, s ≤ p → p < e → sb' (p + k) = sb p)
    (hu : ∀ p, s ≤ p → p < e → u' (p + k) = (u p).map φ)
    (ha : ∀ p, s ≤ p → p < e → ad' (p + k) = ad p + d)
    (hg : ∀ p, s ≤ p → p + 1 < e → sb p = true → pa' (p + k) = pa p + k) :
    (∀ i, a + d ≤ i → i < b + d → fg_LC m' x' A B S E r' ch' pd' pj' l' pr' sb' u' ad' i) ∧
    (∀ i, a + d ≤ i → i ≤ b + d → ch' i = false → l' i = [r' i]) ∧
    (∀ i, a + d ≤ i → i ≤ b + d → ∀ y, y ∈ l' i → fg_tg S E sb' y) ∧
    (∀ i, s + k ≤ i → i < e + k → fg_XC x' S sb' u' pa' i) := by
  obtain ⟨H1, H2, H3, H4⟩ := H
  refine ⟨fun i i1 i2 => ?_, fun i i1 i2 i3 => ?_, fun i i1 i2 y hy => ?_, fun i i1 i2 => ?_⟩
  · obtain ⟨j, rfl⟩ : ∃ j, i = j + d := ⟨i - d, by omega⟩
    exact fg_map d k φ hA hB hS hE hφ hp hm hx hr hc hd hj hl hq hs hu ha (by omega) (by omega) (H1 j (by omega) (by omega))
  · obtain ⟨j, rfl⟩ : ∃ j, i = j + d := ⟨i - d, by omega⟩
    rw [hc j (by omega) (by omega)] at i3
    rw [hl j (by omega) (by omega), hr j (by omega) (by omega), H2 j (by omega) (by omega) i3]; rfl
  · obtain ⟨j, rfl⟩ : ∃ j, i = j + d := ⟨i - d, by omega⟩
    rw [hl j (by omega) (by omega)] at hy
    obtain ⟨z, hz, rfl⟩ := List.mem_map.mp hy
    exact fg_tmap k φ hS hE hφ hs h0 (H3 j (by omega) (by omega) z hz)
  · obtain ⟨p, rfl⟩ : ∃ p, i = p + k := ⟨i - k, by omega⟩
    exact fg_xmap k φ hS hφ hx hs hu hg (by omega) (by omega) (H4 p (by omega) (by omega))
theorem fg_gl {α : Type} (b : Nat) (f g : Nat → α) : ∃ h : Nat → α, (∀ j, j < b → h j = f j) ∧ (∀ j, b ≤ j → h j = g j) :=
  ⟨fun j => if j < b then f j else g j, fun _ h => if_pos h, fun _ h => if_neg (by omega)⟩
theorem fg_gl3 {α : Type} {b c : Nat} (hbc : b ≤ c) (f g k : Nat → α) : ∃ h : Nat → α, (∀ j, j < b → h j = f j) ∧ (∀ j, b ≤ j → j < c → h j = g j) ∧ (∀ j, c ≤ j → h j = k j) :=
  ⟨fun j => if j < b then f j else if j < c then g j else k j, fun _ h => if_pos h, fun _ h1 h2 => (if_neg (by omega)).trans (if_pos h2), fun _ h => (if_neg (by omega)).trans (if_neg (by omega))⟩
theorem fg_ff {P : Prop} (h : false = true) : P := by
  cases h
theorem fg_B_r {m x : Nat → fg_I} {a b s e : Nat} {r : Nat → Int32} {ch pd pj : Nat → Bool} {l : Nat → List Int32} {pr : Nat → Nat} {sb : Nat → Bool} {u : Nat → List Int32} {ad pa : Nat → Nat}
    (H : fg_B m x a b s e r ch pd pj l pr sb u ad pa) {j : Nat} (h1 : a ≤ j) (h2 : j ≤ b) (h3 : ch j = false) : fg_tg s e sb (r j) :=
  H.2.2.1 j h1 h2 (r j) (by rw [H.2.1 j h1 h2 h3]; exact List.mem_singleton.mpr rfl)
theorem fg_tg_up {s e S E : Nat} {sb sb' : Nat → Bool} {y : Int32} (h : fg_tg s e sb y) (hS : S ≤ s) (hE : e ≤ E) (hs : ∀ p, s ≤ p → p < e → sb' p = sb p) : fg_tg S E sb' y := by
  rcases h with h | ⟨q, q1, q2, q3, q4⟩
  · exact Or.inl h
  · exact Or.inr ⟨q, by omega, by omega, by rw [hs q q1 q2]; exact q3, q4⟩

theorem fg_empty (m x : Nat → fg_I) (a s : Nat) : fg_F m x a a s s (-1) := by
  refine ⟨Nat.le_refl _, Nat.le_refl _, by omega, fun _ => rfl, fun _ => rfl, fun _ => -1, fun _ => false, fun _ => [-1], fun _ => 0, fun _ => false, fun _ => [], fun _ => 0, fun _ => 0, rfl, rfl, rfl, rfl, ?_, ?_, ?_, ?_⟩
  · intro j h1 h2; omega
  · intro j _ _ _; rfl
  · intro j _ _ y hy
    exact Or.inl (List.mem_singleton.mp hy)
  · intro p h1 h2; omega
theorem fg_one {m x : Nat → fg_I} {a s : Nat} (hs : s < 1000) (h1 : (m a).2.2.1 = 1) (h2 : (x s).2.2.1 = -1) (h3 : fg_SG (m a) (x s)) : fg_F m x a (a + 1) s (s + 1) (nI s) := by
  obtain ⟨r, r1, r2⟩ := fg_gl (a + 1) (fun _ => nI s) (fun _ => (-1 : Int32))
  have ra : r a = nI s := r1 a (by omega)
  have rb : r (a + 1) = -1 := r2 (a + 1) (by omega)
  refine ⟨by omega, by omega, by omega, fun h => absurd h (fg_ne (by omega)), by omega, r, fun _ => false, fun j => [r j], fun _ => 0, fun _ => false, fun _ => [], fun _ => a, fun _ => 0, ra, rb, rfl, rfl, ?_, ?_, ?_, ?_⟩
  · intro j j1 j2
    obtain rfl : j = a := by omega
    exact Or.inr (Or.inl ⟨s, by omega, by omega, rfl, rfl, ra, rfl, h1, rfl, by rw [h2, rb], h3⟩)
  · intro j _ _ _; rfl
  · intro j j1 j2 y hy
    rw [List.mem_singleton.mp hy]
    by_cases h : j = a
    · rw [h, ra]; exact Or.inr ⟨s, by omega, by omega, rfl, rfl⟩
    · rw [r2 j (by omega)]; exact Or.inl rfl
  · intro p p1 p2
    obtain rfl : p = s := by omega
    exact ⟨fun h => by simp at h, fun h => absurd h (fg_SG_4 h3).2.2⟩
/-- moved as it is -/
theorem fg_shift {m x m' x' : Nat → fg_I} {a b s e : Nat} {en : Int32} (d k : Nat) (h : fg_F m x a b s e en) (he : e + k < 1000)
    (hm : ∀ j, a ≤ j → j < b → m' (j + d) = m j) (hx : ∀ p, s ≤ p → p < e → x' (p + k) = fg_px (fg_mv k) (x p)) : fg_F m' x' (a + d) (b + d) (s + k) (e + k) (fg_mv k en) := by
  obtain ⟨g1, g2, g3, g4, g5, r, ch, l, pr, sb, u, ad, pa, ra, rb, ca, cb, H⟩ := h
  have hen : en = -1 ∨ ∃ q, q < 1000 ∧ en = nI q := by
    rcases fg_B_r H (Nat.le_refl a) g1 ca with h | ⟨q, q1, q2, q3, q4⟩
    · exact Or.inl (by rw [← ra]; exact h)
    · exact Or.inr ⟨q, by omega, by rw [← ra]; exact q4⟩
  refine ⟨by omega, by omega, by omega, ?_, by omega, fun j => fg_mv k (r (j - d)), fun j => ch (j - d), fun j => (l (j - d)).map (fg_mv k), fun j => pr (j - d) + d, fun p => sb (p - k), fun p => (u (p - k)).map (fg_mv k), fun p => ad (p - k) + d, fun p => pa (p - k) + k, ?_, ?_, ?_, ?_, ?_⟩
  · intro h
    rcases hen with h' | ⟨q, q1, q2⟩
    · rw [g4 h']
    · rw [q2, fg_mv_n (by omega)] at h
      exact absurd h (fg_ne (by omega))
  · dsimp only; rw [Nat.add_sub_cancel, ra]
  · dsimp only; rw [Nat.add_sub_cancel, rb, fg_mv_m]
  · dsimp only; rw [Nat.add_sub_cancel, ca]
  · dsimp only; rw [Nat.add_sub_cancel, cb]
  · refine fg_part d k (fg_mv k) H (Nat.le_refl _) (Nat.le_refl _) (Nat.le_refl _) (Nat.le_refl _) (fun q q1 q2 => fg_mv_n (by omega)) (fun j _ _ h => fg_ff h) (Or.inl (fg_mv_m k)) hm hx ?_ ?_ ?_ ?_ ?_ ?_ ?_ ?_ ?_ ?_ <;> (intros; simp only [Nat.add_sub_cancel])
/-- the same ranges, other stores beside them -/
theorem fg_frame {m x m' x' : Nat → fg_I} {a b s e : Nat} {en : Int32} (h : fg_F m x a b s e en)
    (hm : ∀ j, a ≤ j → j < b → m' j = m j) (hx : ∀ p, s ≤ p → p < e → x' p = x p) : fg_F m' x' a b s e en := by
  obtain ⟨g1, g2, g3, g4, g5, r, ch, l, pr, sb, u, ad, pa, ra, rb, ca, cb, H⟩ := h
  refine ⟨g1, g2, g3, g4, g5, r, ch, l, pr, sb, u, ad, pa, ra, rb, ca, cb, ?_⟩
  exact fg_part 0 0 id H (Nat.le_refl _) (Nat.le_refl _) (Nat.le_refl _) (Nat.le_refl _) (fun q _ _ => rfl) (fun j _ _ h => fg_ff h) (Or.inl rfl) hm hx (fun _ _ _ => rfl) (fun _ _ _ => rfl) (fun _ _ _ => rfl) (fun _ _ _ => rfl) (fun j _ _ => (List.map_id (l j)).symm) (fun _ _ _ _ => rfl) (fun _ _ _ => rfl) (fun p _ _ => (List.map_id (u p)).symm) (fun _ _ _ => rfl) (fun _ _ _ _ => rfl)
theorem fg_seq {m x x' : Nat → fg_I} {a b c s q e : Nat} {en1 en2 : Int32} (h1 : fg_F m x a b s q en1) (h2 : fg_F m x b c q e en2) (he : e < 1000)
    (hx1 : ∀ p, s ≤ p → p < q → x' p = fg_px (fg_mo en2) (x p)) (hx2 : ∀ p, q ≤ p → p < e → x' p = x p) : fg_F m x' a c s e (fg_mo en2 en1) := by
  obtain ⟨g1, g2, g3, g4, g5, r1, ch1, l1, pr1, sb1, u1, ad1, pa1, ra1, rb1, ca1, cb1, H1⟩ := h1
  obtain ⟨f1, f2, f3, f4, f5, r2, ch2, l2, pr2, sb2, u2, ad2, pa2, ra2, rb2, ca2, cb2, H2⟩ := h2
  obtain ⟨r, rl, rh⟩ := fg_gl b (fun j => fg_mo en2 (r1 j)) r2
  obtain ⟨ch, cl, chh⟩ := fg_gl b ch1 ch2
  obtain ⟨l, ll, lh⟩ := fg_gl b (fun j => (l1 j).map (fg_mo en2)) l2
  obtain ⟨pr, pl, ph⟩ := fg_gl b pr1 pr2
  obtain ⟨sb, sl, sh⟩ := fg_gl q sb1 sb2
  obtain ⟨u, ul, uh⟩ := fg_gl q (fun j => (u1 j).map (fg_mo en2)) u2
  obtain ⟨ad, al, ah⟩ := fg_gl q ad1 ad2
  obtain ⟨pa, pal, pah⟩ := fg_gl q pa1 pa2
  have rbb : ∀ j, a ≤ j → j ≤ b → r j = fg_mo en2 (r1 j) := fun j _ j2 => by
    by_cases h : j < b
    · exact rl j h
    · obtain rfl : j = b := by omega
      rw [rh j (Nat.le_refl _), ra2, rb1, fg_mo_m]
  have cbb : ∀ j, a ≤ j → j ≤ b → ch j = ch1 j := fun j _ j2 => by
    by_cases h : j < b
    · exact cl j h
    · obtain rfl : j = b := by omega
      rw [chh j (Nat.le_refl _), ca2, cb1]
  have lbb : ∀ j, a ≤ j → j ≤ b → l j = (l1 j).map (fg_mo en2) := fun j _ j2 => by
    by_cases h : j < b
    · exact ll j h
    · obtain rfl : j = b := by omega
      rw [lh j (Nat.le_refl _), H2.2.1 j (Nat.le_refl _) f1 ca2, H1.2.1 j g1 (Nat.le_refl _) cb1, ra2, rb1]
      show _ = [fg_mo en2 (-1)]
      rw [fg_mo_m]
  have ten : fg_tg s e sb en2 := by
    rw [← ra2]
    exact fg_tg_up (fg_B_r H2 (Nat.le_refl _) f1 ca2) g2 (Nat.le_refl _) (fun p p1 _ => sh p p1)
  have P1 := fg_part (A := a) (B := c) (S := s) (E := e) (m' := m) (x' := x') (r' := r) (ch' := ch) (pd' := fun _ => false) (pj' := fun _ => false) (l' := l) (pr' := pr) (sb' := sb) (u' := u) (ad' := ad) (pa' := pa) 0 0 (fg_mo en2) H1 (Nat.le_refl _) f1 (Nat.le_refl _) f2 (fun q _ _ => fg_mo_n (by omega)) (fun j _ _ h => fg_ff h) (by rw [fg_mo_m]; exact ten) (fun _ _ _ => rfl) (fun p p1 p2 => hx1 p p1 p2) rbb cbb (fun _ _ _ => rfl) (fun _ _ _ => rfl) lbb
    (fun j j1 j2 jc => by
      by_cases h : j < b
      · exact pl j h
      · obtain rfl : j = b := by omega
        rw [cb1] at jc; cases jc)
    (fun p _ p2 => sl p p2) (fun p _ p2 => ul p p2) (fun p _ p2 => al p p2) (fun p _ p2 _ => pal p (by omega))
  have P2 := fg_part (A := a) (B := c) (S := s) (E := e) (m' := m) (x' := x') (r' := r) (ch' := ch) (pd' := fun _ => false) (pj' := fun _ => false) (l' := l) (pr' := pr) (sb' := sb) (u' := u) (ad' := ad) (pa' := pa) 0 0 id H2 g1 (Nat.le_refl _) g2 (Nat.le_refl _) (fun _ _ _ => rfl) (fun j _ _ h => fg_ff h) (Or.inl rfl) (fun _ _ _ => rfl) (fun p p1 p2 => hx2 p p1 p2) (fun j j1 _ => rh j j1) (fun j j1 _ => chh j j1) (fun _ _ _ => rfl) (fun _ _ _ => rfl)
    (fun j j1 _ => (lh j j1).trans (List.map_id _).symm) (fun j j1 _ _ => ph j j1) (fun p p1 _ => sh p p1) (fun p p1 _ => (uh p p1).trans (List.map_id _).symm) (fun p p1 _ => ah p p1) (fun p p1 _ _ => pah p p1)
  obtain ⟨A1, A2, A3, A4⟩ := P1
  obtain ⟨B1, B2, B3, B4⟩ := P2
  refine ⟨by omega, by omega, by omega, ?_, by omega, r, ch, l, pr, sb, u, ad, pa, ?_, ?_, ?_, ?_, ?_, ?_, ?_, ?_⟩
  · intro h
    by_cases h1 : en1 = -1
    · rw [h1, fg_mo_m] at h
      have := g4 h1
      have := f4 h
      omega
    · rw [fg_mo, if_neg h1] at h
      exact absurd h h1
  · rw [rbb a (Nat.le_refl _) g1, ra1]
  · rw [rh c f1, rb2]
  · rw [cbb a (Nat.le_refl _) g1, ca1]
  · rw [chh c f1, cb2]
  · intro j j1 j2
    by_cases h : j < b
    · exact A1 j j1 h
    · exact B1 j (by omega) j2
  · intro j j1 j2
    by_cases h : j < b
    · exact A2 j j1 (by omega)
    · exact B2 j (by omega) j2
  · intro j j1 j2
    by_cases h : j < b
    · exact A3 j j1 (by omega)
    · exact B3 j (by omega) j2
  · intro p p1 p2
    by_cases h : p < q
    · exact A4 p p1 h
    · exact B4 p (by omega) p2
end FG
