section FH
theorem fg_fork {m x x' : Nat → fg_I} {a b s e w : Nat} {en T : Int32} (h : fg_F m x (a + 1) b s e en) (he : e < 999)
    (ha : (m a).1 = 3)
    (hw : (w = 0 ∧ T = -1) ∨ (w = 1 ∧ T = nI e ∧ (m b).1 = 4 ∧ nI b + (m b).2.2.1 = nI a))
    (hx : ∀ p, s ≤ p → p < e → x' p = fg_px (fg_mo T) (x p)) (hk : (x' e).1 = 4)
    (hsp : (nI a + (m a).2.2.1 = nI (a + 1) ∧ nI a + (m a).2.2.2 = nI (b + w) ∧ (x' e).2.2 = (fg_mo T en, -1)) ∨ (nI a + (m a).2.2.1 = nI (b + w) ∧ nI a + (m a).2.2.2 = nI (a + 1) ∧ (x' e).2.2 = (-1, fg_mo T en))) :
    fg_F m x' a (b + w) s (e + 1) (nI e) := by
  obtain ⟨g1, g2, g3, g4, g5, r1, ch1, l1, pr1, sb1, u1, ad1, pa1, ra1, rb1, ca1, cb1, H⟩ := h
  have hw1 : w ≤ 1 := by omega
  obtain ⟨r, q1, q2, q3⟩ := fg_gl3 (show a + 1 ≤ b + 1 by omega) (fun _ => nI e) (fun j => fg_mo T (r1 j)) (fun _ => (-1 : Int32))
  obtain ⟨ch, c1, c2, c3⟩ := fg_gl3 (show a + 1 ≤ b + 1 by omega) (fun _ => false) ch1 (fun _ => false)
  obtain ⟨l, l1', l2, l3⟩ := fg_gl3 (show a + 1 ≤ b + 1 by omega) (fun _ => [nI e]) (fun j => (l1 j).map (fg_mo T)) (fun _ => [(-1 : Int32)])
  obtain ⟨sb, sl, sh⟩ := fg_gl e sb1 (fun _ => false)
  obtain ⟨u, ul, uh⟩ := fg_gl e (fun p => (u1 p).map (fg_mo T)) (fun _ => [(x' e).2.2.1, (x' e).2.2.2])
  obtain ⟨ad, al, ah⟩ := fg_gl e ad1 (fun _ => a)
  have re : r a = nI e := q1 a (by omega)
  have ce : ch a = false := c1 a (by omega)
  have tT : fg_tg s (e + 1) sb T := by
    rcases hw with ⟨_, h⟩ | ⟨_, h, _⟩
    · exact Or.inl h
    · exact Or.inr ⟨e, g2, by omega, sh e (Nat.le_refl _), h⟩
  have rx : r (b + w) = -1 := by
    rcases hw with ⟨h0, h⟩ | ⟨h0, _⟩
    · rw [h0, q2 (b + 0) (by omega) (by omega), Nat.add_zero, rb1, fg_mo_m, h]
    · rw [h0]; exact q3 _ (by omega)
  have cx : ch (b + w) = false := by
    rcases hw with ⟨h0, _⟩ | ⟨h0, _⟩
    · rw [h0, c2 (b + 0) (by omega) (by omega), Nat.add_zero, cb1]
    · rw [h0]; exact c3 _ (by omega)
  have lx : l (b + w) = [-1] := by
    rcases hw with ⟨h0, h⟩ | ⟨h0, _⟩
    · rw [h0, l2 (b + 0) (by omega) (by omega), Nat.add_zero, H.2.1 b g1 (Nat.le_refl _) cb1, rb1]
      show [fg_mo T (-1)] = _
      rw [fg_mo_m, h]
    · rw [h0]; exact l3 _ (by omega)
  obtain ⟨A1, A2, A3, A4⟩ := fg_part (A := a) (B := b + w) (S := s) (E := e + 1) (m' := m) (x' := x') (r' := r) (ch' := ch) (pd' := fun _ => false) (pj' := fun _ => false) (l' := l) (pr' := pr1) (sb' := sb) (u' := u) (ad' := ad) (pa' := pa1) 0 0 (fg_mo T) H (by omega) (by omega) (Nat.le_refl _) (by omega) (fun q _ _ => fg_mo_n (by omega)) (fun j _ _ h => fg_ff h) (by rw [fg_mo_m]; exact tT) (fun _ _ _ => rfl) (fun p p1 p2 => hx p p1 p2)
    (fun j j1 j2 => q2 j j1 (by omega)) (fun j j1 j2 => c2 j j1 (by omega)) (fun _ _ _ => rfl) (fun _ _ _ => rfl) (fun j j1 j2 => l2 j j1 (by omega)) (fun j _ _ _ => rfl)
    (fun p _ p2 => sl p p2) (fun p _ p2 => ul p p2) (fun p _ p2 => al p p2) (fun p _ _ _ => rfl)
  have ra' : r (a + 1) = fg_mo T en := by rw [q2 (a + 1) (by omega) (by omega), ra1]
  have ca' : ch (a + 1) = false := by rw [c2 (a + 1) (by omega) (by omega), ca1]
  have la' : l (a + 1) = [fg_mo T en] := by
    rw [l2 (a + 1) (by omega) (by omega), H.2.1 (a + 1) (Nat.le_refl _) g1 ca1, ra1]; rfl
  refine ⟨by omega, by omega, by omega, fun h => absurd h (fg_ne (by omega)), by omega, r, ch, l, pr1, sb, u, ad, pa1, re, rx, ce, cx, ?_, ?_, ?_, ?_⟩
  · intro j j1 j2
    by_cases h0 : j = a
    · rw [h0]
      refine Or.inr (Or.inr ⟨ha, ?_⟩)
      rcases hsp with ⟨e1, e2, e3⟩ | ⟨e1, e2, e3⟩
      · refine ⟨a + 1, b + w, by omega, by omega, e1, ca', by omega, Nat.le_refl _, e2, (fun h => by rw [cx] at h; cases h), Or.inl ⟨ce, rfl, e, g2, by omega, sh e (Nat.le_refl _), ah e (Nat.le_refl _), re, hk, ?_⟩⟩
        rw [uh e (Nat.le_refl _), ra', lx, e3]
      · refine ⟨b + w, a + 1, by omega, Nat.le_refl _, e1, cx, by omega, by omega, e2, (fun h => by rw [ca'] at h; cases h), Or.inl ⟨ce, rfl, e, g2, by omega, sh e (Nat.le_refl _), ah e (Nat.le_refl _), re, hk, ?_⟩⟩
        rw [uh e (Nat.le_refl _), rx, la', e3]
    · by_cases h1 : j < b
      · exact A1 j (by omega) h1
      · obtain rfl : j = b := by omega
        rcases hw with ⟨h0, _⟩ | ⟨h0, hT, k1, k2⟩
        · omega
        · refine Or.inl ⟨k1, by rw [c2 j (by omega) (by omega), cb1], Or.inr ⟨rfl, a, Nat.le_refl _, by omega, k2, ce, ?_, Or.inr ⟨by omega, ha⟩⟩⟩
          rw [q2 j (by omega) (by omega), rb1, fg_mo_m, re, hT]
  · intro j j1 j2 j3
    by_cases h0 : j = a
    · rw [h0, l1' a (by omega), re]
    · by_cases h1 : j ≤ b
      · exact A2 j (by omega) h1 j3
      · obtain rfl : j = b + w := by omega
        rw [lx, rx]
  · intro j j1 j2 y hy
    by_cases h0 : j = a
    · rw [h0, l1' a (by omega)] at hy
      exact Or.inr ⟨e, g2, by omega, sh e (Nat.le_refl _), List.mem_singleton.mp hy⟩
    · by_cases h1 : j ≤ b
      · exact A3 j (by omega) h1 y hy
      · obtain rfl : j = b + w := by omega
        rw [lx] at hy
        exact Or.inl (List.mem_singleton.mp hy)
  · intro p p1 p2
    by_cases h0 : p < e
    · exact A4 p p1 h0
    · obtain rfl : p = e := by omega
      refine ⟨fun h => ?_, fun _ => Or.inr (uh p (Nat.le_refl _))⟩
      rw [sh p (Nat.le_refl _)] at h; cases h
theorem fg_grp {m x x' : Nat → fg_I} {a b s e : Nat} {en : Int32} (h : fg_F m x (a + 1) b s e en) (he : e < 998)
    (hx : ∀ p, s ≤ p → p < e → x' p = fg_px (fg_mo (nI e)) (x p))
    (n0 : (m a).2.2.1 = 1) (n1 : (m b).2.2.1 = 1) (x1 : (x' e).2.2.1 = -1) (x2 : (x' (e + 1)).2.2.1 = fg_mo (nI e) en)
    (s1 : fg_SG (m a) (x' (e + 1))) (s2 : fg_SG (m b) (x' e)) :
    fg_F m x' a (b + 1) s (e + 2) (nI (e + 1)) := by
  obtain ⟨g1, g2, g3, g4, g5, r1, ch1, l1, pr1, sb1, u1, ad1, pa1, ra1, rb1, ca1, cb1, H⟩ := h
  obtain ⟨r, q1, q2, q3⟩ := fg_gl3 (show a + 1 ≤ b + 1 by omega) (fun _ => nI (e + 1)) (fun j => fg_mo (nI e) (r1 j)) (fun _ => (-1 : Int32))
  obtain ⟨ch, c1, c2, c3⟩ := fg_gl3 (show a + 1 ≤ b + 1 by omega) (fun _ => false) ch1 (fun _ => false)
  obtain ⟨l, l1', l2, l3⟩ := fg_gl3 (show a + 1 ≤ b + 1 by omega) (fun _ => [nI (e + 1)]) (fun j => (l1 j).map (fg_mo (nI e))) (fun _ => [(-1 : Int32)])
  obtain ⟨sb, sl, sh⟩ := fg_gl e sb1 (fun _ => false)
  obtain ⟨u, ul, uh⟩ := fg_gl e (fun p => (u1 p).map (fg_mo (nI e))) (fun _ => [])
  obtain ⟨ad, al, ad2, ah⟩ := fg_gl3 (show e ≤ e + 1 by omega) ad1 (fun _ => b) (fun _ => a)
  have re : r a = nI (e + 1) := q1 a (by omega)
  have ce : ch a = false := c1 a (by omega)
  have tT : fg_tg s (e + 2) sb (nI e) := Or.inr ⟨e, g2, by omega, sh e (Nat.le_refl _), rfl⟩
  obtain ⟨A1, A2, A3, A4⟩ := fg_part (A := a) (B := b + 1) (S := s) (E := e + 2) (m' := m) (x' := x') (r' := r) (ch' := ch) (pd' := fun _ => false) (pj' := fun _ => false) (l' := l) (pr' := pr1) (sb' := sb) (u' := u) (ad' := ad) (pa' := pa1) 0 0 (fg_mo (nI e)) H (by omega) (by omega) (Nat.le_refl _) (by omega) (fun q _ _ => fg_mo_n (by omega)) (fun j _ _ h => fg_ff h) (by rw [fg_mo_m]; exact tT) (fun _ _ _ => rfl) (fun p p1 p2 => hx p p1 p2)
    (fun j j1 j2 => q2 j j1 (by omega)) (fun j j1 j2 => c2 j j1 (by omega)) (fun _ _ _ => rfl) (fun _ _ _ => rfl) (fun j j1 j2 => l2 j j1 (by omega)) (fun j _ _ _ => rfl)
    (fun p _ p2 => sl p p2) (fun p _ p2 => ul p p2) (fun p _ p2 => al p p2) (fun p _ _ _ => rfl)
  have ra' : r (a + 1) = fg_mo (nI e) en := by rw [q2 (a + 1) (by omega) (by omega), ra1]
  have ca' : ch (a + 1) = false := by rw [c2 (a + 1) (by omega) (by omega), ca1]
  have rb' : r b = nI e := by rw [q2 b (by omega) (by omega), rb1, fg_mo_m]
  have cb' : ch b = false := by rw [c2 b (by omega) (by omega), cb1]
  have rx : r (b + 1) = -1 := q3 _ (by omega)
  have cx : ch (b + 1) = false := c3 _ (by omega)
  have lx : l (b + 1) = [-1] := l3 _ (by omega)
  refine ⟨by omega, by omega, by omega, fun h => absurd h (fg_ne (by omega)), by omega, r, ch, l, pr1, sb, u, ad, pa1, re, rx, ce, cx, ?_, ?_, ?_, ?_⟩
  · intro j j1 j2
    by_cases h0 : j = a
    · rw [h0]
      exact Or.inr (Or.inl ⟨e + 1, by omega, by omega, sh _ (by omega), ah _ (by omega), re, ce, n0, ca', by rw [x2, ra'], s1⟩)
    · by_cases h1 : j < b
      · exact A1 j (by omega) h1
      · obtain rfl : j = b := by omega
        exact Or.inr (Or.inl ⟨e, by omega, by omega, sh _ (by omega), ad2 _ (by omega) (by omega), rb', cb', n1, cx, by rw [x1, rx], s2⟩)
  · intro j j1 j2 j3
    by_cases h0 : j = a
    · rw [h0, l1' a (by omega), re]
    · by_cases h1 : j ≤ b
      · exact A2 j (by omega) h1 j3
      · obtain rfl : j = b + 1 := by omega
        rw [lx, rx]
  · intro j j1 j2 y hy
    by_cases h0 : j = a
    · rw [h0, l1' a (by omega)] at hy
      exact Or.inr ⟨e + 1, by omega, by omega, sh _ (by omega), List.mem_singleton.mp hy⟩
    · by_cases h1 : j ≤ b
      · exact A3 j (by omega) h1 y hy
      · obtain rfl : j = b + 1 := by omega
        rw [lx] at hy
        exact Or.inl (List.mem_singleton.mp hy)
  · intro p p1 p2
    by_cases h0 : p < e
    · exact A4 p p1 h0
    · refine ⟨fun h => ?_, fun h => ?_⟩
      · rw [sh p (by omega)] at h; cases h
      · by_cases h2 : p = e
        · rw [h2] at h; exact absurd h (fg_SG_4 s2).2.2
        · obtain rfl : p = e + 1 := by omega
          exact absurd h (fg_SG_4 s1).2.2

/-! alternatives: the branches that are done, with the jumps that wait (JL) -/
def fg_EU (x : Nat → fg_I) (s e : Nat) (sb : Nat → Bool) (u : Nat → List Int32) (en : Int32) (L : List Int32) : Prop :=
  (L = [en] ∧ fg_tg s e sb en) ∨ ∃ q, en = nI q ∧ s ≤ q ∧ q + 1 = e ∧ sb q = true ∧ (x q).1 = 4 ∧ u q = L
def fg_PA (m x : Nat → fg_I) (a b s e : Nat) (en : Int32) (JL : List Nat) : Prop :=
  a < b ∧ s ≤ e ∧ b ≤ a + 2 * (e - s) + 2 ∧ (∀ j, j ∈ JL → a ≤ j ∧ j < b ∧ (m j).1 = 4) ∧
  ∃ (r : Nat → Int32) (ch pd pj : Nat → Bool) (l : Nat → List Int32) (pr : Nat → Nat) (sb : Nat → Bool) (u : Nat → List Int32) (ad pa : Nat → Nat),
    (m a).1 = 3 ∧ ch a = true ∧ pd a = true ∧ ch b = true ∧ pd b = true ∧ l b = [] ∧ fg_EU x s e sb u en (l a) ∧ (∀ j, a ≤ j → j < b → ((m j).1 = 4 ∧ pj j = true ↔ j ∈ JL)) ∧
    (∀ j, a ≤ j → j ≤ b → pd j = true → ch j = true) ∧ fg_B m x a b s e r ch pd pj l pr sb u ad pa
/-- the next branch is known: lists grow at their ends, jumps may be mended -/
theorem fg_app {m x m' x' : Nat → fg_I} {a b s e A B S E : Nat} {r r' : Nat → Int32} {ch ch' pd pd' pj pj' : Nat → Bool} {l l' : Nat → List Int32} {pr pr' : Nat → Nat} {sb sb' : Nat → Bool} {u u' : Nat → List Int32} {ad ad' : Nat → Nat} (X : List Int32)
    (hA : A ≤ a) (hB : b ≤ B) (hS : S ≤ s) (hE : e ≤ E)
    {j : Nat} (h1 : a ≤ j) (h2 : j < b)
    (hm1 : ∀ t, a ≤ t → t < b → (m' t).1 = (m t).1)
    (hmn : ¬ ((m j).1 = 4 ∧ pj j = true) → m' j = m j)
    (hpp : (m j).1 = 4 → pj j = true → ch j = false → r j = -1 → fg_LC m' x' A B S E r' ch' pd' pj' l' pr' sb' u' ad' j)
    (hpj : pj j = false → pj' j = false)
    (hx : ∀ p, s ≤ p → p < e → x' p = x p)
    (hr : ∀ t, a ≤ t → t ≤ b → ch t = false → r' t = r t)
    (hc0 : ∀ t, a ≤ t → t ≤ b → ch t = false → ch' t = false)
    (hc1 : ∀ t, a ≤ t → t ≤ b → ch' t = true → ch t = true)
    (hcj : ch' j = ch j)
    (hd0 : ∀ t, a ≤ t → t ≤ b → pd t = false → pd' t = false)
    (hd1 : ∀ t t', a ≤ t → t ≤ b → a ≤ t' → t' ≤ b → pd t = pd t' → pd' t = pd' t')
    (hl0 : ∀ t, a ≤ t → t ≤ b → pd t = false → l' t = l t)
    (hl1 : ∀ t, j ≤ t → t ≤ b → pd t = true → l' t = l t ++ X)
    (hpc : ∀ t, a ≤ t → t ≤ b → pd t = true → ch t = true)
    (hq : ∀ t, a ≤ t → t ≤ b → ch' t = true → pr' t = pr t)
    (hs : ∀ p, s ≤ p → p < e → sb' p = sb p)
    (hu : ∀ p, s ≤ p → p < e → u' p = u p)
    (ha : ∀ p, s ≤ p → p < e → ad' p = ad p)
    (h : fg_LC m x a b s e r ch pd pj l pr sb u ad j) : fg_LC m' x' A B S E r' ch' pd' pj' l' pr' sb' u' ad' j := by
  have h3 : j ≤ b := Nat.le_of_lt h2
  rcases h with ⟨h4, hcc, hh⟩ | ⟨p, p1, p2, p3, p4, p5, p6, p7, p8, p9, p10⟩ | ⟨h4, t1, t2, a1, a2, a3, a4, a5, a6, a7, a8, hh⟩
  · rcases hh with ⟨e1, e2⟩ | ⟨e1, t, t1, t2, t3, t4, t5, t6⟩
    · exact hpp h4 e1 hcc e2
    · have hm := hmn (fun h => by rw [e1] at h; cases h.2)
      refine Or.inl ⟨by rw [hm]; exact h4, by rw [hcj]; exact hcc, Or.inr ⟨hpj e1, t, by omega, by omega, by rw [hm]; exact t3, hc0 t t1 t2 t4, by rw [hr j h1 h3 hcc, hr t t1 t2 t4, t5], ?_⟩⟩
      rcases t6 with h | ⟨h, h'⟩
      · exact Or.inl h
      · exact Or.inr ⟨by omega, by rw [hm1 t t1 h]; exact h'⟩
  · have n4 := (fg_SG_4 p10).1
    have hm := hmn (fun h => n4 h.1)
    exact Or.inr (Or.inl ⟨p, by omega, by omega, by rw [hs p p1 p2]; exact p3, by rw [ha p p1 p2, p4], by rw [hr j h1 h3 p6, p5], by rw [hcj]; exact p6, by rw [hm]; exact p7, hc0 _ (by omega) (by omega) p8, by rw [hx p p1 p2, hr (j + 1) (by omega) (by omega) p8, p9], by rw [hm, hx p p1 p2]; exact p10⟩)
  · have hm := hmn (fun h => by have := h.1; rw [h4] at this; exact absurd this (by decide))
    refine Or.inr (Or.inr ⟨by rw [hm]; exact h4, t1, t2, by omega, by omega, by rw [hm]; exact a3, hc0 t1 a1 a2 a4, by omega, by omega, by rw [hm]; exact a7, ?_, ?_⟩)
    · intro h
      rw [hq t2 a5 a6 h]
      exact a8 (hc1 t2 a5 a6 h)
    · rcases hh with ⟨c1, c2, p, p1, p2, p3, p4, p5, p6, p7⟩ | ⟨c1, c2, c3⟩
      · exact Or.inl ⟨by rw [hcj]; exact c1, hd0 t2 a5 a6 c2, p, by omega, by omega, by rw [hs p p1 p2]; exact p3, by rw [ha p p1 p2, p4], by rw [hr j h1 h3 c1, p5], by rw [hx p p1 p2]; exact p6, by rw [hu p p1 p2, p7, hr t1 a1 a2 a4, hl0 t2 a5 a6 c2]⟩
      · refine Or.inr ⟨by rw [hcj]; exact c1, hd1 j t2 h1 h3 a5 a6 c2, ?_⟩
        cases hb : pd j with
        | false =>
          rw [hb] at c2
          rw [hl0 j h1 h3 hb, c3, hr t1 a1 a2 a4, hl0 t2 a5 a6 c2.symm]
        | true =>
          rw [hb] at c2
          have ht := (a8 (hpc t2 a5 a6 c2.symm)).2
          rw [hl1 j (Nat.le_refl _) h3 hb, c3, hr t1 a1 a2 a4, hl1 t2 (by omega) a6 c2.symm]; rfl
theorem fg_pa1 {m m' x : Nat → fg_I} {a b s e : Nat} {en : Int32} (h : fg_F m x a b s e en)
    (hm : ∀ j, a ≤ j → j < b → m' (j + 1) = m j) (ha : (m' a).1 = 3) (ha1 : nI a + (m' a).2.2.1 = nI (a + 1)) (ha2 : nI a + (m' a).2.2.2 = nI (b + 2)) (hj : (m' (b + 1)).1 = 4) :
    fg_PA m' x a (b + 2) s e en [b + 1] := by
  obtain ⟨g1, g2, g3, g4, g5, r1, ch1, l1, pr1, sb1, u1, ad1, pa1, ra1, rb1, ca1, cb1, H⟩ := h
  obtain ⟨ch, c1, c2, c3⟩ := fg_gl3 (show a + 1 ≤ b + 2 by omega) (fun _ => true) (fun j => ch1 (j - 1)) (fun _ => true)
  obtain ⟨pd, d1, d2, d3⟩ := fg_gl3 (show a + 1 ≤ b + 2 by omega) (fun _ => true) (fun _ => false) (fun _ => true)
  obtain ⟨pj, j1, j2⟩ := fg_gl (b + 1) (fun _ => false) (fun _ => true)
  obtain ⟨l, l1', l2, l3⟩ := fg_gl3 (show a + 1 ≤ b + 2 by omega) (fun _ => [en]) (fun j => l1 (j - 1)) (fun _ => [])
  obtain ⟨pr, p1, p2⟩ := fg_gl (b + 2) (fun j => pr1 (j - 1) + 1) (fun _ => a)
  obtain ⟨A1, A2, A3, A4⟩ := fg_part (A := a) (B := b + 2) (S := s) (E := e) (m' := m') (x' := x) (r' := fun j => r1 (j - 1)) (ch' := ch) (pd' := pd) (pj' := pj) (l' := l) (pr' := pr) (sb' := sb1) (u' := u1) (ad' := fun p => ad1 p + 1) (pa' := pa1) 1 0 id H (by omega) (by omega) (Nat.le_refl _) (Nat.le_refl _) (fun q _ _ => rfl) (fun j _ _ h => fg_ff h) (Or.inl rfl) hm (fun p p1 p2 => rfl)
    (fun j _ _ => by rw [Nat.add_sub_cancel]; rfl) (fun j j1 j2 => by rw [c2 (j + 1) (by omega) (by omega), Nat.add_sub_cancel]) (fun j _ _ => d2 (j + 1) (by omega) (by omega)) (fun j _ _ => j1 (j + 1) (by omega)) (fun j j1 j2 => by rw [l2 (j + 1) (by omega) (by omega), Nat.add_sub_cancel, List.map_id]) (fun j _ _ _ => by rw [p1 (j + 1) (by omega), Nat.add_sub_cancel])
    (fun p _ _ => rfl) (fun p _ _ => (List.map_id _).symm) (fun p _ _ => rfl) (fun p _ _ _ => rfl)
  have ca : ch a = true := c1 a (by omega)
  have cb : ch (b + 2) = true := c3 _ (by omega)
  have la : l a = [en] := l1' a (by omega)
  have lb : l (b + 2) = [] := l3 _ (by omega)
  have ten : fg_tg s e sb1 en := by rw [← ra1]; exact fg_B_r H (Nat.le_refl _) g1 ca1
  refine ⟨by omega, g2, by omega, ?_, fun j => r1 (j - 1), ch, pd, pj, l, pr, sb1, u1, fun p => ad1 p + 1, pa1, ha, ca, d1 a (by omega), cb, d3 _ (by omega), lb, Or.inl ⟨la, ten⟩, ?_, ?_, ?_, ?_, ?_, ?_⟩
  · intro j hj'
    rw [List.mem_singleton] at hj'
    rw [hj']; exact ⟨by omega, by omega, hj⟩
  · intro j k1 k2
    rw [List.mem_singleton]
    refine ⟨fun h => ?_, fun h => ?_⟩
    · by_cases h0 : j < b + 1
      · rw [j1 j h0] at h; cases h.2
      · omega
    · rw [h]; exact ⟨hj, j2 _ (Nat.le_refl _)⟩
  · intro j k1 k2 k3
    by_cases h0 : j = a
    · rw [h0]; exact ca
    · by_cases h1 : j < b + 2
      · rw [d2 j (by omega) h1] at k3; cases k3
      · exact c3 j (by omega)
  · intro j k1 k2
    by_cases h0 : j = a
    · rw [h0]
      refine Or.inr (Or.inr ⟨ha, a + 1, b + 2, by omega, by omega, ha1, by rw [c2 (a + 1) (by omega) (by omega), Nat.add_sub_cancel, ca1], by omega, Nat.le_refl _, ha2, fun _ => ⟨p2 _ (by omega), by omega⟩, Or.inr ⟨ca, by rw [d1 a (by omega), d3 _ (Nat.le_refl _)], ?_⟩⟩)
      rw [la, lb]
      show _ = [r1 (a + 1 - 1)]
      rw [Nat.add_sub_cancel, ra1]
    · by_cases h1 : j < b + 1
      · exact A1 j (by omega) h1
      · obtain rfl : j = b + 1 := by omega
        refine Or.inl ⟨hj, by rw [c2 (b + 1) (by omega) (by omega), Nat.add_sub_cancel, cb1], Or.inl ⟨j2 _ (Nat.le_refl _), ?_⟩⟩
        show r1 (b + 1 - 1) = _
        rw [Nat.add_sub_cancel, rb1]
  · intro j k1 k2 k3
    by_cases h0 : j = a
    · rw [h0, ca] at k3; cases k3
    · by_cases h1 : j ≤ b + 1
      · exact A2 j (by omega) h1 k3
      · obtain rfl : j = b + 2 := by omega
        rw [cb] at k3; cases k3
  · intro j k1 k2 y hy
    by_cases h0 : j = a
    · rw [h0, la] at hy
      rw [List.mem_singleton.mp hy]; exact ten
    · by_cases h1 : j ≤ b + 1
      · exact A3 j (by omega) h1 y hy
      · obtain rfl : j = b + 2 := by omega
        rw [lb] at hy; cases hy
  · exact A4
/-- the pieces' side of a new fork over the branches that are done -/
theorem fg_forkX {x x' : Nat → fg_I} {s q e : Nat} {sb1 sb : Nat → Bool} {u1 u : Nat → List Int32} {pa : Nat → Nat} {en0 x1 : Int32} {L : List Int32}
    (hq : q ≤ e) (hE : fg_EU x s q sb1 u1 en0 L) (hx : ∀ p, s ≤ p → p < q → x' p = x p) (hs : ∀ p, p < q → sb p = sb1 p) (hu : ∀ p, p < q → u p = u1 p) (hue : u e = L ++ [x1])
    (hp : ∀ p, p + 1 = q → pa p = e) (hk : (x' e).1 = 4) (hk2 : (x' e).2.2 = (en0, x1)) : fg_XC x' s sb u pa e := by
  refine ⟨fun _ => hk, fun _ => ?_⟩
  rcases hE with ⟨h, _⟩ | ⟨p, p1, p2, p3, p4, p5, p6⟩
  · refine Or.inr ?_
    rw [hue, h, hk2]; rfl
  · refine Or.inl ⟨p, by rw [hk2]; exact p1, p2, by omega, by rw [hs p (by omega)]; exact p4, by rw [hx p p2 (by omega)]; exact p5, hp p p3, ?_⟩
    rw [hue, hu p (by omega), p6, hk2]
theorem fg_paN {m m' x x' : Nat → fg_I} {a b c s q e : Nat} {en0 x1 : Int32} {JL : List Nat} (h1 : fg_PA m x a b s q en0 JL) (h2 : fg_F m x b c q e x1)
    (hm0 : ∀ j, a ≤ j → j < b → m' j = m j) (hm : ∀ j, b ≤ j → j < c → m' (j + 1) = m j) (hb : (m' b).1 = 3) (hb1 : nI b + (m' b).2.2.1 = nI (b + 1)) (hb2 : nI b + (m' b).2.2.2 = nI (c + 2)) (hj : (m' (c + 1)).1 = 4)
    (hx : ∀ p, s ≤ p → p < e → x' p = x p) (hk : (x' e).1 = 4) (hk2 : (x' e).2.2 = (en0, x1)) :
    fg_PA m' x' a (c + 2) s (e + 1) (nI e) ((c + 1) :: JL) := by
  obtain ⟨g1, g2, g3, g4, r1, ch1, pd1, pj1, l1, pr1, sb1, u1, ad1, pa1, ma, ca1, da1, cb1, db1, lb1, hE, hJ, hpc, H1⟩ := h1
  obtain ⟨f1, f2, f3, f4, f5, r2, ch2, l2, pr2, sb2, u2, ad2, pa2, ra2, rb2, ca2, cb2, H2⟩ := h2
  obtain ⟨r, rl, rh⟩ := fg_gl (b + 1) r1 (fun j => r2 (j - 1))
  obtain ⟨ch, c1, c2, c3⟩ := fg_gl3 (show b + 1 ≤ c + 2 by omega) ch1 (fun j => ch2 (j - 1)) (fun _ => true)
  obtain ⟨pd, d1, d2, d3⟩ := fg_gl3 (show b + 1 ≤ c + 2 by omega) pd1 (fun _ => false) (fun _ => true)
  obtain ⟨pj, j1, j2, j3⟩ := fg_gl3 (show b + 1 ≤ c + 1 by omega) pj1 (fun _ => false) (fun _ => true)
  obtain ⟨l, k1, k2, k3⟩ := fg_gl3 (show b + 1 ≤ c + 2 by omega) (fun j => if pd1 j = true then l1 j ++ [x1] else l1 j) (fun j => l2 (j - 1)) (fun _ => [])
  obtain ⟨pr, p1, p2, p3⟩ := fg_gl3 (show b + 1 ≤ c + 2 by omega) pr1 (fun j => pr2 (j - 1) + 1) (fun _ => b)
  obtain ⟨sb, s1, s2, s3⟩ := fg_gl3 f2 sb1 sb2 (fun _ => true)
  obtain ⟨u, u1', u2', u3⟩ := fg_gl3 f2 u1 u2 (fun _ => l1 a ++ [x1])
  obtain ⟨ad, a1, a2, a3⟩ := fg_gl3 f2 ad1 (fun p => ad2 p + 1) (fun _ => 0)
  obtain ⟨pa, e1, e2, e3⟩ := fg_gl3 (show q - 1 ≤ q by omega) pa1 (fun _ => e) pa2
  have tx : fg_tg s (e + 1) sb x1 := by
    rw [← ra2]
    exact fg_tg_up (fg_B_r H2 (Nat.le_refl _) f1 ca2) (by omega) (by omega) (fun p q1 q2 => s2 p q1 q2)
  have tup : ∀ y, fg_tg s q sb1 y → fg_tg s (e + 1) sb y := fun y h => fg_tg_up h (Nat.le_refl _) (by omega) (fun p _ q2 => s1 p q2)
  obtain ⟨A1, A2, A3, A4⟩ := fg_part (A := a) (B := c + 2) (S := s) (E := e + 1) (m' := m') (x' := x') (r' := r) (ch' := ch) (pd' := pd) (pj' := pj) (l' := l) (pr' := pr) (sb' := sb) (u' := u) (ad' := ad) (pa' := pa) 1 0 id H2 (by omega) (by omega) (by omega) (by omega) (fun q _ _ => rfl) (fun j _ _ h => fg_ff h) (Or.inl rfl) hm (fun p q1 q2 => hx p (by omega) q2)
    (fun j _ _ => by rw [rh (j + 1) (by omega), Nat.add_sub_cancel]; rfl) (fun j j1 j2 => by rw [c2 (j + 1) (by omega) (by omega), Nat.add_sub_cancel]) (fun j _ _ => d2 (j + 1) (by omega) (by omega)) (fun j _ _ => j2 (j + 1) (by omega) (by omega)) (fun j _ _ => by rw [k2 (j + 1) (by omega) (by omega), Nat.add_sub_cancel, List.map_id]) (fun j _ _ _ => by rw [p2 (j + 1) (by omega) (by omega), Nat.add_sub_cancel])
    (fun p q1 q2 => s2 p q1 q2) (fun p q1 q2 => (u2' p q1 q2).trans (List.map_id _).symm) (fun p q1 q2 => a2 p q1 q2) (fun p q1 q2 _ => e3 p q1)
  have lp : ∀ t, a ≤ t → t ≤ b → pd1 t = true → l t = l1 t ++ [x1] := fun t _ t2 h => by rw [k1 t (by omega), if_pos h]
  have ln : ∀ t, a ≤ t → t ≤ b → pd1 t = false → l t = l1 t := fun t _ t2 h => by rw [k1 t (by omega), if_neg (by rw [h]; decide)]
  have la : l a = l1 a ++ [x1] := lp a (Nat.le_refl _) (by omega) da1
  have lb : l b = [x1] := by rw [lp b (by omega) (Nat.le_refl _) db1, lb1]; rfl
  refine ⟨by omega, by omega, by omega, ?_, r, ch, pd, pj, l, pr, sb, u, ad, pa, by rw [hm0 a (Nat.le_refl _) g1]; exact ma, by rw [c1 a (by omega)]; exact ca1, by rw [d1 a (by omega)]; exact da1, c3 _ (Nat.le_refl _), d3 _ (Nat.le_refl _), k3 _ (Nat.le_refl _), Or.inr ⟨e, rfl, by omega, rfl, s3 e (Nat.le_refl _), hk, by rw [u3 e (Nat.le_refl _), la]⟩, ?_, ?_, ?_, ?_, ?_, ?_⟩
  · intro j hj'
    rcases List.mem_cons.mp hj' with h | h
    · rw [h]; exact ⟨by omega, by omega, hj⟩
    · have := g4 j h
      exact ⟨this.1, by omega, by rw [hm0 j this.1 this.2.1]; exact this.2.2⟩
  · intro j v1 v2
    rw [List.mem_cons]
    by_cases h0 : j < b
    · rw [hm0 j v1 h0, j1 j (by omega), hJ j v1 h0]
      exact ⟨Or.inr, fun h => h.elim (fun h => by omega) id⟩
    · by_cases h1 : j < c + 1
      · refine ⟨fun h => ?_, fun h => ?_⟩
        · by_cases h2 : j = b
          · rw [h2, hb] at h; exact absurd h.1 (by decide)
          · rw [j2 j (by omega) h1] at h; cases h.2
        · rcases h with h | h
          · omega
          · have := g4 j h; omega
      · obtain rfl : j = c + 1 := by omega
        exact ⟨fun _ => Or.inl rfl, fun _ => ⟨hj, j3 _ (Nat.le_refl _)⟩⟩
  · intro j v1 v2 v3
    by_cases h0 : j ≤ b
    · rw [d1 j (by omega)] at v3
      rw [c1 j (by omega)]; exact hpc j v1 h0 v3
    · by_cases h1 : j < c + 2
      · rw [d2 j (by omega) h1] at v3; cases v3
      · exact c3 j (by omega)
  · intro j v1 v2
    by_cases h0 : j < b
    · refine fg_app [x1] (Nat.le_refl _) (by omega) (Nat.le_refl _) (by omega) v1 h0 (fun t t1 t2 => by rw [hm0 t t1 t2]) (fun _ => hm0 j v1 h0) (fun y1 y2 y3 y4 => Or.inl ⟨by rw [hm0 j v1 h0]; exact y1, by rw [c1 j (by omega)]; exact y3, Or.inl ⟨by rw [j1 j (by omega)]; exact y2, by rw [rl j (by omega)]; exact y4⟩⟩) (fun y => by rw [j1 j (by omega)]; exact y) (fun p p1 p2 => hx p p1 (by omega)) (fun t _ t2 _ => rl t (by omega)) (fun t _ t2 y => by rw [c1 t (by omega)]; exact y) (fun t _ t2 y => by rw [c1 t (by omega)] at y; exact y) (c1 j (by omega)) (fun t _ t2 y => by rw [d1 t (by omega)]; exact y) (fun t t' _ t2 _ t4 y => by rw [d1 t (by omega), d1 t' (by omega)]; exact y) ln (fun t t1 t2 y => lp t (by omega) t2 y) hpc (fun t _ t2 _ => p1 t (by omega)) (fun p _ p2 => s1 p p2) (fun p _ p2 => u1' p p2) (fun p _ p2 => a1 p p2) (H1.1 j v1 h0)
    · by_cases h1 : j = b
      · rw [h1]
        refine Or.inr (Or.inr ⟨hb, b + 1, c + 2, by omega, by omega, hb1, by rw [c2 (b + 1) (by omega) (by omega), Nat.add_sub_cancel, ca2], by omega, Nat.le_refl _, hb2, fun _ => ⟨p3 _ (Nat.le_refl _), by omega⟩, Or.inr ⟨by rw [c1 b (by omega)]; exact cb1, by rw [d1 b (by omega), db1, d3 _ (Nat.le_refl _)], ?_⟩⟩)
        rw [lb, k3 _ (Nat.le_refl _), rh (b + 1) (Nat.le_refl _), Nat.add_sub_cancel, ra2]
      · by_cases h2 : j < c + 1
        · exact A1 j (by omega) h2
        · obtain rfl : j = c + 1 := by omega
          exact Or.inl ⟨hj, by rw [c2 (c + 1) (by omega) (by omega), Nat.add_sub_cancel, cb2], Or.inl ⟨j3 _ (Nat.le_refl _), by rw [rh (c + 1) (by omega), Nat.add_sub_cancel, rb2]⟩⟩
  · intro j v1 v2 v3
    by_cases h0 : j ≤ b
    · rw [c1 j (by omega)] at v3
      have hpd : pd1 j = false := by
        cases hh : pd1 j with
        | false => rfl
        | true => have := hpc j v1 h0 hh; rw [v3] at this; cases this
      rw [ln j v1 h0 hpd, rl j (by omega)]
      exact H1.2.1 j v1 h0 v3
    · by_cases h1 : j ≤ c + 1
      · exact A2 j (by omega) h1 v3
      · rw [c3 j (by omega)] at v3; cases v3
  · intro j v1 v2 y hy
    by_cases h0 : j ≤ b
    · cases hh : pd1 j with
      | false => rw [ln j v1 h0 hh] at hy; exact tup y (H1.2.2.1 j v1 h0 y hy)
      | true =>
        rw [lp j v1 h0 hh] at hy
        rcases List.mem_append.mp hy with h | h
        · exact tup y (H1.2.2.1 j v1 h0 y h)
        · rw [List.mem_singleton.mp h]; exact tx
    · by_cases h1 : j ≤ c + 1
      · exact A3 j (by omega) h1 y hy
      · rw [k3 j (by omega)] at hy; cases hy
  · intro p v1 v2
    by_cases h0 : p < q
    · exact fg_xmap (s := s) (e := q) 0 id (Nat.le_refl _) (fun _ _ _ => rfl) (fun p p1 p2 => hx p p1 (by omega)) (fun p _ p2 => s1 p p2) (fun p _ p2 => (u1' p p2).trans (List.map_id _).symm) (fun p _ p2 _ => e1 p (by omega)) v1 h0 (H1.2.2.2 p v1 h0)
    · by_cases h1 : p < e
      · exact A4 p (by omega) h1
      · obtain rfl : p = e := by omega
        exact fg_forkX f2 hE (fun p p1 p2 => hx p p1 (by omega)) s1 u1' (u3 _ (Nat.le_refl _)) (fun p hp => e2 p (by omega) (by omega)) hk hk2
theorem fg_close {m m' x x' : Nat → fg_I} {a b c s q e : Nat} {en0 x1 : Int32} {JL : List Nat} (h1 : fg_PA m x a b s q en0 JL) (h2 : fg_F m x b c q e x1) (he : e < 999)
    (hm0 : ∀ j, a ≤ j → j < c → ¬ j ∈ JL → m' j = m j) (hm1 : ∀ j, j ∈ JL → (m' j).1 = 4 ∧ nI j + (m' j).2.2.1 = nI c)
    (hx : ∀ p, s ≤ p → p < e → x' p = x p) (hk : (x' e).1 = 4) (hk2 : (x' e).2.2 = (en0, x1)) :
    fg_F m' x' a c s (e + 1) (nI e) := by
  obtain ⟨g1, g2, g3, g4, r1, ch1, pd1, pj1, l1, pr1, sb1, u1, ad1, pa1, ma, ca1, da1, cb1, db1, lb1, hE, hJ, hpc, H1⟩ := h1
  obtain ⟨f1, f2, f3, f4, f5, r2, ch2, l2, pr2, sb2, u2, ad2, pa2, ra2, rb2, ca2, cb2, H2⟩ := h2
  obtain ⟨r, q1, q2, q3⟩ := fg_gl3 (show a + 1 ≤ b by omega) (fun _ => nI e) r1 r2
  obtain ⟨ch, c1, c2, c3⟩ := fg_gl3 (show a + 1 ≤ b by omega) (fun _ => false) ch1 ch2
  obtain ⟨l, k1, k2, k3⟩ := fg_gl3 (show a + 1 ≤ b by omega) (fun _ => [nI e]) (fun j => if pd1 j = true then l1 j ++ [x1] else l1 j) l2
  obtain ⟨pr, p1, p2⟩ := fg_gl b pr1 pr2
  obtain ⟨sb, s1, s2, s3⟩ := fg_gl3 f2 sb1 sb2 (fun _ => false)
  obtain ⟨u, u1', u2', u3⟩ := fg_gl3 f2 u1 u2 (fun _ => l1 a ++ [x1])
  obtain ⟨ad, a1, a2, a3⟩ := fg_gl3 f2 ad1 ad2 (fun _ => a)
  obtain ⟨pa, e1, e2, e3⟩ := fg_gl3 (show q - 1 ≤ q by omega) pa1 (fun _ => e) pa2
  have tx : fg_tg s (e + 1) sb x1 := by
    rw [← ra2]
    exact fg_tg_up (fg_B_r H2 (Nat.le_refl _) f1 ca2) (by omega) (by omega) (fun p q1 q2 => s2 p q1 q2)
  have te : fg_tg s (e + 1) sb (nI e) := Or.inr ⟨e, by omega, by omega, s3 e (Nat.le_refl _), rfl⟩
  have tup : ∀ y, fg_tg s q sb1 y → fg_tg s (e + 1) sb y := fun y h => fg_tg_up h (Nat.le_refl _) (by omega) (fun p _ q2 => s1 p q2)
  have nJ : ∀ j, b ≤ j → ¬ j ∈ JL := fun j h h' => by have := g4 j h'; omega
  obtain ⟨A1, A2, A3, A4⟩ := fg_part (A := a) (B := c) (S := s) (E := e + 1) (m' := m') (x' := x') (r' := r) (ch' := ch) (pd' := fun _ => false) (pj' := fun _ => false) (l' := l) (pr' := pr) (sb' := sb) (u' := u) (ad' := ad) (pa' := pa) 0 0 id H2 (by omega) (Nat.le_refl _) (by omega) (by omega) (fun q _ _ => rfl) (fun j _ _ h => fg_ff h) (Or.inl rfl) (fun j j1 j2 => hm0 j (by omega) j2 (nJ j j1)) (fun p q1 q2 => hx p (by omega) q2)
    (fun j j1 _ => q3 j j1) (fun j j1 _ => c3 j j1) (fun _ _ _ => rfl) (fun _ _ _ => rfl) (fun j j1 _ => (k3 j j1).trans (List.map_id _).symm) (fun j j1 _ _ => p2 j j1)
    (fun p q1 q2 => s2 p q1 q2) (fun p q1 q2 => (u2' p q1 q2).trans (List.map_id _).symm) (fun p q1 q2 => a2 p q1 q2) (fun p q1 q2 _ => e3 p q1)
  have lb : l b = [x1] := by rw [k3 b (Nat.le_refl _), H2.2.1 b (Nat.le_refl _) f1 ca2, ra2]
  have lp : ∀ t, a < t → t ≤ b → pd1 t = true → l t = l1 t ++ [x1] := fun t t1 t2 h => by
    by_cases h0 : t < b
    · rw [k2 t t1 h0, if_pos h]
    · obtain rfl : t = b := by omega
      rw [lb, lb1]; rfl
  have ln : ∀ t, a ≤ t → t ≤ b → pd1 t = false → l t = l1 t := fun t t1 t2 h => by
    by_cases h0 : t < b
    · by_cases h3 : t = a
      · rw [h3, da1] at h; cases h
      · rw [k2 t (by omega) h0, if_neg (by rw [h]; decide)]
    · obtain rfl : t = b := by omega
      rw [db1] at h; cases h
  have rn : ∀ t, a ≤ t → t ≤ b → ch1 t = false → r t = r1 t := fun t t1 t2 h => by
    by_cases h3 : t = a
    · rw [h3, ca1] at h; cases h
    · by_cases h4 : t = b
      · rw [h4, cb1] at h; cases h
      · exact q2 t (by omega) (by omega)
  have cn0 : ∀ t, a ≤ t → t ≤ b → ch1 t = false → ch t = false := fun t t1 t2 h => by
    by_cases h3 : t = a
    · rw [h3, ca1] at h; cases h
    · by_cases h4 : t = b
      · rw [h4, cb1] at h; cases h
      · rw [c2 t (by omega) (by omega)]; exact h
  have cn1 : ∀ t, a ≤ t → t ≤ b → ch t = true → ch1 t = true ∧ t < b := fun t t1 t2 h => by
    by_cases h3 : t = a
    · rw [h3, c1 a (by omega)] at h; cases h
    · by_cases h4 : t = b
      · rw [h4, c3 b (Nat.le_refl _), ca2] at h; cases h
      · rw [c2 t (by omega) (by omega)] at h; exact ⟨h, by omega⟩
  have naJ : ¬ a ∈ JL := fun h => by have := (g4 a h).2.2; rw [ma] at this; exact absurd this (by decide)
  have rc : r c = -1 := by rw [q3 c f1, rb2]
  have cc : ch c = false := by rw [c3 c f1, cb2]
  have re : r a = nI e := q1 a (by omega)
  have ce : ch a = false := c1 a (by omega)
  have m1 : ∀ t, a ≤ t → t < c → (m' t).1 = (m t).1 := fun t t1 t2 => by
    by_cases h : t ∈ JL
    · rw [(hm1 t h).1, (g4 t h).2.2]
    · rw [hm0 t t1 t2 h]
  refine ⟨by omega, by omega, by omega, fun h => absurd h (fg_ne (by omega)), by omega, r, ch, l, pr, sb, u, ad, pa, re, rc, ce, cc, ?_, ?_, ?_, ?_⟩
  · intro j v1 v2
    by_cases h3 : j = a
    · rw [h3]
      have hmA := hm0 a (Nat.le_refl _) (by omega) naJ
      rcases H1.1 a (Nat.le_refl _) g1 with ⟨h4, _⟩ | ⟨p, _, _, _, _, _, h4, _⟩ | ⟨h4, t1, t2, b1, b2, b3, b4, b5, b6, b7, b8, hh⟩
      · rw [ma] at h4; exact absurd h4 (by decide)
      · rw [ca1] at h4; cases h4
      · rcases hh with ⟨h5, _⟩ | ⟨_, h6, h7⟩
        · rw [ca1] at h5; cases h5
        · rw [da1] at h6
          have hc2 := hpc t2 b5 b6 h6.symm
          have h8 := b8 hc2
          refine Or.inr (Or.inr ⟨by rw [hmA]; exact ma, t1, t2, b1, by omega, by rw [hmA]; exact b3, cn0 t1 b1 b2 b4, b5, by omega, by rw [hmA]; exact b7, fun h => ?_, Or.inl ⟨ce, rfl, e, by omega, by omega, s3 e (Nat.le_refl _), a3 e (Nat.le_refl _), re, hk, ?_⟩⟩)
          · have h9 := cn1 t2 b5 b6 h
            rw [p1 t2 h9.2]; exact h8
          · rw [u3 e (Nat.le_refl _), h7, rn t1 b1 b2 b4, lp t2 h8.2 b6 h6.symm]; rfl
    · by_cases h0 : j < b
      · refine fg_app [x1] (Nat.le_refl _) f1 (Nat.le_refl _) (by omega) v1 h0 (fun t t1 t2 => m1 t t1 (by omega)) (fun h => hm0 j v1 (by omega) (fun h' => h ((hJ j v1 h0).mpr h'))) (fun y1 y2 y3 y4 => ?_) (fun _ => rfl) (fun p p1 p2 => hx p p1 (by omega)) rn cn0 (fun t t1 t2 y => (cn1 t t1 t2 y).1) (c2 j (by omega) h0) (fun _ _ _ _ => rfl) (fun _ _ _ _ _ _ _ => rfl) ln (fun t t1 t2 y => lp t (by omega) t2 y) hpc (fun t t1 t2 y => p1 t (cn1 t t1 t2 y).2) (fun p _ p2 => s1 p p2) (fun p _ p2 => u1' p p2) (fun p _ p2 => a1 p p2) (H1.1 j v1 h0)
        have hJj := (hJ j v1 h0).mp ⟨y1, y2⟩
        exact Or.inl ⟨(hm1 j hJj).1, cn0 j v1 (by omega) y3, Or.inr ⟨rfl, c, by omega, Nat.le_refl _, (hm1 j hJj).2, cc, by rw [rn j v1 (by omega) y3, rc]; exact y4, Or.inl v2⟩⟩
      · exact A1 j (by omega) v2
  · intro j v1 v2 v3
    by_cases h3 : j = a
    · rw [h3, k1 a (by omega), re]
    · by_cases h0 : j < b
      · rw [c2 j (by omega) h0] at v3
        have hpd : pd1 j = false := by
          cases hh : pd1 j with
          | false => rfl
          | true => have := hpc j v1 (by omega) hh; rw [v3] at this; cases this
        rw [ln j v1 (by omega) hpd, rn j v1 (by omega) v3]
        exact H1.2.1 j v1 (by omega) v3
      · exact A2 j (by omega) v2 v3
  · intro j v1 v2 y hy
    by_cases h3 : j = a
    · rw [h3, k1 a (by omega)] at hy
      rw [List.mem_singleton.mp hy]; exact te
    · by_cases h0 : j < b
      · cases hh : pd1 j with
        | false => rw [ln j v1 (by omega) hh] at hy; exact tup y (H1.2.2.1 j v1 (by omega) y hy)
        | true =>
          rw [lp j (by omega) (by omega) hh] at hy
          rcases List.mem_append.mp hy with h | h
          · exact tup y (H1.2.2.1 j v1 (by omega) y h)
          · rw [List.mem_singleton.mp h]; exact tx
      · exact A3 j (by omega) v2 y hy
  · intro p v1 v2
    by_cases h0 : p < q
    · exact fg_xmap (s := s) (e := q) 0 id (Nat.le_refl _) (fun _ _ _ => rfl) (fun p p1 p2 => hx p p1 (by omega)) (fun p _ p2 => s1 p p2) (fun p _ p2 => (u1' p p2).trans (List.map_id _).symm) (fun p _ p2 _ => e1 p (by omega)) v1 h0 (H1.2.2.2 p v1 h0)
    · by_cases h1 : p < e
      · exact A4 p (by omega) h1
      · obtain rfl : p = e := by omega
        exact fg_forkX f2 hE (fun p p1 p2 => hx p p1 (by omega)) s1 u1' (u3 _ (Nat.le_refl _)) (fun p hp => e2 p (by omega) (by omega)) hk hk2
theorem fg_PA_frame {m x m' x' : Nat → fg_I} {a b s e : Nat} {en : Int32} {JL : List Nat} (h : fg_PA m x a b s e en JL)
    (hm : ∀ j, a ≤ j → j < b → m' j = m j) (hx : ∀ p, s ≤ p → p < e → x' p = x p) : fg_PA m' x' a b s e en JL := by
  obtain ⟨g1, g2, g3, g4, r, ch, pd, pj, l, pr, sb, u, ad, pa, ma, ca, da, cb, db, lb, hE, hJ, hpc, H⟩ := h
  refine ⟨g1, g2, g3, fun j hj => ?_, r, ch, pd, pj, l, pr, sb, u, ad, pa, by rw [hm a (Nat.le_refl _) g1]; exact ma, ca, da, cb, db, lb, ?_, fun j j1 j2 => by rw [hm j j1 j2]; exact hJ j j1 j2, hpc, ?_⟩
  · have := g4 j hj
    exact ⟨this.1, this.2.1, by rw [hm j this.1 this.2.1]; exact this.2.2⟩
  · rcases hE with h | ⟨q, q1, q2, q3, q4, q5, q6⟩
    · exact Or.inl h
    · exact Or.inr ⟨q, q1, q2, q3, q4, by rw [hx q q2 (by omega)]; exact q5, q6⟩
  · exact fg_part 0 0 id H (Nat.le_refl _) (Nat.le_refl _) (Nat.le_refl _) (Nat.le_refl _) (fun q _ _ => rfl) (fun _ _ _ _ => rfl) (Or.inl rfl) hm hx (fun _ _ _ => rfl) (fun _ _ _ => rfl) (fun _ _ _ => rfl) (fun _ _ _ => rfl) (fun j _ _ => (List.map_id (l j)).symm) (fun _ _ _ _ => rfl) (fun _ _ _ => rfl) (fun p _ _ => (List.map_id (u p)).symm) (fun _ _ _ => rfl) (fun _ _ _ _ => rfl)
end FH
