section QF
def cq_v (n : Nat) (y : Int32) : Prop := y = -1 ∨ ∃ q, q < n ∧ y = nI q
/-! the quantifiers on fragments -/
def qf_S (m : Nat → fg_I) (p t1 t2 : Nat) : Prop := (m p).1 = 3 ∧ nI p + (m p).2.2.1 = nI t1 ∧ nI p + (m p).2.2.2 = nI t2
def qf_J (m : Nat → fg_I) (p t : Nat) : Prop := (m p).1 = 4 ∧ nI p + (m p).2.2.1 = nI t
theorem qf_star {m m' x x' : Nat → fg_I} {o n a pc : Nat} {ae lz : Int32} (h : fg_F m x o (o + n) a pc ae) (hpc : pc < 999)
    (hc : ∀ j, j < n → m' (o + 1 + j) = m (o + j)) (hs : (lz = 0 ∧ qf_S m' o (o + 1) (o + n + 2)) ∨ (lz = 1 ∧ qf_S m' o (o + n + 2) (o + 1))) (hj : qf_J m' (o + n + 1) o)
    (hx : ∀ p, a ≤ p → p < pc → x' p = fg_px (fg_mo (nI pc)) (x p)) (hk : (x' pc).1 = 4)
    (hk2 : (lz = 0 ∧ (x' pc).2.2 = (fg_mo (nI pc) ae, -1)) ∨ (lz = 1 ∧ (x' pc).2.2 = (-1, fg_mo (nI pc) ae))) : fg_F m' x' o (o + n + 2) a (pc + 1) (nI pc) := by
  have h1 : fg_F m' x (o + 1) (o + n + 1) a pc ae := fg_shiftY 1 h (fun j j1 j2 => by
    have := hc (j - o) (by omega)
    rw [show o + 1 + (j - o) = j + 1 by omega, show o + (j - o) = j by omega] at this
    exact this)
  have h01 : ¬ (0 : Int32) = 1 := by decide
  refine fg_fork (w := 1) (T := nI pc) h1 hpc ?_ (Or.inr ⟨rfl, rfl, hj.1, hj.2⟩) hx hk ?_
  · rcases hs with ⟨_, h⟩ | ⟨_, h⟩ <;> exact h.1
  · rcases hs with ⟨z, h⟩ | ⟨z, h⟩
    · rcases hk2 with ⟨_, k⟩ | ⟨z', _⟩
      · exact Or.inl ⟨h.2.1, h.2.2, k⟩
      · rw [z] at z'; exact absurd z' h01
    · rcases hk2 with ⟨z', _⟩ | ⟨_, k⟩
      · rw [z] at z'; exact absurd z'.symm h01
      · exact Or.inr ⟨h.2.1, h.2.2, k⟩
theorem qf_opt {m m' x x' : Nat → fg_I} {o n a pc : Nat} {ae lz : Int32} (h : fg_F m x o (o + n) a pc ae) (hpc : pc < 999)
    (hc : ∀ j, j < n → m' (o + 1 + j) = m (o + j)) (hs : (lz = 0 ∧ qf_S m' o (o + 1) (o + n + 1)) ∨ (lz = 1 ∧ qf_S m' o (o + n + 1) (o + 1)))
    (hx : ∀ p, a ≤ p → p < pc → x' p = x p) (hk : (x' pc).1 = 4)
    (hk2 : (lz = 0 ∧ (x' pc).2.2 = (ae, -1)) ∨ (lz = 1 ∧ (x' pc).2.2 = (-1, ae))) : fg_F m' x' o (o + n + 1) a (pc + 1) (nI pc) := by
  have h1 : fg_F m' x (o + 1) (o + n + 1) a pc ae := fg_shiftY 1 h (fun j j1 j2 => by
    have := hc (j - o) (by omega)
    rw [show o + 1 + (j - o) = j + 1 by omega, show o + (j - o) = j by omega] at this
    exact this)
  have h01 : ¬ (0 : Int32) = 1 := by decide
  refine fg_fork (w := 0) (T := -1) h1 hpc ?_ (Or.inl ⟨rfl, rfl⟩) (fun p p1 p2 => by rw [hx p p1 p2, fg_px_id]) hk ?_
  · rcases hs with ⟨_, h⟩ | ⟨_, h⟩ <;> exact h.1
  · rw [fg_mo_id]
    rcases hs with ⟨z, h⟩ | ⟨z, h⟩
    · rcases hk2 with ⟨_, k⟩ | ⟨z', _⟩
      · exact Or.inl ⟨h.2.1, h.2.2, k⟩
      · rw [z] at z'; exact absurd z' h01
    · rcases hk2 with ⟨z', _⟩ | ⟨_, k⟩
      · rw [z] at z'; exact absurd z'.symm h01
      · exact Or.inr ⟨h.2.1, h.2.2, k⟩
theorem qf_plus {m m' x x1 x2 x3 : Nat → fg_I} {o n a sz : Nat} {ae lz : Int32} (h : fg_F m x o (o + n) a (a + sz) ae) (hpc : a + sz + sz < 999)
    (hc0 : ∀ j, j < n → m' (o + j) = m (o + j)) (hc1 : ∀ j, j < n → m' (o + n + 1 + j) = m (o + j))
    (hs : (lz = 0 ∧ qf_S m' (o + n) (o + n + 1) (o + n + n + 2)) ∨ (lz = 1 ∧ qf_S m' (o + n) (o + n + n + 2) (o + n + 1))) (hj : qf_J m' (o + n + n + 1) (o + n))
    (y1 : ∀ p, p < a + sz → x1 p = x p) (y2 : ∀ j, j < sz → x1 (a + j + sz) = fg_px (fg_mv sz) (x1 (a + j)))
    (z1 : ∀ p, a + sz ≤ p → p < a + sz + sz → x2 p = fg_px (fg_mo (nI (a + sz + sz))) (x1 p)) (z2 : ∀ p, p < a + sz → x2 p = x1 p) (hk : (x2 (a + sz + sz)).1 = 4)
    (hk2 : (lz = 0 ∧ (x2 (a + sz + sz)).2.2 = (fg_mo (nI (a + sz + sz)) (fg_mv sz ae), -1)) ∨ (lz = 1 ∧ (x2 (a + sz + sz)).2.2 = (-1, fg_mo (nI (a + sz + sz)) (fg_mv sz ae))))
    (w1 : ∀ p, a ≤ p → p < a + sz → x3 p = fg_px (fg_mo (nI (a + sz + sz))) (x2 p)) (w2 : ∀ p, a + sz ≤ p → x3 p = x2 p) :
    fg_F m' x3 o (o + n + n + 2) a (a + sz + sz + 1) (fg_mo (nI (a + sz + sz)) ae) := by
  have F1 : fg_F m' x2 o (o + n) a (a + sz) ae := fg_frame h (fun j j1 j2 => by
    have := hc0 (j - o) (by omega)
    rw [show o + (j - o) = j by omega] at this
    exact this) (fun p p1 p2 => by rw [z2 p p2, y1 p p2])
  have F2 : fg_F m' x1 (o + (n + 1)) (o + n + (n + 1)) (a + sz) (a + sz + sz) (fg_mv sz ae) := fg_shift (n + 1) sz h (by omega) (fun j j1 j2 => by
    have := hc1 (j - o) (by omega)
    rw [show o + n + 1 + (j - o) = j + (n + 1) by omega, show o + (j - o) = j by omega] at this
    exact this) (fun p p1 p2 => by
      have := y2 (p - a) (by omega)
      rw [show a + (p - a) + sz = p + sz by omega, show a + (p - a) = p by omega, y1 p p2] at this
      exact this)
  have h01 : ¬ (0 : Int32) = 1 := by decide
  have F3 : fg_F m' x2 (o + n) (o + n + (n + 1) + 1) (a + sz) (a + sz + sz + 1) (nI (a + sz + sz)) := by
    refine fg_fork (w := 1) (T := nI (a + sz + sz)) F2 (by omega) ?_ (Or.inr ⟨rfl, rfl, hj.1, hj.2⟩) z1 hk ?_
    · rcases hs with ⟨_, h⟩ | ⟨_, h⟩ <;> exact h.1
    · rcases hs with ⟨z, h⟩ | ⟨z, h⟩
      · rcases hk2 with ⟨_, k⟩ | ⟨z', _⟩
        · exact Or.inl ⟨h.2.1, h.2.2, k⟩
        · rw [z] at z'; exact absurd z' h01
      · rcases hk2 with ⟨z', _⟩ | ⟨_, k⟩
        · rw [z] at z'; exact absurd z'.symm h01
        · exact Or.inr ⟨h.2.1, h.2.2, k⟩
  exact fg_seq F1 F3 (by omega) w1 (fun p p1 _ => w2 p p1)
/-! counted: where copy c begins -/
def qf_at (o n least c : Nat) : Nat := o + c * n + (c - least)
def qf_ca (o n least c : Nat) : Nat := qf_at o n least c + (if least ≤ c then 1 else 0)
theorem qf_ca_n (o n least c : Nat) : qf_ca o n least c + n = qf_at o n least (c + 1) := by
  unfold qf_ca qf_at
  rw [Nat.add_mul]
  split <;> omega
theorem qf_at_0 (o n least : Nat) : qf_at o n least 0 = o := by
  unfold qf_at; omega
theorem qf_at_le (o n least : Nat) {c d : Nat} (h : c ≤ d) : qf_at o n least c ≤ qf_at o n least d := by
  unfold qf_at
  have := Nat.mul_le_mul_right n h
  omega
/-- the entry of copy c, as the component reckons it -/
def qf_en (ae : Int32) (sz c : Nat) (b : Int32) : Int32 := if ae = -1 then b else ae + nI (c * sz)
theorem qf_en_F {ae b : Int32} {sz c q : Nat} (h : ae = -1 ∨ ∃ q, q < 1000 ∧ ae = nI q) (hc : c * sz < 1000) : qf_en ae sz c b = fg_mo b (fg_mv (c * sz) ae) := by
  rcases h with h | ⟨q, q1, q2⟩
  · rw [h, fg_mv_m, fg_mo_m]; exact if_pos rfl
  · rw [q2, fg_mv_n (by omega), fg_mo_n (by omega)]
    unfold qf_en
    rw [if_neg (fg_ne (by omega)), nI_add]
theorem fg_F_en {m x : Nat → fg_I} {a b s e : Nat} {en : Int32} (h : fg_F m x a b s e en) (he : e ≤ 1000) : en = -1 ∨ ∃ q, q < 1000 ∧ en = nI q := by
  obtain ⟨g1, g2, g3, g4, g5, r, ch, l, pr, sb, u, ad, pa, ra, rb, ca, cb, H⟩ := h
  rcases fg_B_r H (Nat.le_refl a) g1 ca with h | ⟨q, q1, q2, q3, q4⟩
  · exact Or.inl (by rw [← ra]; exact h)
  · exact Or.inr ⟨q, by omega, by rw [← ra]; exact q4⟩
/-- the copies, each a fragment at its place -/
theorem qf_copies {m m' x x1 : Nat → fg_I} {o n a sz least most : Nat} {ae : Int32} (h : fg_F m x o (o + n) a (a + sz) ae) (hb : a + most * sz < 999) (hb0 : a + sz < 999)
    (hc : ∀ c j, c < most → j < n → m' (qf_ca o n least c + j) = m (o + j))
    (y1 : ∀ p, p < a + sz → x1 p = x p) (y2 : ∀ j, j < sz * (most - 1) → x1 (a + j + sz) = fg_px (fg_mv sz) (x1 (a + j))) :
    ∀ c, c < most → fg_F m' x1 (qf_ca o n least c) (qf_ca o n least c + n) (a + c * sz) (a + (c + 1) * sz) (fg_mv (c * sz) ae) := by
  have hae := fg_F_en h (by omega)
  have base : ∀ c, c < most → fg_F m x1 o (o + n) (a + c * sz) (a + (c + 1) * sz) (fg_mv (c * sz) ae) := by
    intro c
    induction c with
    | zero =>
      intro _
      have e : fg_mv (0 * sz) ae = ae := by
        rcases hae with h | ⟨q, q1, q2⟩
        · rw [h, fg_mv_m]
        · rw [q2, fg_mv_n (by omega), Nat.zero_mul, Nat.add_zero]
      rw [e, Nat.zero_mul, Nat.zero_add, Nat.one_mul, Nat.add_zero]
      exact fg_frame h (fun _ _ _ => rfl) (fun p _ p2 => y1 p p2)
    | succ c ih =>
      intro hcm
      have F := ih (by omega)
      have hle : (c + 1 + 1) * sz ≤ most * sz := Nat.mul_le_mul_right sz (by omega)
      have e1 : (c + 1) * sz = c * sz + sz := Nat.succ_mul c sz
      have e2 : (c + 1 + 1) * sz = c * sz + sz + sz := by rw [Nat.succ_mul, e1]
      have hmm : sz * (c + 1) ≤ sz * (most - 1) := Nat.mul_le_mul_left sz (by omega)
      have e3 : sz * (c + 1) = c * sz + sz := by rw [Nat.mul_comm, e1]
      have G := fg_shift (m' := m) (x' := x1) 0 sz F (by omega) (fun _ _ _ => rfl) (fun p p1 p2 => by
        have := y2 (p - a) (by omega)
        rw [show a + (p - a) + sz = p + sz by omega, show a + (p - a) = p by omega] at this
        exact this)
      have e4 : fg_mv sz (fg_mv (c * sz) ae) = fg_mv ((c + 1) * sz) ae := by
        rcases hae with h | ⟨q, q1, q2⟩
        · rw [h, fg_mv_m, fg_mv_m, fg_mv_m]
        · rw [q2, fg_mv_n (by omega), fg_mv_n (by omega), fg_mv_n (by omega)]
          congr 1
          omega
      rw [e4] at G
      rw [show a + (c + 1) * sz = a + c * sz + sz by omega, show a + (c + 1 + 1) * sz = a + (c + 1) * sz + sz by omega]
      exact G
  intro c hcm
  have F := base c hcm
  have e : qf_ca o n least c = o + (qf_ca o n least c - o) := by
    unfold qf_ca qf_at
    split <;> omega
  have G := fg_shiftY (m' := m') (qf_ca o n least c - o) F (fun j j1 j2 => by
    have := hc c (j - o) hcm (by omega)
    rw [show qf_ca o n least c + (j - o) = j + (qf_ca o n least c - o) by omega, show o + (j - o) = j by omega] at this
    exact this)
  rw [show o + n + (qf_ca o n least c - o) = qf_ca o n least c + n by omega, ← e] at G
  exact G
end QF
