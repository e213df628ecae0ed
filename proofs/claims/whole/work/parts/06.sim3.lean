section MU
variable {m x : Nat → fg_I} {P E len s0 : Nat} {all : Prop} {ft : Int32 → Nat → Prop} {nw : Int64 → Nat → Nat → Int64} {NX : Int64 → (Nat → Nat) → Prop}
variable {r : Nat → Int32} {ch : Nat → Bool} {l : Nat → List Int32} {pr : Nat → Nat} {sb : Nat → Bool} {u : Nat → List Int32} {ad pa : Nat → Nat}
variable {WX : (Option (Nat × Int64) → Prop) → Nat → Nat → (Nat → Int64) → List mt_C → Int32 → Nat → Int64 → Prop} {WP : (Option (Nat × Int64) → Prop) → Nat → Nat → (Nat → Int64) → List mt_C → Prop}
variable {WI : (Option (Nat × (Nat → Int32)) → Prop) → Nat → (Nat → Int64) → List mt_E → (Nat → Int32) → Nat → Nat → Prop} {WO : (Option (Nat × (Nat → Int32)) → Prop) → Nat → (Nat → Int64) → List mt_E → (Nat → Int32) → Prop}
theorem mt_VY_64 {e : mt_E} (hl : len ≤ 32) (h : mt_VY E len s0 e) : e.2.2 < 64 := by
  cases he : e.1 with
  | false => have := (h.1 he).2.2; omega
  | true => have := (h.2 he).2; omega
theorem mt_mark {i p a : Nat} {s s' met : Nat → Int64} (hP : P ≤ 36) (hl : len ≤ 32) (H1 : ∀ j, 0 ≤ j → j < E → fg_LC m x 0 E 0 P r ch (fun _ => false) (fun _ => false) l pr sb u ad j)
    (hi : i < E) (ci : ch i = false) (i4 : ¬ (m i).1 = 4) (hp : p < P) (ri : r i = nI p)
    (h : ∀ j p a, j < E → ch j = false → ¬ (m j).1 = 4 → p < P → r j = nI p → a ≤ len → mt_sn (met j) a = mt_sn (s p) a)
    (hs : ∀ q, q ≠ p → sb q = false → s' q = s q) (hsp : ∀ b, b ≤ len → mt_sn (s' p) b = (mt_sn (s p) b || decide (b = a))) :
    ∀ j p a', j < E → ch j = false → ¬ (m j).1 = 4 → p < P → r j = nI p → a' ≤ len → mt_sn (mt_mk met i a j) a' = mt_sn (s' p) a' := by
  intro j q b j1 j2 j3 j4 j5 j6
  by_cases e : j = i
  · subst e
    obtain rfl : q = p := fg_ij (j5.symm.trans ri) (by omega) (by omega)
    rw [mt_mk_s (by omega), hsp b j6, h j q b j1 j2 j3 j4 j5 j6]
  · have qp : q ≠ p := by
      intro e'
      rw [e'] at j5
      exact e (fg_two (by omega) (H1 j (Nat.zero_le _) j1) j2 j3 (H1 i (Nat.zero_le _) hi) ci i4 hp j5 ri)
    obtain ⟨o, _, o2, o3, _, o5⟩ := fg_ad (H1 j (Nat.zero_le _) j1) j2 j3
    obtain rfl : o = q := fg_ij (o5.symm.trans j5) (by omega) (by omega)
    rw [mt_mk_n e, hs o qp o3, h j o b j1 j2 j3 j4 j5 j6]
theorem mt_IYmk {i a : Nat} {met : Nat → Int64} (hl : len ≤ 32) (hi : ch i = false ∨ mt_sn (met (pr i)) a = true)
    (h : ∀ j a, j < E → ch j = true → a ≤ len → mt_sn (met j) a = true → mt_sn (met (pr j)) a = true) :
    ∀ j b, j < E → ch j = true → b ≤ len → mt_sn (mt_mk met i a j) b = true → mt_sn (mt_mk met i a (pr j)) b = true := by
  intro j b j1 j2 j3 j4
  by_cases e : j = i ∧ b = a
  · obtain ⟨rfl, rfl⟩ := e
    rcases hi with hi | hi
    · rw [j2] at hi; cases hi
    · exact mt_mk_up (by omega) hi
  · rw [mt_mk_o (by omega) e] at j4
    exact mt_mk_up (by omega) (h j b j1 j2 j3 j4)
theorem mt_I_mk {t t' i p a : Nat} {s met : Nat → Int64} {XL : List mt_C} {YL : List mt_E} {no : Nat → Int32} {v : Nat → Nat} (hP : P ≤ 36) (hl : len ≤ 32) (H1 : ∀ j, 0 ≤ j → j < E → fg_LC m x 0 E 0 P r ch (fun _ => false) (fun _ => false) l pr sb u ad j)
    (hI : mt_I m P E len s0 NX r ch l pr sb pa t s XL met YL no v)
    (hi : i < E) (ci : ch i = false) (i4 : ¬ (m i).1 = 4) (hp : p < P) (sp : sb p = false) (ri : r i = nI p) (ha : a ≤ len) (hn : mt_sn (s p) a = false) (ht : t' ≤ t + 1) :
    mt_I m P E len s0 NX r ch l pr sb pa t' (mt_mk s p a) XL (mt_mk met i a) YL no v ∧ mt_mu (mt_mk s p a) P + 1 = mt_mu s P := by
  obtain ⟨I1, I2, I3, I4, I5, I6, I7, I8, I9, I10, I11⟩ := hI
  have hmu := mt_mu_hi hn (show a < 33 by omega) P hp
  refine ⟨⟨mt_mark hP hl H1 hi ci i4 hp ri I1 (fun q hq _ => mt_mk_n hq) (fun b hb => mt_mk_s (by omega)), ?_, mt_IYmk hl (Or.inl ci) I3, I4, mt_CS_mk (by omega) YL (fun e he => mt_VY_64 hl (I6 e he)) (Or.inl ci) I5, I6, I7, I8, by omega, by omega, by omega⟩, hmu⟩
  intro q b q1 q2 q3 q4
  have e : ¬ (q = p ∧ b = a) := fun e => by rw [e.1, sp] at q2; cases q2
  rw [mt_mk_o (by omega) e] at q4
  exact mt_mk_up (by omega) (I2 q b q1 q2 q3 q4)
theorem mt_go_e {i p : fg_I} {a : Nat} (h : (i.1 = 0 ∧ p.1 = 0 ∧ p.2.1 = i.2.1) ∨ (i.1 = 1 ∧ p.1 = 1) ∨ (i.1 = 2 ∧ p.1 = 2)) :
    i.1 = p.1 ∧ (p.1 = 0 ∨ p.1 = 1 ∨ p.1 = 2) ∧ (mt_go len ft i.1 i.2.1 a ↔ mt_go len ft p.1 p.2.1 a) := by
  rcases h with ⟨h1, h2, h3⟩ | ⟨h1, h2⟩ | ⟨h1, h2⟩
  · rw [h1, h2, h3]; exact ⟨rfl, Or.inl rfl, Iff.rfl⟩
  · rw [h1, h2]; exact ⟨rfl, Or.inr (Or.inl rfl), by simp [mt_go]⟩
  · rw [h1, h2]; exact ⟨rfl, Or.inr (Or.inr rfl), by simp [mt_go]⟩
theorem mt_nx_le {k v : Int32} {a : Nat} (ha : a ≤ len) (h : mt_go len ft k v a) : mt_nx k a ≤ len ∧ a ≤ mt_nx k a := by
  unfold mt_nx
  rcases h with ⟨h1, h2, _⟩ | ⟨h1, _⟩ | ⟨h1, _⟩
  · rw [if_pos h1]; omega
  · rw [h1, if_neg (by decide)]; omega
  · rw [h1, if_neg (by decide)]; omega
def mt_jm (m : Nat → fg_I) (E i : Nat) : Nat := if (m i).1 = 4 then E + 1 - i else 0
theorem mt_jm_le (m : Nat → fg_I) (E i : Nat) : mt_jm m E i ≤ E + 1 := by
  unfold mt_jm; split <;> omega
theorem mt_jm_lt {i t : Nat} (hi : i < E) (h4 : (m i).1 = 4) (h : i < t ∨ (t < E ∧ (m t).1 = 3)) : mt_jm m E t < mt_jm m E i := by
  have e : mt_jm m E i = E + 1 - i := if_pos h4
  rw [e]
  rcases h with h | ⟨_, h⟩
  · unfold mt_jm; split <;> omega
  · have : mt_jm m E t = 0 := if_neg (by rw [h]; decide)
    omega
theorem mt_U_cons {e : mt_E} {Y : List mt_E} : mt_U (e :: Y) = mt_U Y + (if e.1 = true then 1 else 0) := rfl
/-- the push of a split's second way keeps the chain clause -/
theorem mt_push {met : Nat → Int64} {YL : List mt_E} {i t2 a : Nat} (hl : len ≤ 32) (hi : i < E) (cE : ch E = false) (ht2 : t2 ≤ E) (ha : a ≤ len) (hn : mt_sn (met i) a = false)
    (hpr : ch t2 = true → pr t2 = i ∧ i < t2)
    (I3 : ∀ j a, j < E → ch j = true → a ≤ len → mt_sn (met j) a = true → mt_sn (met (pr j)) a = true)
    (I5 : mt_CS ch pr met YL) (hv : ∀ e, e ∈ YL → mt_VY E len s0 e) (hc : ch i = false ∨ ¬ (false, i, a) ∈ YL) : mt_CS ch pr (mt_mk met i a) ((false, t2, a) :: YL) := by
  refine ⟨fun _ h => ?_, mt_CS_mk (by omega) YL (fun e he => mt_VY_64 hl (hv e he)) hc I5⟩
  dsimp only at h ⊢
  obtain ⟨h1, h2⟩ := hpr h
  have hE : t2 < E := by
    by_cases e : t2 = E
    · rw [e, cE] at h; cases h
    · omega
  have hn2 : mt_sn (met t2) a = false := by
    cases hh : mt_sn (met t2) a with
    | false => rfl
    | true =>
      have := I3 t2 a hE h ha hh
      rw [h1, hn] at this; cases this
  refine ⟨by rw [mt_mk_n (by omega)]; exact hn2, by rw [h1]; exact mt_mk_a (by omega), fun hm => ?_⟩
  have := mt_CS_mem h YL I5 hm
  rw [h1, hn] at this; cases this
end MU
