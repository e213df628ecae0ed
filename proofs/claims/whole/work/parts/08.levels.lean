section CP
theorem fg_shiftY {m m' x : Nat → fg_I} {a b s e : Nat} {en : Int32} (d : Nat) (h : fg_F m x a b s e en)
    (hm : ∀ j, a ≤ j → j < b → m' (j + d) = m j) : fg_F m' x (a + d) (b + d) s e en := by
  obtain ⟨g1, g2, g3, g4, g5, r, ch, l, pr, sb, u, ad, pa, ra, rb, ca, cb, H⟩ := h
  refine ⟨by omega, by omega, by omega, fun h => by rw [g4 h], by omega, fun j => r (j - d), fun j => ch (j - d), fun j => l (j - d), fun j => pr (j - d) + d, sb, u, fun p => ad p + d, pa, ?_, ?_, ?_, ?_, ?_⟩
  · dsimp only; rw [Nat.add_sub_cancel, ra]
  · dsimp only; rw [Nat.add_sub_cancel, rb]
  · dsimp only; rw [Nat.add_sub_cancel, ca]
  · dsimp only; rw [Nat.add_sub_cancel, cb]
  · refine fg_part d 0 id H (Nat.le_refl _) (Nat.le_refl _) (Nat.le_refl _) (Nat.le_refl _) (fun q q1 q2 => rfl) (fun j _ _ h => fg_ff h) (Or.inl rfl) hm (fun _ _ _ => rfl) ?_ ?_ ?_ ?_ ?_ ?_ ?_ ?_ ?_ ?_ <;> (intros; simp only [Nat.add_sub_cancel, List.map_id, id, Nat.add_zero])
/-! the chain of jumps that wait -/
def fg_JC (m : Nat → fg_I) : List Nat → Int32 → Prop
  | [], h => h = -1
  | j :: J, h => h = nI j ∧ (∀ i, i ∈ J → i < j) ∧ fg_JC m J (m j).2.2.1
theorem fg_JC_frame {m m' : Nat → fg_I} : ∀ (J : List Nat) (h : Int32), (∀ j, j ∈ J → m' j = m j) → fg_JC m J h → fg_JC m' J h
  | [], _, _, H => H
  | j :: J, h, hm, H => by
    refine ⟨H.1, H.2.1, ?_⟩
    rw [hm j List.mem_cons_self]
    exact fg_JC_frame J _ (fun i hi => hm i (List.mem_cons_of_mem _ hi)) H.2.2
/-! one level -/
def cp_gb (g : Nat) : Nat := if 0 < g then 1 else 0
def cp_L (m x : Nat → fg_I) (g : Nat) (le jm be : Int32) (o b o' s t s' : Nat) (J : List Nat) : Prop :=
  (0 < g → (m o).1 = 5 ∧ (m o).2.1 = nI (2 * g) ∧ (m o).2.2.1 = 1) ∧
  ((le = -2 ∧ b = o + cp_gb g ∧ t = s ∧ jm = -1) ∨ (¬ le = -2 ∧ fg_PA m x (o + cp_gb g) b s t le J ∧ fg_JC m J jm)) ∧
  fg_F m x b o' t s' be
theorem cp_gb_le (g : Nat) : cp_gb g ≤ 1 := by unfold cp_gb; split <;> omega
theorem cp_L_le {m x : Nat → fg_I} {g : Nat} {le jm be : Int32} {o b o' s t s' : Nat} {J : List Nat} (h : cp_L m x g le jm be o b o' s t s' J) :
    o + cp_gb g ≤ b ∧ b ≤ o' ∧ s ≤ t ∧ t ≤ s' ∧ o' ≤ o + cp_gb g + 2 * (s' - s) + 2 * (if le = -2 then 0 else 1) := by
  obtain ⟨_, h2, h3⟩ := h
  have e1 := h3.1
  have e2 := h3.2.1
  have e3 := h3.2.2.1
  rcases h2 with ⟨a1, a2, a3, _⟩ | ⟨a1, a2, _⟩
  · rw [if_pos a1]; omega
  · have f1 := a2.1
    have f2 := a2.2.1
    have f3 := a2.2.2.1
    rw [if_neg a1]; omega
theorem cp_L_frame {m x m' x' : Nat → fg_I} {g : Nat} {le jm be : Int32} {o b o' s t s' : Nat} {J : List Nat} (h : cp_L m x g le jm be o b o' s t s' J)
    (hm : ∀ j, o ≤ j → j < o' → m' j = m j) (hx : ∀ p, s ≤ p → p < s' → x' p = x p) : cp_L m' x' g le jm be o b o' s t s' J := by
  obtain ⟨b1, b2, b3, b4, _⟩ := cp_L_le h
  obtain ⟨h1, h2, h3⟩ := h
  have hgb : 0 < g → cp_gb g = 1 := fun h => if_pos h
  refine ⟨fun hg => ?_, ?_, fg_frame h3 (fun j j1 j2 => hm j (by omega) j2) (fun p p1 p2 => hx p (by omega) p2)⟩
  · have := hgb hg
    rw [hm o (Nat.le_refl _) (by omega)]; exact h1 hg
  · rcases h2 with h2 | ⟨a1, a2, a3⟩
    · exact Or.inl h2
    · refine Or.inr ⟨a1, fg_PA_frame a2 (fun j j1 j2 => hm j (by omega) (by omega)) (fun p p1 p2 => hx p p1 (by omega)), fg_JC_frame J jm (fun j hj => ?_) a3⟩
      have := a2.2.2.2.1 j hj
      exact hm j (by omega) (by omega)
/-- an atom joins its branch -/
theorem cp_join {m x x' : Nat → fg_I} {g : Nat} {le jm be ae : Int32} {o b o' en s t s' pc : Nat} {J : List Nat} (h : cp_L m x g le jm be o b o' s t s' J) (ha : fg_F m x o' en s' pc ae) (hp : pc < 1000)
    (hx0 : ∀ p, s ≤ p → p < t → x' p = x p) (hx1 : ∀ p, t ≤ p → p < s' → x' p = fg_px (fg_mo ae) (x p)) (hx2 : ∀ p, s' ≤ p → p < pc → x' p = x p) : cp_L m x' g le jm (fg_mo ae be) o b en s t pc J := by
  obtain ⟨b1, b2, b3, b4, _⟩ := cp_L_le h
  obtain ⟨h1, h2, h3⟩ := h
  refine ⟨h1, ?_, fg_seq h3 ha hp hx1 hx2⟩
  rcases h2 with h2 | ⟨a1, a2, a3⟩
  · exact Or.inl h2
  · exact Or.inr ⟨a1, fg_PA_frame a2 (fun _ _ _ => rfl) hx0, a3⟩
theorem cp_mem {m x : Nat → fg_I} {a b s e : Nat} {en : Int32} {J : List Nat} (h : fg_PA m x a b s e en J) {j : Nat} (hj : j ∈ J) : a ≤ j ∧ j < b := ⟨(h.2.2.2.1 j hj).1, (h.2.2.2.1 j hj).2.1⟩
/-- a bar: the branch is done -/
theorem cp_bar {m m' x x' : Nat → fg_I} {g : Nat} {le le' jm be : Int32} {o b en s t pc pc' : Nat} {J : List Nat} (h : cp_L m x g le jm be o b en s t pc J)
    (hm0 : ∀ j, o ≤ j → j < b → m' j = m j) (hm : ∀ j, b ≤ j → j < en → m' (j + 1) = m j) (hb : (m' b).1 = 3) (hb1 : nI b + (m' b).2.2.1 = nI (b + 1)) (hb2 : nI b + (m' b).2.2.2 = nI (en + 2)) (hj : (m' (en + 1)).1 = 4) (hj2 : (m' (en + 1)).2.2.1 = jm)
    (hx : ∀ p, s ≤ p → p < pc → x' p = x p) (hbe : ¬ be = -2) (hpc : pc < 1000)
    (hf : (le = -2 ∧ le' = be ∧ pc' = pc) ∨ (¬ le = -2 ∧ le' = nI pc ∧ pc' = pc + 1 ∧ (x' pc).1 = 4 ∧ (x' pc).2.2 = (le, be))) :
    ∃ J', cp_L m' x' g le' (nI (en + 1)) (-1) o (en + 2) (en + 2) s pc' pc' J' := by
  obtain ⟨b1, b2, b3, b4, _⟩ := cp_L_le h
  obtain ⟨h1, h2, h3⟩ := h
  have hgb : 0 < g → cp_gb g = 1 := fun h => if_pos h
  have hg : 0 < g → (m' o).1 = 5 ∧ (m' o).2.1 = nI (2 * g) ∧ (m' o).2.2.1 = 1 := fun hg => by
    have := hgb hg
    rw [hm0 o (Nat.le_refl _) (by omega)]; exact h1 hg
  rcases h2 with ⟨a1, a2, a3, a4⟩ | ⟨a1, a2, a3⟩
  · rcases hf with ⟨_, f2, f3⟩ | ⟨f1, _⟩
    · refine ⟨[en + 1], hg, Or.inr ⟨by rw [f2]; exact hbe, ?_, rfl, (fun i hi => by cases hi), ?_⟩, fg_empty m' x' _ _⟩
      · rw [f2, f3]
        have P := fg_PA_frame (m' := m') (x' := x') (fg_pa1 (m' := m') h3 hm hb hb1 hb2 hj) (fun _ _ _ => rfl) (fun p p1 p2 => hx p (by omega) p2)
        rw [a2, a3] at P
        exact P
      · show (m' (en + 1)).2.2.1 = -1
        rw [hj2]; exact a4
    · exact absurd a1 f1
  · rcases hf with ⟨f1, _⟩ | ⟨_, f2, f3, f4, f5⟩
    · exact absurd f1 a1
    · refine ⟨(en + 1) :: J, hg, Or.inr ⟨?_, ?_, rfl, fun i hi => ?_, ?_⟩, fg_empty m' x' _ _⟩
      · rw [f2]
        intro h
        have := nI_pos (n := pc) (by omega)
        rw [h] at this
        exact this (by decide)
      · rw [f2, f3]
        exact fg_paN a2 h3 (fun j j1 j2 => hm0 j (by omega) j2) hm hb hb1 hb2 hj hx f4 f5
      · have := cp_mem a2 hi; omega
      · rw [hj2]
        exact fg_JC_frame J jm (fun j hj => by have := cp_mem a2 hj; exact hm0 j (by omega) (by omega)) a3
/-- the level is done: its inside is one fragment -/
theorem cp_done {m m' x x' : Nat → fg_I} {g : Nat} {le le' jm be : Int32} {o b en s t pc pc' : Nat} {J : List Nat} (h : cp_L m x g le jm be o b en s t pc J) (hpc : pc < 999)
    (hm0 : ∀ j, o ≤ j → j < en → (¬ le = -2 → ¬ j ∈ J) → m' j = m j) (hm1 : ¬ le = -2 → ∀ j, j ∈ J → (m' j).1 = 4 ∧ nI j + (m' j).2.2.1 = nI en)
    (hx : ∀ p, s ≤ p → p < pc → x' p = x p)
    (hf : (le = -2 ∧ le' = be ∧ pc' = pc) ∨ (¬ le = -2 ∧ le' = nI pc ∧ pc' = pc + 1 ∧ (x' pc).1 = 4 ∧ (x' pc).2.2 = (le, be))) :
    fg_F m' x' (o + cp_gb g) en s pc' le' ∧ (0 < g → (m' o).1 = 5 ∧ (m' o).2.1 = nI (2 * g) ∧ (m' o).2.2.1 = 1) := by
  obtain ⟨b1, b2, b3, b4, _⟩ := cp_L_le h
  obtain ⟨h1, h2, h3⟩ := h
  have hgb : 0 < g → cp_gb g = 1 := fun h => if_pos h
  rcases h2 with ⟨a1, a2, a3, a4⟩ | ⟨a1, a2, a3⟩
  · rcases hf with ⟨_, f2, f3⟩ | ⟨f1, _⟩
    · refine ⟨?_, fun hg => ?_⟩
      · rw [f2, f3, ← a2, ← a3]
        exact fg_frame h3 (fun j j1 j2 => hm0 j (by omega) j2 (fun h => absurd a1 h)) (fun p p1 p2 => hx p (by omega) p2)
      · have := hgb hg
        rw [hm0 o (Nat.le_refl _) (by omega) (fun h => absurd a1 h)]; exact h1 hg
    · exact absurd a1 f1
  · rcases hf with ⟨f1, _⟩ | ⟨_, f2, f3, f4, f5⟩
    · exact absurd f1 a1
    · refine ⟨?_, fun hg => ?_⟩
      · rw [f2, f3]
        exact fg_close a2 h3 hpc (fun j j1 j2 j3 => hm0 j (by omega) j2 (fun _ => j3)) (hm1 a1) hx f4 f5
      · have := hgb hg
        have h0 := a2.1
        rw [hm0 o (Nat.le_refl _) (by omega) (fun _ hj => by have := cp_mem a2 hj; omega)]; exact h1 hg
end CP
