section MT
/-! marks, counted -/
def mt_sn (x : Int64) (a : Nat) : Bool := x.toBitVec.getLsbD a
def mt_mk (s : Nat → Int64) (p a : Nat) : Nat → Int64 := vp_updL s p (s p ||| lN (2 ^ a))
theorem mt_sn_or {x : Int64} {a b : Nat} (hb : b < 64) : mt_sn (x ||| lN (2 ^ a)) b = (mt_sn x b || decide (b = a)) := by
  have e : (lN (2 ^ a)).toBitVec.getLsbD b = decide (b = a) := by
    show (BitVec.ofNat 64 (2 ^ a)).getLsbD b = _
    rw [BitVec.getLsbD_ofNat, Nat.testBit_two_pow]
    by_cases h : b = a
    · subst h; simp [hb]
    · have h' : ¬ a = b := fun h' => h h'.symm
      simp [h, h']
  unfold mt_sn
  rw [Int64.toBitVec_or, BitVec.getLsbD_or, e]
theorem mt_mk_s {s : Nat → Int64} {p a b : Nat} (hb : b < 64) : mt_sn (mt_mk s p a p) b = (mt_sn (s p) b || decide (b = a)) := by
  have : mt_mk s p a p = s p ||| lN (2 ^ a) := if_pos rfl
  rw [this, mt_sn_or hb]
theorem mt_mk_n {s : Nat → Int64} {p q a : Nat} (h : q ≠ p) : mt_mk s p a q = s q := if_neg h
theorem mt_mk_a {s : Nat → Int64} {p a : Nat} (ha : a < 64) : mt_sn (mt_mk s p a p) a = true := by
  rw [mt_mk_s ha]; simp
theorem mt_mk_up {s : Nat → Int64} {p q a b : Nat} (hb : b < 64) (h : mt_sn (s q) b = true) : mt_sn (mt_mk s p a q) b = true := by
  by_cases e : q = p
  · subst e; rw [mt_mk_s hb, h]; rfl
  · rw [mt_mk_n e]; exact h
theorem mt_mk_o {s : Nat → Int64} {p q a b : Nat} (hb : b < 64) (h : ¬ (q = p ∧ b = a)) : mt_sn (mt_mk s p a q) b = mt_sn (s q) b := by
  by_cases e : q = p
  · subst e
    have : ¬ b = a := fun h' => h ⟨rfl, h'⟩
    rw [mt_mk_s hb]; simp [this]
  · rw [mt_mk_n e]
def mt_c (x : Int64) : Nat → Nat
  | 0 => 0
  | n + 1 => mt_c x n + (if mt_sn x n = true then 0 else 1)
def mt_mu (s : Nat → Int64) : Nat → Nat
  | 0 => 0
  | n + 1 => mt_mu s n + mt_c (s n) 33
theorem mt_c_le (x : Int64) : ∀ n, mt_c x n ≤ n
  | 0 => Nat.le_refl _
  | n + 1 => by
    have := mt_c_le x n
    show mt_c x n + _ ≤ _
    split <;> omega
theorem mt_mu_le (s : Nat → Int64) : ∀ n, mt_mu s n ≤ 33 * n
  | 0 => Nat.le_refl _
  | n + 1 => by
    have := mt_mu_le s n
    have := mt_c_le (s n) 33
    show mt_mu s n + _ ≤ _
    omega
theorem mt_c_lo {x : Int64} {a : Nat} : ∀ n, n ≤ a → n ≤ 64 → mt_c (x ||| lN (2 ^ a)) n = mt_c x n
  | 0, _, _ => rfl
  | n + 1, h, h' => by
    show mt_c _ n + _ = mt_c x n + _
    rw [mt_c_lo n (by omega) (by omega), mt_sn_or (by omega)]
    have : ¬ n = a := by omega
    simp [this]
theorem mt_c_hi {x : Int64} {a : Nat} (h0 : mt_sn x a = false) : ∀ n, a < n → n ≤ 64 → mt_c (x ||| lN (2 ^ a)) n + 1 = mt_c x n
  | 0, h, _ => by omega
  | n + 1, h, h' => by
    show mt_c _ n + _ + 1 = mt_c x n + _
    rw [mt_sn_or (by omega)]
    by_cases e : n = a
    · subst e
      rw [mt_c_lo n (Nat.le_refl _) (by omega), h0]
      simp
    · rw [← mt_c_hi h0 n (by omega) (by omega)]
      simp [e]
      omega
theorem mt_mu_lo {s : Nat → Int64} {p a : Nat} : ∀ n, n ≤ p → mt_mu (mt_mk s p a) n = mt_mu s n
  | 0, _ => rfl
  | n + 1, h => by
    show mt_mu _ n + mt_c _ 33 = mt_mu s n + _
    rw [mt_mu_lo n (by omega), mt_mk_n (by omega)]
theorem mt_mu_hi {s : Nat → Int64} {p a : Nat} (h0 : mt_sn (s p) a = false) (ha : a < 33) : ∀ n, p < n → mt_mu (mt_mk s p a) n + 1 = mt_mu s n
  | 0, h => by omega
  | n + 1, h => by
    show mt_mu _ n + mt_c _ 33 + 1 = mt_mu s n + mt_c _ 33
    by_cases e : n = p
    · subst e
      have : mt_mk s n a n = s n ||| lN (2 ^ a) := if_pos rfl
      rw [mt_mu_lo n (Nat.le_refl _), this, ← mt_c_hi h0 33 ha (by omega)]
      omega
    · rw [← mt_mu_hi h0 ha n (by omega), mt_mk_n e]
      omega
/-! stacks -/
def mt_un (v : Nat → Nat) (k o : Nat) : Nat → Nat := fun j => if j = k then o else v j
theorem mt_un_un (v : Nat → Nat) (k o : Nat) : mt_un (mt_un v k o) k (v k) = v := by
  funext j
  by_cases h : j = k
  · subst h; simp [mt_un]
  · simp [mt_un, h]
abbrev mt_E : Type := Bool × Nat × Nat
abbrev mt_C : Type := Int32 × Nat × Int64
def mt_Ex (l : Nat → List Int32) (NX : Int64 → (Nat → Nat) → Prop) : (Nat → Nat) → List mt_E → List mt_C → Prop
  | _, [], X => X = []
  | v, (true, k, o) :: Y, X => mt_Ex l NX (mt_un v k o) Y X
  | v, (false, i, a) :: Y, X => ∃ w X', NX w v ∧ X = (l i).map (fun q => (q, a, w)) ++ X' ∧ mt_Ex l NX v Y X'
def mt_CS (ch : Nat → Bool) (pr : Nat → Nat) (met : Nat → Int64) : List mt_E → Prop
  | [] => True
  | e :: Y => (e.1 = false → ch e.2.1 = true → mt_sn (met e.2.1) e.2.2 = false ∧ mt_sn (met (pr e.2.1)) e.2.2 = true ∧ ¬ e ∈ Y) ∧ mt_CS ch pr met Y
def mt_U : List mt_E → Nat
  | [] => 0
  | e :: Y => mt_U Y + (if e.1 = true then 1 else 0)
theorem mt_CS_mem {ch : Nat → Bool} {pr : Nat → Nat} {met : Nat → Int64} {i a : Nat} (hc : ch i = true) : ∀ Y : List mt_E, mt_CS ch pr met Y → (false, i, a) ∈ Y → mt_sn (met (pr i)) a = true
  | [], _, h => by cases h
  | e :: Y, h, hm => by
    rcases List.mem_cons.mp hm with h' | h'
    · rw [← h'] at h
      exact (h.1 rfl hc).2.1
    · exact mt_CS_mem hc Y h.2 h'
theorem mt_CS_mk {ch : Nat → Bool} {pr : Nat → Nat} {met : Nat → Int64} {i a : Nat} (ha : a < 64) : ∀ Y : List mt_E, (∀ e, e ∈ Y → e.2.2 < 64) → (ch i = false ∨ ¬ (false, i, a) ∈ Y) → mt_CS ch pr met Y → mt_CS ch pr (mt_mk met i a) Y
  | [], _, _, _ => trivial
  | e :: Y, hv, hi, h => by
    refine ⟨fun h1 h2 => ?_, mt_CS_mk ha Y (fun e' h' => hv e' (List.mem_cons_of_mem _ h')) (hi.imp id (fun h' h'' => h' (List.mem_cons_of_mem _ h''))) h.2⟩
    obtain ⟨b1, b2, b3⟩ := h.1 h1 h2
    have he : e.2.2 < 64 := hv e List.mem_cons_self
    refine ⟨?_, mt_mk_up he b2, b3⟩
    rw [mt_mk_o he (fun h' => ?_)]
    · exact b1
    · rcases hi with hi | hi
      · rw [← h'.1, h2] at hi; cases hi
      · apply hi
        obtain ⟨e1, e2, e3⟩ := e
        obtain ⟨y1, y2⟩ := h'
        dsimp only at h1 y1 y2
        rw [h1, y1, y2]
        exact List.mem_cons_self
end MT
