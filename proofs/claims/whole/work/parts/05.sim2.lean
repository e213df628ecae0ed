section MS
def mt_go (len : Nat) (ft : Int32 → Nat → Prop) (k v : Int32) (a : Nat) : Prop := (k = 0 ∧ a < len ∧ ft v a) ∨ (k = 1 ∧ a = 0) ∨ (k = 2 ∧ a = len)
def mt_nx (k : Int32) (a : Nat) : Nat := if k = 0 then a + 1 else a
/-- what the component's search asks, step by step -/
def mt_X (x : Nat → fg_I) (P len : Nat) (all : Prop) (ft : Int32 → Nat → Prop) (nw : Int64 → Nat → Nat → Int64)
    (WX : (Option (Nat × Int64) → Prop) → Nat → Nat → (Nat → Int64) → List mt_C → Int32 → Nat → Int64 → Prop) (WP : (Option (Nat × Int64) → Prop) → Nat → Nat → (Nat → Int64) → List mt_C → Prop) : Prop :=
  (∀ Q f t s st a w, t < 2378 → a ≤ len → (all → a = len) → Q (some (a, w)) → WX Q (f + 1) t s st (-1) a w) ∧
  (∀ Q f t s st a w, t < 2378 → a ≤ len → all → ¬ a = len → WP Q f t s st → WX Q (f + 1) t s st (-1) a w) ∧
  (∀ Q f t s st p a w, t < 2378 → a ≤ len → p < P → mt_sn (s p) a = true → WP Q f t s st → WX Q (f + 1) t s st (nI p) a w) ∧
  (∀ Q f t s st p a w, t < 2378 → a ≤ len → p < P → mt_sn (s p) a = false → ((x p).1 = 0 ∨ (x p).1 = 1 ∨ (x p).1 = 2) → ¬ mt_go len ft (x p).1 (x p).2.1 a → WP Q f t (mt_mk s p a) st → WX Q (f + 1) t s st (nI p) a w) ∧
  (∀ Q f t s st p a w, t < 2378 → a ≤ len → p < P → mt_sn (s p) a = false → ((x p).1 = 0 ∨ (x p).1 = 1 ∨ (x p).1 = 2) → mt_go len ft (x p).1 (x p).2.1 a → WX Q f (t + 1) (mt_mk s p a) st (x p).2.2.1 (mt_nx (x p).1 a) w → WX Q (f + 1) t s st (nI p) a w) ∧
  (∀ Q f t s st p a w k, t < 2378 → a ≤ len → p < P → mt_sn (s p) a = false → (x p).1 = 3 → (x p).2.1 = nI k → k < 6 → WX Q f (t + 1) (mt_mk s p a) st (x p).2.2.1 a (nw w k a) → WX Q (f + 1) t s st (nI p) a w) ∧
  (∀ Q f t s st p a w, t < 2378 → a ≤ len → p < P → mt_sn (s p) a = false → (x p).1 = 4 → st.length < 1188 → WX Q f (t + 1) (mt_mk s p a) (((x p).2.2.2, a, w) :: st) (x p).2.2.1 a w → WX Q (f + 1) t s st (nI p) a w) ∧
  (∀ Q f t s st q a w, t < 2378 → st.length < 1188 → WX Q f (t + 1) s st q a w → WP Q f t s ((q, a, w) :: st)) ∧
  (∀ Q f t s, Q none → WP Q f t s [])
/-- what the reference's search asks, step by step -/
def mt_Y (m : Nat → fg_I) (E len : Nat) (all : Prop) (ft : Int32 → Nat → Prop)
    (WI : (Option (Nat × (Nat → Int32)) → Prop) → Nat → (Nat → Int64) → List mt_E → (Nat → Int32) → Nat → Nat → Prop) (WO : (Option (Nat × (Nat → Int32)) → Prop) → Nat → (Nat → Int64) → List mt_E → (Nat → Int32) → Prop) : Prop :=
  (∀ Q f met YL no i a t, i < E → t ≤ E → a ≤ len → (m i).1 = 4 → nI i + (m i).2.2.1 = nI t → WI Q f met YL no t a → WI Q (f + 1) met YL no i a) ∧
  (∀ Q f met YL no a, a ≤ len → (all → a = len) → Q (some (a, no)) → WI Q (f + 1) met YL no E a) ∧
  (∀ Q f met YL no a, a ≤ len → all → ¬ a = len → WO Q f met YL no → WI Q (f + 1) met YL no E a) ∧
  (∀ Q f met YL no i a, i < E → a ≤ len → ¬ (m i).1 = 4 → ¬ (m i).1 = 6 → mt_sn (met i) a = true → WO Q f met YL no → WI Q (f + 1) met YL no i a) ∧
  (∀ Q f met YL no i a, i < E → a ≤ len → ((m i).1 = 0 ∨ (m i).1 = 1 ∨ (m i).1 = 2) → mt_sn (met i) a = false → ¬ mt_go len ft (m i).1 (m i).2.1 a → WO Q f (mt_mk met i a) YL no → WI Q (f + 1) met YL no i a) ∧
  (∀ Q f met YL no i a, i < E → a ≤ len → ((m i).1 = 0 ∨ (m i).1 = 1 ∨ (m i).1 = 2) → mt_sn (met i) a = false → mt_go len ft (m i).1 (m i).2.1 a → (m i).2.2.1 = 1 → WI Q f (mt_mk met i a) YL no (i + 1) (mt_nx (m i).1 a) → WI Q (f + 1) met YL no i a) ∧
  (∀ Q f met YL no i a k o, i < E → a ≤ len → (m i).1 = 5 → (m i).2.1 = nI (k + 2) → k < 6 → mt_sn (met i) a = false → (m i).2.2.1 = 1 → no (k + 2) = nI o - 1 → o ≤ 33 → YL.length < 1399 → WI Q f (mt_mk met i a) ((true, k, o) :: YL) (upd no (k + 2) (nI a)) (i + 1) a → WI Q (f + 1) met YL no i a) ∧
  (∀ Q f met YL no i a t1 t2, i < E → a ≤ len → (m i).1 = 3 → mt_sn (met i) a = false → t1 ≤ E → nI i + (m i).2.2.1 = nI t1 → t2 ≤ E → nI i + (m i).2.2.2 = nI t2 → YL.length < 1399 → WI Q f (mt_mk met i a) ((false, t2, a) :: YL) no t1 a → WI Q (f + 1) met YL no i a) ∧
  (∀ Q f met YL no k o, k < 6 → o ≤ 33 → YL.length < 1399 → WO Q f met YL (upd no (k + 2) (nI o - 1)) → WO Q (f + 1) met ((true, k, o) :: YL) no) ∧
  (∀ Q f met YL no i a, i ≤ E → a ≤ len → YL.length < 1399 → WI Q f met YL no i a → WO Q (f + 1) met ((false, i, a) :: YL) no) ∧
  (∀ Q f met no, Q none → WO Q (f + 1) met [] no)
def mt_NO (no : Nat → Int32) (v : Nat → Nat) : Prop := ∀ k, k < 6 → no (k + 2) = nI (v k) - 1 ∧ v k ≤ 33
def mt_OR (NX : Int64 → (Nat → Nat) → Prop) (len s0 : Nat) (oX : Option (Nat × Int64)) (oY : Option (Nat × (Nat → Int32))) : Prop :=
  (oX = none ∧ oY = none) ∨ ∃ a w no v, oX = some (a, w) ∧ oY = some (a, no) ∧ s0 ≤ a ∧ a ≤ len ∧ NX w v ∧ mt_NO no v ∧ no 0 = nI s0
def mt_VY (E len s0 : Nat) (e : mt_E) : Prop := (e.1 = false → e.2.1 ≤ E ∧ s0 ≤ e.2.2 ∧ e.2.2 ≤ len) ∧ (e.1 = true → e.2.1 < 6 ∧ e.2.2 ≤ 33)
def mt_I (m : Nat → fg_I) (P E len s0 : Nat) (NX : Int64 → (Nat → Nat) → Prop) (r : Nat → Int32) (ch : Nat → Bool) (l : Nat → List Int32) (pr : Nat → Nat) (sb : Nat → Bool) (pa : Nat → Nat)
    (t : Nat) (s : Nat → Int64) (XL : List mt_C) (met : Nat → Int64) (YL : List mt_E) (no : Nat → Int32) (v : Nat → Nat) : Prop :=
  (∀ j p a, j < E → ch j = false → ¬ (m j).1 = 4 → p < P → r j = nI p → a ≤ len → mt_sn (met j) a = mt_sn (s p) a) ∧
  (∀ p a, p < P → sb p = true → a ≤ len → mt_sn (s p) a = true → mt_sn (s (pa p)) a = true) ∧
  (∀ j a, j < E → ch j = true → a ≤ len → mt_sn (met j) a = true → mt_sn (met (pr j)) a = true) ∧
  mt_Ex l NX v YL XL ∧ mt_CS ch pr met YL ∧ (∀ e, e ∈ YL → mt_VY E len s0 e) ∧ mt_NO no v ∧ no 0 = nI s0 ∧
  t + 2 * mt_mu s P + XL.length ≤ 2376 ∧ XL.length + mt_mu s P ≤ 1188 ∧ YL.length + mt_mu s P ≤ 1200
theorem fg_ad {m x : Nat → fg_I} {a b s e : Nat} {r : Nat → Int32} {ch pd pj : Nat → Bool} {l : Nat → List Int32} {pr : Nat → Nat} {sb : Nat → Bool} {u : Nat → List Int32} {ad : Nat → Nat} {j : Nat}
    (h : fg_LC m x a b s e r ch pd pj l pr sb u ad j) (hc : ch j = false) (h4 : ¬ (m j).1 = 4) : ∃ p, s ≤ p ∧ p < e ∧ sb p = false ∧ ad p = j ∧ r j = nI p := by
  rcases h with ⟨h', _⟩ | ⟨p, p1, p2, p3, p4, p5, _⟩ | ⟨_, t1, t2, _, _, _, _, _, _, _, _, ⟨_, _, p, p1, p2, p3, p4, p5, _⟩ | ⟨h', _⟩⟩
  · exact absurd h' h4
  · exact ⟨p, p1, p2, p3, p4, p5⟩
  · exact ⟨p, p1, p2, p3, p4, p5⟩
  · rw [hc] at h'; cases h'
theorem fg_two {m x : Nat → fg_I} {a b s e : Nat} {r : Nat → Int32} {ch pd pj : Nat → Bool} {l : Nat → List Int32} {pr : Nat → Nat} {sb : Nat → Bool} {u : Nat → List Int32} {ad : Nat → Nat} {j k p : Nat} (he : e < 1000)
    (hj : fg_LC m x a b s e r ch pd pj l pr sb u ad j) (cj : ch j = false) (j4 : ¬ (m j).1 = 4) (hk : fg_LC m x a b s e r ch pd pj l pr sb u ad k) (ck : ch k = false) (k4 : ¬ (m k).1 = 4) (hp : p < e) (ej : r j = nI p) (ek : r k = nI p) : j = k := by
  obtain ⟨q, q1, q2, q3, q4, q5⟩ := fg_ad hj cj j4
  obtain ⟨o, o1, o2, o3, o4, o5⟩ := fg_ad hk ck k4
  have e1 : q = p := fg_ij (q5.symm.trans ej) (by omega) (by omega)
  have e2 : o = p := fg_ij (o5.symm.trans ek) (by omega) (by omega)
  rw [← q4, ← o4, e1, e2]

section
variable {m x : Nat → fg_I} {P E len s0 : Nat} {all : Prop} {ft : Int32 → Nat → Prop} {nw : Int64 → Nat → Nat → Int64} {NX : Int64 → (Nat → Nat) → Prop}
variable {r : Nat → Int32} {ch : Nat → Bool} {l : Nat → List Int32} {pr : Nat → Nat} {sb : Nat → Bool} {u : Nat → List Int32} {ad pa : Nat → Nat}
variable {WX : (Option (Nat × Int64) → Prop) → Nat → Nat → (Nat → Int64) → List mt_C → Int32 → Nat → Int64 → Prop} {WP : (Option (Nat × Int64) → Prop) → Nat → Nat → (Nat → Int64) → List mt_C → Prop}
variable {WI : (Option (Nat × (Nat → Int32)) → Prop) → Nat → (Nat → Int64) → List mt_E → (Nat → Int32) → Nat → Nat → Prop} {WO : (Option (Nat × (Nat → Int32)) → Prop) → Nat → (Nat → Int64) → List mt_E → (Nat → Int32) → Prop}
/-- the component runs down a chain of forks -/
theorem mt_run (hX : mt_X x P len all ft nw WX WP) (hXC : ∀ p, p < P → fg_XC x 0 sb u pa p) (hl : len ≤ 32) {a : Nat} {w : Int64} (ha : a ≤ len) :
    ∀ (n p : Nat), p < n → p < P → (x p).1 = 4 → ∀ (t : Nat) (s : Nat → Int64) (st : List mt_C), mt_sn (s p) a = false → (sb p = true → mt_sn (s (pa p)) a = true) →
      (∀ p a, p < P → sb p = true → a ≤ len → mt_sn (s p) a = true → mt_sn (s (pa p)) a = true) → t + mt_mu s P ≤ 2377 → st.length + mt_mu s P ≤ 1188 →
      ∃ (s' : Nat → Int64) (k : Nat) (h : Int32) (tl : List Int32), u p = h :: tl ∧ tl.length = k ∧ mt_mu s' P + k = mt_mu s P ∧
        (∀ q, q ≠ p → (sb q = false ∨ p < q) → s' q = s q) ∧ (∀ b, b ≤ len → mt_sn (s' p) b = (mt_sn (s p) b || decide (b = a))) ∧
        (∀ p a, p < P → sb p = true → a ≤ len → mt_sn (s' p) a = true → mt_sn (s' (pa p)) a = true) ∧
        ∀ (Q : Option (Nat × Int64) → Prop) (f : Nat), WX Q f (t + k) s' (tl.map (fun q => (q, a, w)) ++ st) h a w → WX Q (f + k) t s st (nI p) a w := by
  intro n
  induction n with
  | zero => intro p h; omega
  | succ n ih =>
    intro p hp hP h4 t s st hn hpar hIX ht hst
    have hmu := mt_mu_hi hn (show a < 33 by omega) P hP
    have hIX1 : ∀ q b, q < P → sb q = true → b ≤ len → mt_sn (mt_mk s p a q) b = true → mt_sn (mt_mk s p a (pa q)) b = true := by
      intro q b q1 q2 q3 q4
      by_cases hh : q = p ∧ b = a
      · obtain ⟨rfl, rfl⟩ := hh
        exact mt_mk_up (by omega) (hpar q2)
      · rw [mt_mk_o (by omega) hh] at q4
        exact mt_mk_up (by omega) (hIX q b q1 q2 q3 q4)
    have hXf := hX.2.2.2.2.2.2.1
    rcases (hXC p hP).2 h4 with ⟨q, q1, q2, q3, q4, q5, q6, q7⟩ | hu
    · have hq0 : mt_sn (s q) a = false := by
        cases hh : mt_sn (s q) a with
        | false => rfl
        | true =>
          have := hIX q a (by omega) q4 ha hh
          rw [q6, hn] at this; cases this
      obtain ⟨s', k, h, tl, u1, u2, u3, u4, u5, u6, u7⟩ := ih q (by omega) (by omega) q5 (t + 1) (mt_mk s p a) (((x p).2.2.2, a, w) :: st)
        (by rw [mt_mk_n (by omega)]; exact hq0) (fun _ => by rw [q6]; exact mt_mk_a (by omega)) hIX1 (by omega) (by simp only [List.length_cons]; omega)
      refine ⟨s', k + 1, h, tl ++ [(x p).2.2.2], by rw [q7, u1]; rfl, by rw [List.length_append, u2]; rfl, by omega, fun o o1 o2 => ?_, fun b b1 => ?_, u6, fun Q f H => ?_⟩
      · have oq : o ≠ q := by
          intro e
          rcases o2 with o2 | o2
          · rw [e, q4] at o2; cases o2
          · omega
        rw [u4 o oq (o2.imp id (fun h => by omega)), mt_mk_n o1]
      · rw [u4 p (by omega) (Or.inr q3), mt_mk_s (by omega)]
      · rw [show f + (k + 1) = (f + k) + 1 by omega]
        refine hXf Q (f + k) t s st p a w (by omega) ha hP hn h4 (by omega) ?_
        rw [q1]
        refine u7 Q f ?_
        rw [show t + 1 + k = t + (k + 1) by omega]
        rw [List.map_append, List.append_assoc] at H
        exact H
    · refine ⟨mt_mk s p a, 1, (x p).2.2.1, [(x p).2.2.2], hu, rfl, hmu, fun o o1 _ => mt_mk_n o1, fun b b1 => mt_mk_s (by omega), hIX1, fun Q f H => ?_⟩
      exact hXf Q f t s st p a w (by omega) ha hP hn h4 (by omega) H
end
end MS
