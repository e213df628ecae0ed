section MV
variable {m x : Nat → fg_I} {P E len s0 : Nat} {all : Prop} {ft : Int32 → Nat → Prop} {nw : Int64 → Nat → Nat → Int64} {NX : Int64 → (Nat → Nat) → Prop}
variable {r : Nat → Int32} {ch : Nat → Bool} {l : Nat → List Int32} {pr : Nat → Nat} {sb : Nat → Bool} {u : Nat → List Int32} {ad pa : Nat → Nat}
variable {WX : (Option (Nat × Int64) → Prop) → Nat → Nat → (Nat → Int64) → List mt_C → Int32 → Nat → Int64 → Prop} {WP : (Option (Nat × Int64) → Prop) → Nat → Nat → (Nat → Int64) → List mt_C → Prop}
variable {WI : (Option (Nat × (Nat → Int32)) → Prop) → Nat → (Nat → Int64) → List mt_E → (Nat → Int32) → Nat → Nat → Prop} {WO : (Option (Nat × (Nat → Int32)) → Prop) → Nat → (Nat → Int64) → List mt_E → (Nat → Int32) → Prop}
theorem mt_sim (hX : mt_X x P len all ft nw WX WP) (hY : mt_Y m E len all ft WI WO) (H : fg_B m x 0 E 0 P r ch (fun _ => false) (fun _ => false) l pr sb u ad pa)
    (rE : r E = -1) (cE : ch E = false) (hE : E ≤ 72) (hP : P ≤ 36) (hl : len ≤ 32)
    (hnw : ∀ w v k a, NX w v → k < 6 → a ≤ 32 → NX (nw w k a) (mt_un v k (a + 1))) : ∀ M : Nat,
    (∀ t s XL met YL no v i a w fx fy, 100 * (2 * mt_mu s P + XL.length + mt_U YL) + mt_jm m E i + 2 ≤ M → M ≤ fx → M ≤ fy → mt_I m P E len s0 NX r ch l pr sb pa t s XL met YL no v → i ≤ E → ch i = false → s0 ≤ a → a ≤ len → NX w v →
      ∃ oX oY, mt_OR NX len s0 oX oY ∧ (∀ Q : Option (Nat × Int64) → Prop, Q oX → WX Q fx t s XL (r i) a w) ∧ (∀ Q : Option (Nat × (Nat → Int32)) → Prop, Q oY → WI Q fy met YL no i a)) ∧
    (∀ t s XL met YL no v fx fy, 100 * (2 * mt_mu s P + XL.length + mt_U YL) + 1 ≤ M → M ≤ fx → M ≤ fy → mt_I m P E len s0 NX r ch l pr sb pa t s XL met YL no v →
      ∃ oX oY, mt_OR NX len s0 oX oY ∧ (∀ Q : Option (Nat × Int64) → Prop, Q oX → WP Q fx t s XL) ∧ (∀ Q : Option (Nat × (Nat → Int32)) → Prop, Q oY → WO Q fy met YL no)) := by
  obtain ⟨H1, H2, H3, H4⟩ := H
  have hX' := hX
  obtain ⟨X1, X2, X3, X4, X5, X6, X7, X8, X9⟩ := hX'
  obtain ⟨Y1, Y2, Y3, Y4, Y5, Y6, Y7, Y8, Y9, Y10, Y11⟩ := hY
  intro M
  induction M using Nat.strongRecOn with
  | _ M ih =>
  refine ⟨?_, ?_⟩
  · intro t s XL met YL no v i a w fx fy hM hfx hfy hI hi ci ha0 ha hw
    obtain ⟨fx, rfl⟩ : ∃ f, fx = f + 1 := ⟨fx - 1, by omega⟩
    obtain ⟨fy, rfl⟩ : ∃ f, fy = f + 1 := ⟨fy - 1, by omega⟩
    have hI' := hI
    obtain ⟨I1, I2, I3, I4, I5, I6, I7, I8, I9, I10, I11⟩ := hI'
    obtain ⟨fX, fY, f1, f2, f3⟩ := (ih (100 * (2 * mt_mu s P + XL.length + mt_U YL) + 1) (by omega)).2 t s XL met YL no v fx fy (Nat.le_refl _) (by omega) (by omega) hI
    by_cases hiE : i = E
    · rw [hiE, rE]
      by_cases hal : all → a = len
      · exact ⟨some (a, w), some (a, no), Or.inr ⟨a, w, no, v, rfl, rfl, ha0, ha, hw, I7, I8⟩, fun Q hQ => X1 Q fx t s XL a w (by omega) ha hal hQ, fun Q hQ => Y2 Q fy met YL no a ha hal hQ⟩
      · have hall : all := Classical.byContradiction (fun h => hal (fun h' => absurd h' h))
        have hne : ¬ a = len := fun h => hal (fun _ => h)
        exact ⟨fX, fY, f1, fun Q hQ => X2 Q fx t s XL a w (by omega) ha hall hne (f2 Q hQ), fun Q hQ => Y3 Q fy met YL no a ha hall hne (f3 Q hQ)⟩
    · have hiL : i < E := by omega
      rcases H1 i (Nat.zero_le _) hiL with ⟨h4, _, hh⟩ | ⟨p, _, p2, p3, p4, p5, p6, p7, p8, p9, p10⟩ | ⟨h3, t1, t2, _, a2, a3, a4, _, a6, a7, a8, hh⟩
      · rcases hh with ⟨e1, _⟩ | ⟨_, t', _, t2, t3, t4, t5, t6⟩
        · cases e1
        · have hj := mt_jm_lt hiL h4 t6
          obtain ⟨oX, oY, o1, o2, o3⟩ := (ih (100 * (2 * mt_mu s P + XL.length + mt_U YL) + mt_jm m E t' + 2) (by omega)).1 t s XL met YL no v t' a w (fx + 1) fy (Nat.le_refl _) (by omega) (by omega) hI t2 t4 ha0 ha hw
          rw [t5]
          exact ⟨oX, oY, o1, o2, fun Q hQ => Y1 Q fy met YL no i a t' hiL t2 ha h4 t3 (o3 Q hQ)⟩
      · have n4 := (fg_SG_4 p10).1
        rw [p5]
        cases hsn : mt_sn (s p) a with
        | true =>
          have hmet : mt_sn (met i) a = true := by rw [I1 i p a hiL ci n4 p2 p5 ha]; exact hsn
          have n6 : ¬ (m i).1 = 6 := by
            rcases p10 with ⟨h1, _⟩ | ⟨h1, _⟩ | ⟨h1, _⟩ | ⟨h1, _⟩ <;> rw [h1] <;> decide
          exact ⟨fX, fY, f1, fun Q hQ => X3 Q fx t s XL p a w (by omega) ha p2 hsn (f2 Q hQ), fun Q hQ => Y4 Q fy met YL no i a hiL ha n4 n6 hmet (f3 Q hQ)⟩
        | false =>
          have hmet : mt_sn (met i) a = false := by rw [I1 i p a hiL ci n4 p2 p5 ha]; exact hsn
          have single : ((m i).1 = 0 ∧ (x p).1 = 0 ∧ (x p).2.1 = (m i).2.1) ∨ ((m i).1 = 1 ∧ (x p).1 = 1) ∨ ((m i).1 = 2 ∧ (x p).1 = 2) →
              ∃ oX oY, mt_OR NX len s0 oX oY ∧ (∀ Q : Option (Nat × Int64) → Prop, Q oX → WX Q (fx + 1) t s XL (nI p) a w) ∧ (∀ Q : Option (Nat × (Nat → Int32)) → Prop, Q oY → WI Q (fy + 1) met YL no i a) := by
            intro hk
            obtain ⟨k1, k2, k3⟩ := mt_go_e (len := len) (ft := ft) (a := a) hk
            by_cases hg : mt_go len ft (x p).1 (x p).2.1 a
            · obtain ⟨n1, n2⟩ := mt_nx_le ha hg
              obtain ⟨J1, J2⟩ := mt_I_mk hP hl H1 hI hiL ci n4 p2 p3 p5 ha hsn (Nat.le_refl (t + 1))
              have hjm := mt_jm_le m E (i + 1)
              obtain ⟨oX, oY, o1, o2, o3⟩ := (ih (100 * (2 * mt_mu (mt_mk s p a) P + XL.length + mt_U YL) + mt_jm m E (i + 1) + 2) (by omega)).1 (t + 1) (mt_mk s p a) XL (mt_mk met i a) YL no v (i + 1) (mt_nx (x p).1 a) w fx fy (Nat.le_refl _) (by omega) (by omega) J1 (by omega) p8 (by omega) n1 hw
              rw [← p9] at o2
              refine ⟨oX, oY, o1, fun Q hQ => X5 Q fx t s XL p a w (by omega) ha p2 hsn k2 hg (o2 Q hQ), fun Q hQ => Y6 Q fy met YL no i a hiL ha (by rw [k1]; exact k2) hmet (k3.mpr hg) p7 ?_⟩
              rw [k1]; exact o3 Q hQ
            · obtain ⟨J1, J2⟩ := mt_I_mk hP hl H1 hI hiL ci n4 p2 p3 p5 ha hsn (Nat.le_succ t)
              obtain ⟨oX, oY, o1, o2, o3⟩ := (ih (100 * (2 * mt_mu (mt_mk s p a) P + XL.length + mt_U YL) + 1) (by omega)).2 t (mt_mk s p a) XL (mt_mk met i a) YL no v fx fy (Nat.le_refl _) (by omega) (by omega) J1
              exact ⟨oX, oY, o1, fun Q hQ => X4 Q fx t s XL p a w (by omega) ha p2 hsn k2 hg (o2 Q hQ), fun Q hQ => Y5 Q fy met YL no i a hiL ha (by rw [k1]; exact k2) hmet (fun h => hg (k3.mp h)) (o3 Q hQ)⟩
          rcases p10 with h | h | h | ⟨h1, h2, k, hk, h3, h4⟩
          · exact single (Or.inl h)
          · exact single (Or.inr (Or.inl h))
          · exact single (Or.inr (Or.inr h))
          · obtain ⟨⟨J1, J2, J3, J4, J5, J6, J7, J8, J9, J10, J11⟩, J12⟩ := mt_I_mk hP hl H1 hI hiL ci n4 p2 p3 p5 ha hsn (Nat.le_refl (t + 1))
            have hjm := mt_jm_le m E (i + 1)
            have hU : mt_U ((true, k, v k) :: YL) = mt_U YL + 1 := rfl
            have hNO : mt_NO (upd no (k + 2) (nI a)) (mt_un v k (a + 1)) := by
              intro j hj
              by_cases e : j = k
              · subst e
                have e1 : upd no (j + 2) (nI a) (j + 2) = nI a := if_pos rfl
                have e2 : mt_un v j (a + 1) j = a + 1 := if_pos rfl
                rw [e1, e2, nI_pred]
                exact ⟨rfl, by omega⟩
              · have e1 : upd no (k + 2) (nI a) (j + 2) = no (j + 2) := if_neg (by omega)
                have e2 : mt_un v k (a + 1) j = v j := if_neg e
                rw [e1, e2]; exact I7 j hj
            have JJ : mt_I m P E len s0 NX r ch l pr sb pa (t + 1) (mt_mk s p a) XL (mt_mk met i a) ((true, k, v k) :: YL) (upd no (k + 2) (nI a)) (mt_un v k (a + 1)) := by
              refine ⟨J1, J2, J3, ?_, ⟨(fun h => by cases h), J5⟩, ?_, hNO, ?_, J9, J10, ?_⟩
              · show mt_Ex l NX (mt_un (mt_un v k (a + 1)) k (v k)) YL XL
                rw [mt_un_un]; exact I4
              · intro e he
                rcases List.mem_cons.mp he with h | h
                · rw [h]; exact ⟨(fun h => by cases h), fun _ => ⟨hk, (I7 k hk).2⟩⟩
                · exact I6 e h
              · have : upd no (k + 2) (nI a) 0 = no 0 := if_neg (by omega)
                rw [this]; exact I8
              · simp only [List.length_cons]; omega
            obtain ⟨oX, oY, o1, o2, o3⟩ := (ih (100 * (2 * mt_mu (mt_mk s p a) P + XL.length + mt_U ((true, k, v k) :: YL)) + mt_jm m E (i + 1) + 2) (by omega)).1 (t + 1) (mt_mk s p a) XL (mt_mk met i a) ((true, k, v k) :: YL) (upd no (k + 2) (nI a)) (mt_un v k (a + 1)) (i + 1) a (nw w k a) fx fy (Nat.le_refl _) (by omega) (by omega) JJ (by omega) p8 ha0 ha (hnw w v k a hw hk (by omega))
            rw [← p9] at o2
            exact ⟨oX, oY, o1, fun Q hQ => X6 Q fx t s XL p a w k (by omega) ha p2 hsn h2 h3 hk (o2 Q hQ), fun Q hQ => Y7 Q fy met YL no i a k (v k) hiL ha h1 h4 hk hmet p7 (I7 k hk).1 (I7 k hk).2 (by omega) (o3 Q hQ)⟩
      · rcases hh with ⟨_, _, p, _, p2, p3, p4, p5, p6, p7⟩ | ⟨c1, _⟩
        · have n4 : ¬ (m i).1 = 4 := by rw [h3]; decide
          have n6 : ¬ (m i).1 = 6 := by rw [h3]; decide
          rw [p5]
          cases hsn : mt_sn (s p) a with
          | true =>
            have hmet : mt_sn (met i) a = true := by rw [I1 i p a hiL ci n4 p2 p5 ha]; exact hsn
            exact ⟨fX, fY, f1, fun Q hQ => X3 Q fx t s XL p a w (by omega) ha p2 hsn (f2 Q hQ), fun Q hQ => Y4 Q fy met YL no i a hiL ha n4 n6 hmet (f3 Q hQ)⟩
          | false =>
            have hmet : mt_sn (met i) a = false := by rw [I1 i p a hiL ci n4 p2 p5 ha]; exact hsn
            obtain ⟨s', k, h, tl, u1, u2, u3, u4, u5, u6, u7⟩ := mt_run hX (fun p hp => H4 p (Nat.zero_le _) hp) hl (w := w) ha (p + 1) p (by omega) p2 p6 t s XL hsn (fun h => by rw [p3] at h; cases h) I2 (by omega) (by omega)
            rw [p7] at u1
            injection u1 with u8 u9
            have hk1 : 1 ≤ k := by
              rw [← u2, ← u9]
              by_cases e : ch t2 = true
              · have ht2 : t2 < E := by
                  by_cases e' : t2 = E
                  · rw [e', cE] at e; cases e
                  · omega
                rcases H1 t2 (Nat.zero_le _) ht2 with ⟨_, e2, _⟩ | ⟨_, _, _, _, _, _, e2, _⟩ | ⟨_, y1, y2, _, _, _, _, _, _, _, _, ⟨e2, _⟩ | ⟨_, _, e3⟩⟩
                · rw [e] at e2; cases e2
                · rw [e] at e2; cases e2
                · rw [e] at e2; cases e2
                · rw [e3]; simp
              · rw [H2 t2 (Nat.zero_le _) a6 (by simpa using e)]; simp
            have hjm := mt_jm_le m E t1
            have hU : mt_U ((false, t2, a) :: YL) = mt_U YL := rfl
            have hlen : (tl.map (fun q => (q, a, w)) ++ XL).length = k + XL.length := by rw [List.length_append, List.length_map, u2]
            have JJ : mt_I m P E len s0 NX r ch l pr sb pa (t + k) s' (tl.map (fun q => (q, a, w)) ++ XL) (mt_mk met i a) ((false, t2, a) :: YL) no v := by
              refine ⟨mt_mark hP hl H1 hiL ci n4 p2 p5 I1 (fun q hq hs => u4 q hq (Or.inl hs)) u5, u6, mt_IYmk hl (Or.inl ci) I3, ⟨w, XL, hw, by rw [u9], I4⟩, mt_push hl hiL cE a6 ha hmet a8 I3 I5 I6 (Or.inl ci), ?_, I7, I8, by omega, by omega, ?_⟩
              · intro e he
                rcases List.mem_cons.mp he with h | h
                · rw [h]; exact ⟨fun _ => ⟨a6, ha0, ha⟩, fun h => by cases h⟩
                · exact I6 e h
              · simp only [List.length_cons]; omega
            obtain ⟨oX, oY, o1, o2, o3⟩ := (ih (100 * (2 * mt_mu s' P + (tl.map (fun q => (q, a, w)) ++ XL).length + mt_U ((false, t2, a) :: YL)) + mt_jm m E t1 + 2) (by omega)).1 (t + k) s' (tl.map (fun q => (q, a, w)) ++ XL) (mt_mk met i a) ((false, t2, a) :: YL) no v t1 a w (fx + 1 - k) fy (Nat.le_refl _) (by omega) (by omega) JJ a2 a4 ha0 ha hw
            refine ⟨oX, oY, o1, fun Q hQ => ?_, fun Q hQ => Y8 Q fy met YL no i a t1 t2 hiL ha h3 hmet a2 a3 a6 a7 (by omega) (o3 Q hQ)⟩
            have h9 := u7 Q (fx + 1 - k) (by rw [← u8]; exact o2 Q hQ)
            rw [show fx + 1 - k + k = fx + 1 by omega] at h9
            exact h9
        · rw [ci] at c1; cases c1
  · intro t s XL met YL no v fx fy hM hfx hfy hI
    obtain ⟨I1, I2, I3, I4, I5, I6, I7, I8, I9, I10, I11⟩ := hI
    cases YL with
    | nil =>
      have e : XL = [] := I4
      obtain ⟨fy, rfl⟩ : ∃ f, fy = f + 1 := ⟨fy - 1, by omega⟩
      rw [e]
      exact ⟨none, none, Or.inl ⟨rfl, rfl⟩, fun Q hQ => X9 Q fx t s hQ, fun Q hQ => Y11 Q fy met no hQ⟩
    | cons e Y =>
      obtain ⟨b, c, d⟩ := e
      obtain ⟨fy, rfl⟩ : ∃ f, fy = f + 1 := ⟨fy - 1, by omega⟩
      have hv := I6 (b, c, d) List.mem_cons_self
      have hv' : ∀ e, e ∈ Y → mt_VY E len s0 e := fun e he => I6 e (List.mem_cons_of_mem _ he)
      have hL : Y.length + 1 + mt_mu s P ≤ 1200 := I11
      cases b with
      | true =>
        have hv2 := hv.2 rfl
        dsimp only at hv2
        have hU : mt_U ((true, c, d) :: Y) = mt_U Y + 1 := rfl
        have hNO : mt_NO (upd no (c + 2) (nI d - 1)) (mt_un v c d) := by
          intro j hj
          by_cases e : j = c
          · subst e
            have e1 : upd no (j + 2) (nI d - 1) (j + 2) = nI d - 1 := if_pos rfl
            have e2 : mt_un v j d j = d := if_pos rfl
            rw [e1, e2]; exact ⟨rfl, hv2.2⟩
          · have e1 : upd no (c + 2) (nI d - 1) (j + 2) = no (j + 2) := if_neg (by omega)
            have e2 : mt_un v c d j = v j := if_neg e
            rw [e1, e2]; exact I7 j hj
        have e0 : upd no (c + 2) (nI d - 1) 0 = no 0 := if_neg (by omega)
        obtain ⟨oX, oY, o1, o2, o3⟩ := (ih (100 * (2 * mt_mu s P + XL.length + mt_U Y) + 1) (by omega)).2 t s XL met Y (upd no (c + 2) (nI d - 1)) (mt_un v c d) fx fy (Nat.le_refl _) (by omega) (by omega) ⟨I1, I2, I3, I4, I5.2, hv', hNO, by rw [e0]; exact I8, I9, I10, by omega⟩
        exact ⟨oX, oY, o1, o2, fun Q hQ => Y9 Q fy met Y no c d hv2.1 hv2.2 (by omega) (o3 Q hQ)⟩
      | false =>
        have hv1 := hv.1 rfl
        dsimp only at hv1
        obtain ⟨hc1, hc2, hc3⟩ := hv1
        have hU : mt_U ((false, c, d) :: Y) = mt_U Y := rfl
        obtain ⟨w, X', g1, g2, g3⟩ := I4
        cases hcc : ch c with
        | false =>
          rw [H2 c (Nat.zero_le _) hc1 hcc] at g2
          have g4 : XL = (r c, d, w) :: X' := g2
          have hXl : XL.length = X'.length + 1 := by rw [g4]; rfl
          have hjm := mt_jm_le m E c
          obtain ⟨oX, oY, o1, o2, o3⟩ := (ih (100 * (2 * mt_mu s P + X'.length + mt_U Y) + mt_jm m E c + 2) (by omega)).1 (t + 1) s X' met Y no v c d w fx fy (Nat.le_refl _) (by omega) (by omega) ⟨I1, I2, I3, g3, I5.2, hv', I7, I8, by omega, by omega, by omega⟩ hc1 hcc hc2 hc3 g1
          refine ⟨oX, oY, o1, fun Q hQ => ?_, fun Q hQ => Y10 Q fy met Y no c d hc1 hc3 (by omega) (o3 Q hQ)⟩
          rw [g4]
          exact X8 Q fx t s X' (r c) d w (by omega) (by omega) (o2 Q hQ)
        | true =>
          have hcE : c < E := by
            by_cases e' : c = E
            · rw [e', cE] at hcc; cases hcc
            · omega
          obtain ⟨z1, z2, z3⟩ := I5.1 rfl hcc
          dsimp only at z1 z2
          rcases H1 c (Nat.zero_le _) hcE with ⟨_, e2, _⟩ | ⟨_, _, _, _, _, _, e2, _⟩ | ⟨h3, t1, t2, _, a2, a3, a4, _, a6, a7, a8, ⟨e2, _⟩ | ⟨_, _, e3⟩⟩
          · rw [hcc] at e2; cases e2
          · rw [hcc] at e2; cases e2
          · rw [hcc] at e2; cases e2
          · rw [e3] at g2
            have g4 : XL = (r t1, d, w) :: ((l t2).map (fun q => (q, d, w)) ++ X') := g2
            have hXl : XL.length = ((l t2).map (fun q => (q, d, w)) ++ X').length + 1 := by rw [g4]; rfl
            have hjm := mt_jm_le m E t1
            have hU2 : mt_U ((false, t2, d) :: Y) = mt_U Y := rfl
            obtain ⟨fy, rfl⟩ : ∃ f, fy = f + 1 := ⟨fy - 1, by omega⟩
            have JJ : mt_I m P E len s0 NX r ch l pr sb pa (t + 1) s ((l t2).map (fun q => (q, d, w)) ++ X') (mt_mk met c d) ((false, t2, d) :: Y) no v := by
              refine ⟨?_, I2, mt_IYmk hl (Or.inr z2) I3, ⟨w, X', g1, rfl, g3⟩, mt_push hl hcE cE a6 hc3 z1 a8 I3 I5.2 hv' (Or.inr z3), ?_, I7, I8, by omega, by omega, ?_⟩
              · intro j p b j1 j2 j3 j4 j5 j6
                rw [mt_mk_n (fun e => by rw [e, hcc] at j2; cases j2)]
                exact I1 j p b j1 j2 j3 j4 j5 j6
              · intro e he
                rcases List.mem_cons.mp he with h | h
                · rw [h]; exact ⟨fun _ => ⟨a6, hc2, hc3⟩, fun h => by cases h⟩
                · exact hv' e h
              · simp only [List.length_cons]; omega
            obtain ⟨oX, oY, o1, o2, o3⟩ := (ih (100 * (2 * mt_mu s P + ((l t2).map (fun q => (q, d, w)) ++ X').length + mt_U ((false, t2, d) :: Y)) + mt_jm m E t1 + 2) (by omega)).1 (t + 1) s ((l t2).map (fun q => (q, d, w)) ++ X') (mt_mk met c d) ((false, t2, d) :: Y) no v t1 d w fx fy (Nat.le_refl _) (by omega) (by omega) JJ a2 a4 hc2 hc3 g1
            refine ⟨oX, oY, o1, fun Q hQ => ?_, fun Q hQ => Y10 Q (fy + 1) met Y no c d hc1 hc3 (by omega) (Y8 Q fy met Y no c d t1 t2 hcE hc3 h3 z1 a2 a3 a6 a7 (by omega) (o3 Q hQ))⟩
            rw [g4]
            exact X8 Q fx t s _ (r t1) d w (by omega) (by omega) (o2 Q hQ)
end MV
