section YR
def cy_p1 (f c : Nat → Int32) (o n : Nat) : Nat → Nat → Int32
  | 0 => f
  | k + 1 => cy_ps (cy_p1 f c o n k) c (o + k * n) n
def cy_p2 (f c : Nat → Int32) (v : Nat → Int32) (b n : Nat) : Nat → Nat → Int32
  | 0 => f
  | i + 1 => cy_ps (upd (cy_p2 f c v b n i) (b + i * (n + 1)) (v i)) c (b + i * (n + 1) + 1) n
theorem cy_p1_B {f c : Nat → Int32} {o n : Nat} (h : rl_B f) (hc : ∀ j, j < n → cy_B (c j)) : ∀ k, rl_B (cy_p1 f c o n k)
  | 0 => h
  | k + 1 => cy_ps_B (cy_p1_B h hc k) hc
theorem cy_p1_S {f c : Nat → Int32} {o n : Nat} (h : rl_S f) (hc : ∀ j, j < n → cy_S (c j)) : ∀ k, rl_S (cy_p1 f c o n k)
  | 0 => h
  | k + 1 => cy_ps_S (cy_p1_S h hc k) hc
theorem cy_p2_B {f c v : Nat → Int32} {b n : Nat} (h : rl_B f) (hc : ∀ j, j < n → cy_B (c j)) (hv : ∀ i, cy_B (v i)) : ∀ k, rl_B (cy_p2 f c v b n k)
  | 0 => h
  | k + 1 => cy_ps_B (rl_Bu (cy_p2_B h hc hv k) (hv k)) hc
theorem cy_p2_S {f c v : Nat → Int32} {b n N : Nat} (h : rl_S f) (hc : ∀ j, j < n → cy_S (c j)) (hv : ∀ i, i < N → cy_S (v i)) : ∀ k, k ≤ N → rl_S (cy_p2 f c v b n k)
  | 0, _ => h
  | k + 1, hk => cy_ps_S (rl_Su (cy_p2_S h hc hv k (by omega)) (hv k (by omega))) hc
/-- the first copies -/
theorem cy_p1_q {O W F G o w f g : Nat → Int32} {s n : Nat} : ∀ k, (∀ p, p < s → fg_q (cy_p1 O o s n k) (cy_p1 W w s n k) (cy_p1 F f s n k) (cy_p1 G g s n k) p = fg_q O W F G p) ∧ (∀ c j, c < k → j < n → fg_q (cy_p1 O o s n k) (cy_p1 W w s n k) (cy_p1 F f s n k) (cy_p1 G g s n k) (s + c * n + j) = fg_q o w f g j)
  | 0 => ⟨fun _ _ => rfl, fun c _ h => by omega⟩
  | k + 1 => by
    obtain ⟨h1, h2⟩ := cy_p1_q (O := O) (W := W) (F := F) (G := G) (o := o) (w := w) (f := f) (g := g) (s := s) (n := n) k
    refine ⟨fun p hp => ?_, fun c j hc hj => ?_⟩
    · show fg_q (cy_ps _ _ _ _) (cy_ps _ _ _ _) (cy_ps _ _ _ _) (cy_ps _ _ _ _) p = _
      rw [fg_q_pn (Or.inl (by omega)), h1 p hp]
    · show fg_q (cy_ps _ _ _ _) (cy_ps _ _ _ _) (cy_ps _ _ _ _) (cy_ps _ _ _ _) _ = _
      by_cases e : c = k
      · rw [e, fg_q_ps hj]
      · have : (c + 1) * n ≤ k * n := Nat.mul_le_mul_right n (by omega)
        rw [Nat.succ_mul] at this
        rw [fg_q_pn (Or.inl (by omega)), h2 c j (by omega) hj]
/-- the optional copies -/
theorem cy_p2_q {O W F G o w f g v0 v1 v2 v3 : Nat → Int32} {b n : Nat} : ∀ k, (∀ p, p < b → fg_q (cy_p2 O o v0 b n k) (cy_p2 W w v1 b n k) (cy_p2 F f v2 b n k) (cy_p2 G g v3 b n k) p = fg_q O W F G p) ∧
    (∀ c, c < k → fg_q (cy_p2 O o v0 b n k) (cy_p2 W w v1 b n k) (cy_p2 F f v2 b n k) (cy_p2 G g v3 b n k) (b + c * (n + 1)) = (v0 c, v1 c, v2 c, v3 c)) ∧
    (∀ c j, c < k → j < n → fg_q (cy_p2 O o v0 b n k) (cy_p2 W w v1 b n k) (cy_p2 F f v2 b n k) (cy_p2 G g v3 b n k) (b + c * (n + 1) + 1 + j) = fg_q o w f g j)
  | 0 => ⟨fun _ _ => rfl, fun c h => by omega, fun c _ h => by omega⟩
  | k + 1 => by
    obtain ⟨h1, h2, h3⟩ := cy_p2_q (O := O) (W := W) (F := F) (G := G) (o := o) (w := w) (f := f) (g := g) (v0 := v0) (v1 := v1) (v2 := v2) (v3 := v3) (b := b) (n := n) k
    have hm : ∀ c, c < k → c * (n + 1) + n + 1 ≤ k * (n + 1) := fun c hc => by
      have : (c + 1) * (n + 1) ≤ k * (n + 1) := Nat.mul_le_mul_right (n + 1) (by omega)
      rw [Nat.succ_mul] at this; omega
    refine ⟨fun p hp => ?_, fun c hc => ?_, fun c j hc hj => ?_⟩
    · show fg_q (cy_ps _ _ _ _) (cy_ps _ _ _ _) (cy_ps _ _ _ _) (cy_ps _ _ _ _) p = _
      rw [fg_q_pn (Or.inl (by omega)), fg_q_un (by omega), h1 p hp]
    · show fg_q (cy_ps _ _ _ _) (cy_ps _ _ _ _) (cy_ps _ _ _ _) (cy_ps _ _ _ _) _ = _
      by_cases e : c = k
      · rw [e, fg_q_pn (Or.inl (by omega)), fg_q_us]
      · have := hm c (by omega)
        rw [fg_q_pn (Or.inl (by omega)), fg_q_un (by omega), h2 c (by omega)]
    · show fg_q (cy_ps _ _ _ _) (cy_ps _ _ _ _) (cy_ps _ _ _ _) (cy_ps _ _ _ _) _ = _
      by_cases e : c = k
      · rw [e, fg_q_ps hj]
      · have := hm c (by omega)
        rw [fg_q_pn (Or.inl (by omega)), fg_q_un (by omega), h3 c j (by omega) hj]
theorem cy_z {n i opt : Nat} (h : i ≤ opt) : opt * (n + 1) - i * (n + 1) = (opt - i) * (n + 1) := by rw [Nat.sub_mul]
variable {g_count g_place g_end g_size g_large g_ready g_depth g_groups g_atom g_atomSize g_length g_found : Int32} {b_kind b_value b_op b_with b_one b_two b_copyOp b_copyWith b_copyOne b_copyTwo b_opened b_branch b_sizes b_jumps b_groupOf b_text : Nat → Int32} {b_met : Nat → Int64} {b_todo b_notes : Nat → Int32}
theorem cy_q398 {post : SY → Prop} {en n : Nat} {z1 z0 : Int32} (hn : en + n + 2 ≤ 160) (hz1 : cy_S z1) (hz0 : cy_S z0) (B1 : ∀ j, j < n → cy_B (b_copyOp j)) (B2 : ∀ j, j < n → cy_B (b_copyWith j)) (S1 : ∀ j, j < n → cy_S (b_copyOne j)) (S2 : ∀ j, j < n → cy_S (b_copyTwo j))
    (h : post (g_count, g_place, nI (en + n + 2), g_size, 0, g_ready, g_depth, g_groups, g_atom, g_atomSize, g_length, g_found, b_kind, b_value, upd (cy_ps (upd b_op en 3) b_copyOp (en + 1) n) (en + n + 1) 4, upd (cy_ps (upd b_with en 0) b_copyWith (en + 1) n) (en + n + 1) 0, upd (cy_ps (upd b_one en z1) b_copyOne (en + 1) n) (en + n + 1) (-(nI n) - 1), upd (cy_ps (upd b_two en z0) b_copyTwo (en + 1) n) (en + n + 1) 0, b_copyOp, b_copyWith, b_copyOne, b_copyTwo, b_opened, b_branch, b_sizes, b_jumps, b_groupOf, b_text, b_met, b_todo, b_notes)) : wY_quantify_398 post (nI n) z0 z1 0 3 g_count g_place (nI en) g_size 0 g_ready g_depth g_groups g_atom g_atomSize g_length g_found b_kind b_value b_op b_with b_one b_two b_copyOp b_copyWith b_copyOne b_copyTwo b_opened b_branch b_sizes b_jumps b_groupOf b_text b_met b_todo b_notes := by
  unfold wY_quantify_398
  refine cy_emit (by omega) (cy_Bn (n := 3) (by omega)) (cy_Bn (n := 0) (by omega)) hz1 hz0 ?_
  refine cy_paste (by omega) B1 B2 S1 S2 ?_
  rw [show en + 1 + n = en + n + 1 by omega]
  exact cy_emit (by omega) (cy_Bn (n := 4) (by omega)) (cy_Bn (n := 0) (by omega)) (cy_Sneg n (by omega)) (cy_Sn (n := 0) (by omega)) h
theorem cy_q304 {post : SY → Prop} {kk b n opt : Nat} {x5 : Int32} (hk : kk ≤ 15) (ho : opt ≤ 4) (hn : b + opt * (n + 1) ≤ 160) (B1 : ∀ j, j < n → cy_B (b_copyOp j)) (B2 : ∀ j, j < n → cy_B (b_copyWith j)) (S1 : ∀ j, j < n → cy_S (b_copyOne j)) (S2 : ∀ j, j < n → cy_S (b_copyTwo j))
    (h : ∀ k, wY_quantify_304 post (nI kk) (nI opt) x5 (nI n) (nI (b + opt * (n + 1))) (k + 1) (nI opt) g_count g_place (nI (b + opt * (n + 1))) g_size 0 g_ready g_depth g_groups g_atom g_atomSize g_length g_found b_kind b_value (cy_p2 b_op b_copyOp (fun _ => 3) b n opt) (cy_p2 b_with b_copyWith (fun _ => 0) b n opt) (cy_p2 b_one b_copyOne (fun i => if kk = 12 then nI ((opt - i) * (n + 1)) else 1) b n opt) (cy_p2 b_two b_copyTwo (fun i => if kk = 12 then 1 else nI ((opt - i) * (n + 1))) b n opt) b_copyOp b_copyWith b_copyOne b_copyTwo b_opened b_branch b_sizes b_jumps b_groupOf b_text b_met b_todo b_notes) : ∀ (d i : Nat), i + d = opt →
    wY_quantify_304 post (nI kk) (nI opt) x5 (nI n) (nI (b + opt * (n + 1))) (d + 1) (nI i) g_count g_place (nI (b + i * (n + 1))) g_size 0 g_ready g_depth g_groups g_atom g_atomSize g_length g_found b_kind b_value (cy_p2 b_op b_copyOp (fun _ => 3) b n i) (cy_p2 b_with b_copyWith (fun _ => 0) b n i) (cy_p2 b_one b_copyOne (fun i => if kk = 12 then nI ((opt - i) * (n + 1)) else 1) b n i) (cy_p2 b_two b_copyTwo (fun i => if kk = 12 then 1 else nI ((opt - i) * (n + 1))) b n i) b_copyOp b_copyWith b_copyOne b_copyTwo b_opened b_branch b_sizes b_jumps b_groupOf b_text b_met b_todo b_notes := by
  intro d
  induction d with
  | zero =>
    intro i hi
    obtain rfl : i = opt := by omega
    exact h 0
  | succ d ih =>
    intro i hi
    have hm : i * (n + 1) + n + 1 ≤ opt * (n + 1) := by
      have : (i + 1) * (n + 1) ≤ opt * (n + 1) := Nat.mul_le_mul_right (n + 1) (by omega)
      rw [Nat.succ_mul] at this; omega
    have e1 : nI (b + opt * (n + 1)) - nI (b + i * (n + 1)) = nI ((opt - i) * (n + 1)) := by
      rw [pk_sub (by omega), ← cy_z (by omega)]; congr 1; omega
    have hz : (opt - i) * (n + 1) < 32768 := by rw [← cy_z (by omega)]; omega
    have I := ih (i + 1) (by omega)
    rw [show b + (i + 1) * (n + 1) = b + i * (n + 1) + 1 + n by rw [Nat.succ_mul]; omega] at I
    refine br_f (nI_ge (by omega) (by omega)) (nm_r e1 ?_)
    by_cases e : kk = 12
    · have ek : nI kk = 12 := by rw [e]; rfl
      refine br_t ek (br_t ek ?_)
      unfold wY_quantify_347
      refine cy_emit (by omega) (cy_Bn (n := 3) (by omega)) (cy_Bn (n := 0) (by omega)) (cy_Sn hz) (cy_Sn (n := 1) (by omega)) ?_
      refine cy_paste (by omega) B1 B2 S1 S2 (nm_r (nI_1 i) ?_)
      have f1 : cy_p2 b_one b_copyOne (fun i => if kk = 12 then nI ((opt - i) * (n + 1)) else 1) b n (i + 1) = cy_ps (upd (cy_p2 b_one b_copyOne (fun i => if kk = 12 then nI ((opt - i) * (n + 1)) else 1) b n i) (b + i * (n + 1)) (nI ((opt - i) * (n + 1)))) b_copyOne (b + i * (n + 1) + 1) n := by
        show cy_ps (upd _ _ (if kk = 12 then _ else _)) _ _ _ = _
        rw [if_pos e]
      have f2 : cy_p2 b_two b_copyTwo (fun i => if kk = 12 then 1 else nI ((opt - i) * (n + 1))) b n (i + 1) = cy_ps (upd (cy_p2 b_two b_copyTwo (fun i => if kk = 12 then 1 else nI ((opt - i) * (n + 1))) b n i) (b + i * (n + 1)) 1) b_copyTwo (b + i * (n + 1) + 1) n := by
        show cy_ps (upd _ _ (if kk = 12 then _ else _)) _ _ _ = _
        rw [if_pos e]
      rw [f1, f2] at I
      exact I
    · have ek : ¬ nI kk = 12 := fun h => e ((nI_eq (b := 12) (by omega) (by omega)).mp h)
      refine br_f ek (br_f ek ?_)
      unfold wY_quantify_347
      refine cy_emit (by omega) (cy_Bn (n := 3) (by omega)) (cy_Bn (n := 0) (by omega)) (cy_Sn (n := 1) (by omega)) (cy_Sn hz) ?_
      refine cy_paste (by omega) B1 B2 S1 S2 (nm_r (nI_1 i) ?_)
      have f1 : cy_p2 b_one b_copyOne (fun i => if kk = 12 then nI ((opt - i) * (n + 1)) else 1) b n (i + 1) = cy_ps (upd (cy_p2 b_one b_copyOne (fun i => if kk = 12 then nI ((opt - i) * (n + 1)) else 1) b n i) (b + i * (n + 1)) 1) b_copyOne (b + i * (n + 1) + 1) n := by
        show cy_ps (upd _ _ (if kk = 12 then _ else _)) _ _ _ = _
        rw [if_neg e]
      have f2 : cy_p2 b_two b_copyTwo (fun i => if kk = 12 then 1 else nI ((opt - i) * (n + 1))) b n (i + 1) = cy_ps (upd (cy_p2 b_two b_copyTwo (fun i => if kk = 12 then 1 else nI ((opt - i) * (n + 1))) b n i) (b + i * (n + 1)) (nI ((opt - i) * (n + 1)))) b_copyTwo (b + i * (n + 1) + 1) n := by
        show cy_ps (upd _ _ (if kk = 12 then _ else _)) _ _ _ = _
        rw [if_neg e]
      rw [f1, f2] at I
      exact I
theorem cy_q269 {post : SY → Prop} {kk o n least opt : Nat} {x5 : Int32} (hk : kk ≤ 15) (hl : least ≤ 4) (ho : opt ≤ 4) (hn : o + least * n + opt * (n + 1) ≤ 160) (B1 : ∀ j, j < n → cy_B (b_copyOp j)) (B2 : ∀ j, j < n → cy_B (b_copyWith j)) (S1 : ∀ j, j < n → cy_S (b_copyOne j)) (S2 : ∀ j, j < n → cy_S (b_copyTwo j))
    (h : ∃ k, wY_quantify_304 post (nI kk) (nI opt) x5 (nI n) (nI (o + least * n + opt * (n + 1))) k 0 g_count g_place (nI (o + least * n)) g_size 0 g_ready g_depth g_groups g_atom g_atomSize g_length g_found b_kind b_value (cy_p1 b_op b_copyOp o n least) (cy_p1 b_with b_copyWith o n least) (cy_p1 b_one b_copyOne o n least) (cy_p1 b_two b_copyTwo o n least) b_copyOp b_copyWith b_copyOne b_copyTwo b_opened b_branch b_sizes b_jumps b_groupOf b_text b_met b_todo b_notes) : ∀ (d i : Nat), i + d = least →
    wY_quantify_269 post (nI kk) (nI least) (nI opt) x5 (nI n) (d + 1) (nI i) g_count g_place (nI (o + i * n)) g_size 0 g_ready g_depth g_groups g_atom g_atomSize g_length g_found b_kind b_value (cy_p1 b_op b_copyOp o n i) (cy_p1 b_with b_copyWith o n i) (cy_p1 b_one b_copyOne o n i) (cy_p1 b_two b_copyTwo o n i) b_copyOp b_copyWith b_copyOne b_copyTwo b_opened b_branch b_sizes b_jumps b_groupOf b_text b_met b_todo b_notes := by
  intro d
  induction d with
  | zero =>
    intro i hi
    obtain rfl : i = least := by omega
    refine br_t (nI_le (Nat.le_refl _) (by omega)) (nm_r ?_ h)
    rw [nI_1, pk_mul, nI_add]
  | succ d ih =>
    intro i hi
    have hm : i * n + n ≤ least * n := by
      have : (i + 1) * n ≤ least * n := Nat.mul_le_mul_right n (by omega)
      rw [Nat.succ_mul] at this; omega
    refine br_f (nI_ge (by omega) (by omega)) ?_
    refine cy_paste (by omega) B1 B2 S1 S2 (nm_r (nI_1 i) ?_)
    have I := ih (i + 1) (by omega)
    rw [show o + (i + 1) * n = o + i * n + n by rw [Nat.succ_mul]; omega] at I
    exact I
end YR
