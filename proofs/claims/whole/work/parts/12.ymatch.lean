section YM
/-! the reference's search -/
theorem ym_bit {x : Int64} {a : Nat} (h : a < 64) : ((x >>> ((nI a).toInt64 &&& 63)) &&& 1) = 0 ↔ mt_sn x a = false := by
  have e : ((x >>> ((nI a).toInt64 &&& 63)) &&& 1).toBitVec.getLsbD 0 = mt_sn x a := by
    rw [wb_c a h, Int64.toBitVec_and, Int64.toBitVec_shiftRight, BitVec.getLsbD_and]
    show ((x.toBitVec.sshiftRight ((BitVec.ofNat 64 a).smod 64).toNat).getLsbD 0 && _) = _
    rw [wb_sm a h, BitVec.toNat_ofNat, Nat.mod_eq_of_lt (show a < 2 ^ 64 by omega), BitVec.getLsbD_sshiftRight]
    simp [mt_sn, h]
  constructor
  · intro h0
    rw [← e, h0]; rfl
  · intro h0
    rw [h0] at e
    apply Int64.toBitVec_inj.mp
    apply BitVec.eq_of_getLsbD_eq
    intro i hi
    by_cases hz : i = 0
    · rw [hz, e]; rfl
    · have h1 : (1 : Int64).toBitVec = 1#64 := rfl
      have h2 : (0 : Int64).toBitVec = 0#64 := rfl
      rw [Int64.toBitVec_and, BitVec.getLsbD_and, h1, h2]
      simp [hz]
theorem ym_b1 : ∀ a, a < 128 → (nI a).toInt8.toInt32.toInt8.toInt32 = nI a := by decide +kernel
theorem ym_nb {a : Nat} (h : a < 128) : vp_nar .byte (nI a).toInt8.toInt32 = nI a := by rw [vp_nar_byte]; exact ym_b1 a h
theorem ym_b2 : ∀ a, a < 64 → (nI a - 1).toInt8.toInt32.toInt8.toInt32 = nI a - 1 := by decide +kernel
theorem ym_nm {a : Nat} (h : a < 64) : vp_nar .byte (nI a - 1).toInt8.toInt32 = nI a - 1 := by rw [vp_nar_byte]; exact ym_b2 a h
theorem ym_or (a b : Nat) : nI a ||| nI b = nI (a ||| b) := by
  apply Int32.toBitVec_inj.1
  show BitVec.ofNat 32 a ||| BitVec.ofNat 32 b = BitVec.ofNat 32 (a ||| b)
  apply BitVec.eq_of_getLsbD_eq
  intro i hi
  simp [Nat.testBit_or, hi]
theorem ym_t1 {t a : Nat} (ht : t ≤ 160) (ha : a < 64) : (nI t <<< ((6 : Int32) &&& 31)) ||| nI a = nI (64 * t + a) := by
  rw [pk_shlN _ 6 (by decide) (by omega), ym_or]
  congr 1
  rw [Nat.mul_comm t, ← Nat.two_pow_add_eq_or_of_lt (i := 6) ha]
theorem ym_t2 {t a : Nat} (ht : t ≤ 160) (ha : a < 64) : nI (64 * t + a) >>> ((6 : Int32) &&& 31) = nI t := by
  rw [pk_shrN (by omega) _ 6 (by decide)]
  congr 1
  omega
theorem ym_t3 {t a : Nat} (ht : t ≤ 160) (ha : a < 64) : nI (64 * t + a) &&& 63 = nI a := by
  rw [pk_andN (by omega) 6 (by decide)]
  congr 1
  omega
theorem ym_u1 : ∀ o, o < 34 → ∀ k, k < 6 → (((nI o - 1) + 2) <<< ((3 : Int32) &&& 31)) ||| nI (k + 2) = nI (8 * (o + 1) + (k + 2)) := by decide +kernel
theorem ym_u2 : ∀ o, o < 34 → ∀ k, k < 6 → ¬ (0 : Int32) ≤ -(nI (8 * (o + 1) + (k + 2))) := by decide +kernel
theorem ym_u3 : ∀ o, o < 34 → ∀ k, k < 6 → (-(-(nI (8 * (o + 1) + (k + 2))))) &&& 7 = nI (k + 2) := by decide +kernel
theorem ym_u4 : ∀ o, o < 34 → ∀ k, k < 6 → ((-(-(nI (8 * (o + 1) + (k + 2))))) >>> ((3 : Int32) &&& 31)) - 2 = nI o - 1 := by decide +kernel
theorem ym_c {f : Nat → Int32} {i : Nat} {k : Int32} (hi : i < 160) (h : f i = k) : f (nI i).toNatClampNeg = k := by rw [nI_clamp (by omega)]; exact h
theorem ym_n {f : Nat → Int32} {i : Nat} {k k' : Int32} (hi : i < 160) (h : f i = k) (hne : ¬ k = k') : ¬ f (nI i).toNatClampNeg = k' := by rw [ym_c hi h]; exact hne
theorem ym_b0 {s : Nat → Int64} {p a : Nat} (hp : p < 160) (ha : a < 33) (hs : mt_sn (s p) a = false) : (((s (nI p).toNatClampNeg) >>> ((nI a).toInt64 &&& 63)) &&& 1) = 0 := by
  rw [nI_clamp (by omega), ym_bit (by omega)]; exact hs
theorem ym_bn {s : Nat → Int64} {p a : Nat} (hp : p < 160) (ha : a < 33) (hs : mt_sn (s p) a = true) : ¬ (((s (nI p).toNatClampNeg) >>> ((nI a).toInt64 &&& 63)) &&& 1) = 0 := by
  rw [nI_clamp (by omega), ym_bit (by omega), hs]; decide
def ym_e (e : mt_E) : Int32 := if e.1 = true then -(nI (8 * (e.2.2 + 1) + (e.2.1 + 2))) else nI (64 * e.2.1 + e.2.2)
def ym_T (todo : Nat → Int32) : List mt_E → Prop
  | [] => True
  | e :: st => todo st.length = ym_e e ∧ ym_T todo st
theorem ym_T_f {todo todo' : Nat → Int32} : ∀ st : List mt_E, (∀ j, j < st.length → todo' j = todo j) → ym_T todo st → ym_T todo' st
  | [], _, _ => trivial
  | e :: st, h, H => ⟨(h st.length (by simp)).trans H.1, ym_T_f st (fun j hj => h j (by simp only [List.length_cons]; omega)) H.2⟩
theorem ym_T_p {todo : Nat → Int32} {st : List mt_E} {e : mt_E} {x : Int32} (hx : x = ym_e e) (h : ym_T todo st) : ym_T (upd todo st.length x) (e :: st) :=
  ⟨(if_pos rfl).trans hx, ym_T_f st (fun _ hj => if_neg (Nat.ne_of_lt hj)) h⟩
def ym_P0 (g_count g_place g_end g_size g_large g_ready g_depth g_groups g_atom g_atomSize g_length g_found : Int32) (b_kind b_value b_op b_with b_one b_two b_copyOp b_copyWith b_copyOne b_copyTwo b_opened b_branch b_sizes b_jumps b_groupOf b_text : Nat → Int32) (b_met : Nat → Int64) (b_todo b_notes : Nat → Int32) (post : Int32 → SY → Prop) : Prop := ∀ (met : Nat → Int64) (todo no : Nat → Int32), post 0 (g_count, g_place, g_end, g_size, g_large, g_ready, g_depth, g_groups, g_atom, g_atomSize, g_length, g_found, b_kind, b_value, b_op, b_with, b_one, b_two, b_copyOp, b_copyWith, b_copyOne, b_copyTwo, b_opened, b_branch, b_sizes, b_jumps, b_groupOf, b_text, met, todo, no)
def ym_P1 (g_count g_place g_end g_size g_large g_ready g_depth g_groups g_atom g_atomSize g_length g_found : Int32) (b_kind b_value b_op b_with b_one b_two b_copyOp b_copyWith b_copyOne b_copyTwo b_opened b_branch b_sizes b_jumps b_groupOf b_text : Nat → Int32) (b_met : Nat → Int64) (b_todo b_notes : Nat → Int32) (post : Int32 → SY → Prop) (a : Nat) (no : Nat → Int32) : Prop := ∀ (met : Nat → Int64) (todo no' : Nat → Int32), (∀ j, j < 8 → no' j = no j) → post 1 (g_count, g_place, g_end, g_size, g_large, g_ready, g_depth, g_groups, g_atom, g_atomSize, g_length, g_found, b_kind, b_value, b_op, b_with, b_one, b_two, b_copyOp, b_copyWith, b_copyOne, b_copyTwo, b_opened, b_branch, b_sizes, b_jumps, b_groupOf, b_text, met, todo, upd no' 1 (nI a))
theorem ym_ag {s s' : Nat → Int64} {E q a : Nat} (h : ∀ p, p ≤ E → s' p = s p) : ∀ p, p ≤ E → mt_mk s' q a p = mt_mk s q a p := by
  intro p hp
  by_cases e : p = q
  · subst e
    show (if p = p then s' p ||| lN (2 ^ a) else s' p) = (if p = p then s p ||| lN (2 ^ a) else s p)
    rw [h p hp]
  · rw [mt_mk_n e, mt_mk_n e, h p hp]
theorem ym_au {f g : Nat → Int32} {k : Nat} {x : Int32} (h : ∀ j, j < 8 → f j = g j) : ∀ j, j < 8 → upd f k x j = upd g k x j := by
  intro j hj
  unfold upd
  rw [h j hj]
def ym_WO (g_count g_place g_end g_size g_large g_ready g_depth g_groups g_atom g_atomSize g_length g_found : Int32) (b_kind b_value b_op b_with b_one b_two b_copyOp b_copyWith b_copyOne b_copyTwo b_opened b_branch b_sizes b_jumps b_groupOf b_text : Nat → Int32) (b_met : Nat → Int64) (b_todo b_notes : Nat → Int32) (E : Nat) (x2 : Int32) (Q : Option (Nat × (Nat → Int32)) → Prop) (f : Nat) (met : Nat → Int64) (YL : List mt_E) (no : Nat → Int32) : Prop :=
  ∀ (met' : Nat → Int64) (no' : Nat → Int32), (∀ j, j ≤ E → met' j = met j) → (∀ j, j < 8 → no' j = no j) → ∀ (post : Int32 → SY → Prop), (Q none → ym_P0 g_count g_place g_end g_size g_large g_ready g_depth g_groups g_atom g_atomSize g_length g_found b_kind b_value b_op b_with b_one b_two b_copyOp b_copyWith b_copyOne b_copyTwo b_opened b_branch b_sizes b_jumps b_groupOf b_text b_met b_todo b_notes post) → (∀ a no, Q (some (a, no)) → ym_P1 g_count g_place g_end g_size g_large g_ready g_depth g_groups g_atom g_atomSize g_length g_found b_kind b_value b_op b_with b_one b_two b_copyOp b_copyWith b_copyOne b_copyTwo b_opened b_branch b_sizes b_jumps b_groupOf b_text b_met b_todo b_notes post a no) → ∀ (todo : Nat → Int32) (N : Nat), ym_T todo YL → f ≤ N →
    wY_search_64 post x2 g_count g_place g_end g_size g_large g_ready g_depth g_groups g_atom g_atomSize g_length g_found N (nI YL.length) b_kind b_value b_op b_with b_one b_two b_copyOp b_copyWith b_copyOne b_copyTwo b_opened b_branch b_sizes b_jumps b_groupOf b_text met' todo no'
def ym_WI (g_count g_place g_end g_size g_large g_ready g_depth g_groups g_atom g_atomSize g_length g_found : Int32) (b_kind b_value b_op b_with b_one b_two b_copyOp b_copyWith b_copyOne b_copyTwo b_opened b_branch b_sizes b_jumps b_groupOf b_text : Nat → Int32) (b_met : Nat → Int64) (b_todo b_notes : Nat → Int32) (E : Nat) (x2 : Int32) (Q : Option (Nat × (Nat → Int32)) → Prop) (f : Nat) (met : Nat → Int64) (YL : List mt_E) (no : Nat → Int32) (i a : Nat) : Prop :=
  ∀ (met' : Nat → Int64) (no' : Nat → Int32), (∀ j, j ≤ E → met' j = met j) → (∀ j, j < 8 → no' j = no j) → ∀ (post : Int32 → SY → Prop), (Q none → ym_P0 g_count g_place g_end g_size g_large g_ready g_depth g_groups g_atom g_atomSize g_length g_found b_kind b_value b_op b_with b_one b_two b_copyOp b_copyWith b_copyOne b_copyTwo b_opened b_branch b_sizes b_jumps b_groupOf b_text b_met b_todo b_notes post) → (∀ a no, Q (some (a, no)) → ym_P1 g_count g_place g_end g_size g_large g_ready g_depth g_groups g_atom g_atomSize g_length g_found b_kind b_value b_op b_with b_one b_two b_copyOp b_copyWith b_copyOne b_copyTwo b_opened b_branch b_sizes b_jumps b_groupOf b_text b_met b_todo b_notes post a no) → ∀ (todo : Nat → Int32) (n N : Nat), ym_T todo YL → f + 2 ≤ n → f ≤ N →
    wY_search_120 post (wY_search_64 post x2 g_count g_place g_end g_size g_large g_ready g_depth g_groups g_atom g_atomSize g_length g_found N) x2 g_count g_place g_end g_size g_large g_ready g_depth g_groups g_atom g_atomSize g_length g_found n (nI YL.length) (nI i) (nI a) b_kind b_value b_op b_with b_one b_two b_copyOp b_copyWith b_copyOne b_copyTwo b_opened b_branch b_sizes b_jumps b_groupOf b_text met' todo no'
variable {g_count g_place g_end g_size g_large g_ready g_depth g_groups g_atom g_atomSize g_length g_found : Int32} {b_kind b_value b_op b_with b_one b_two b_copyOp b_copyWith b_copyOne b_copyTwo b_opened b_branch b_sizes b_jumps b_groupOf b_text : Nat → Int32} {b_met : Nat → Int64} {b_todo b_notes : Nat → Int32}
theorem ym_fail {post : Int32 → SY → Prop} {x2 x6 : Int32} {Q : Option (Nat × (Nat → Int32)) → Prop} {f n N E : Nat} {met met' : Nat → Int64} {YL : List mt_E} {no no' todo : Nat → Int32} (hm : ∀ j, j ≤ E → met' j = met j) (ho : ∀ j, j < 8 → no' j = no j) (h0 : Q none → ym_P0 g_count g_place g_end g_size g_large g_ready g_depth g_groups g_atom g_atomSize g_length g_found b_kind b_value b_op b_with b_one b_two b_copyOp b_copyWith b_copyOne b_copyTwo b_opened b_branch b_sizes b_jumps b_groupOf b_text b_met b_todo b_notes post) (h1 : ∀ a no, Q (some (a, no)) → ym_P1 g_count g_place g_end g_size g_large g_ready g_depth g_groups g_atom g_atomSize g_length g_found b_kind b_value b_op b_with b_one b_two b_copyOp b_copyWith b_copyOne b_copyTwo b_opened b_branch b_sizes b_jumps b_groupOf b_text b_met b_todo b_notes post a no) (hT : ym_T todo YL) (hn : 1 ≤ n) (hN : f ≤ N)
    (h : ym_WO g_count g_place g_end g_size g_large g_ready g_depth g_groups g_atom g_atomSize g_length g_found b_kind b_value b_op b_with b_one b_two b_copyOp b_copyWith b_copyOne b_copyTwo b_opened b_branch b_sizes b_jumps b_groupOf b_text b_met b_todo b_notes E x2 Q f met YL no) : wY_search_120 post (wY_search_64 post x2 g_count g_place g_end g_size g_large g_ready g_depth g_groups g_atom g_atomSize g_length g_found N) x2 g_count g_place g_end g_size g_large g_ready g_depth g_groups g_atom g_atomSize g_length g_found n (nI YL.length) (-1) x6 b_kind b_value b_op b_with b_one b_two b_copyOp b_copyWith b_copyOne b_copyTwo b_opened b_branch b_sizes b_jumps b_groupOf b_text met' todo no' := by
  obtain ⟨n, rfl⟩ : ∃ k, n = k + 1 := ⟨n - 1, by omega⟩
  exact br_t (by decide) (h met' no' hm ho post h0 h1 todo N hT hN)
/-- behind a mark: a single instruction goes on, or not -/
theorem ym_goon {post : Int32 → SY → Prop} {J64 : Int32 → (Nat → Int32) → (Nat → Int32) → (Nat → Int32) → (Nat → Int32) → (Nat → Int32) → (Nat → Int32) → (Nat → Int32) → (Nat → Int32) → (Nat → Int32) → (Nat → Int32) → (Nat → Int32) → (Nat → Int32) → (Nat → Int32) → (Nat → Int32) → (Nat → Int32) → (Nat → Int32) → (Nat → Int64) → (Nat → Int32) → (Nat → Int32) → Prop}
    {J120 : Int32 → Int32 → Int32 → (Nat → Int32) → (Nat → Int32) → (Nat → Int32) → (Nat → Int32) → (Nat → Int32) → (Nat → Int32) → (Nat → Int32) → (Nat → Int32) → (Nat → Int32) → (Nat → Int32) → (Nat → Int32) → (Nat → Int32) → (Nat → Int32) → (Nat → Int32) → (Nat → Int32) → (Nat → Int32) → (Nat → Int64) → (Nat → Int32) → (Nat → Int32) → Prop}
    {x2 x3 : Int32} {i t a : Nat} {k : Int32} (hi : i < 160) (hk : b_op i = k) (h0 : ¬ k = 0) (h1 : ¬ k = 1) (h2 : ¬ k = 2) (ht : nI i + b_one i = nI t)
    (h : J120 x3 (nI t) (nI a) b_kind b_value b_op b_with b_one b_two b_copyOp b_copyWith b_copyOne b_copyTwo b_opened b_branch b_sizes b_jumps b_groupOf b_text b_met b_todo b_notes) : wY_search_326 post J64 J120 x2 x3 (nI i) (nI a) g_count g_place g_end g_size g_large g_ready g_depth g_groups g_atom g_atomSize g_length g_found b_kind b_value b_op b_with b_one b_two b_copyOp b_copyWith b_copyOne b_copyTwo b_opened b_branch b_sizes b_jumps b_groupOf b_text b_met b_todo b_notes := by
  have hv : vp_in (nI i) 160 := vp_in_nI hi (by omega)
  exact ⟨hv, br_f (ym_n hi hk h0) ⟨hv, br_f (ym_n hi hk h1) ⟨hv, br_f (ym_n hi hk h2) ⟨hv, br_f (ym_n hi hk h0) (br_f (by decide) ⟨hv, nm_r (by rw [ym_c (f := b_one) hi rfl]; exact ht) h⟩)⟩⟩⟩⟩
theorem ym_single {post : Int32 → SY → Prop} {J64 : Int32 → (Nat → Int32) → (Nat → Int32) → (Nat → Int32) → (Nat → Int32) → (Nat → Int32) → (Nat → Int32) → (Nat → Int32) → (Nat → Int32) → (Nat → Int32) → (Nat → Int32) → (Nat → Int32) → (Nat → Int32) → (Nat → Int32) → (Nat → Int32) → (Nat → Int32) → (Nat → Int32) → (Nat → Int64) → (Nat → Int32) → (Nat → Int32) → Prop}
    {J120 : Int32 → Int32 → Int32 → (Nat → Int32) → (Nat → Int32) → (Nat → Int32) → (Nat → Int32) → (Nat → Int32) → (Nat → Int32) → (Nat → Int32) → (Nat → Int32) → (Nat → Int32) → (Nat → Int32) → (Nat → Int32) → (Nat → Int32) → (Nat → Int32) → (Nat → Int32) → (Nat → Int32) → (Nat → Int32) → (Nat → Int64) → (Nat → Int32) → (Nat → Int32) → Prop}
    {x2 x3 : Int32} {i a n : Nat} (hi : i < 159) (hn : n ≤ 32) (ha : a ≤ n) (hk : b_op i = 0 ∨ b_op i = 1 ∨ b_op i = 2)
    (hg : mt_go n (xm_ft b_text) (b_op i) (b_with i) a → b_one i = 1 ∧ J120 x3 (nI (i + 1)) (nI (mt_nx (b_op i) a)) b_kind b_value b_op b_with b_one b_two b_copyOp b_copyWith b_copyOne b_copyTwo b_opened b_branch b_sizes b_jumps b_groupOf b_text b_met b_todo b_notes) (hf : ¬ mt_go n (xm_ft b_text) (b_op i) (b_with i) a → ∀ y : Int32, y = nI a → J120 x3 (-1) y b_kind b_value b_op b_with b_one b_two b_copyOp b_copyWith b_copyOne b_copyTwo b_opened b_branch b_sizes b_jumps b_groupOf b_text b_met b_todo b_notes) : wY_search_266 post J64 J120 x2 x3 (nI i) (nI a) g_count g_place g_end g_size g_large g_ready g_depth g_groups g_atom g_atomSize (nI n) g_found b_kind b_value b_op b_with b_one b_two b_copyOp b_copyWith b_copyOne b_copyTwo b_opened b_branch b_sizes b_jumps b_groupOf b_text b_met b_todo b_notes := by
  have hv : vp_in (nI i) 160 := vp_in_nI (by omega) (by omega)
  have h160 : i < 160 := by omega
  have ho : b_one i = 1 → nI i + b_one (nI i).toNatClampNeg = nI (i + 1) := fun h => by rw [ym_c h160 h, nI_1]
  rcases hk with hk | hk | hk
  · refine ⟨hv, br_f (ym_n h160 hk (by decide)) ⟨hv, br_t (ym_c h160 hk) ⟨hv, br_f (ym_n h160 hk (by decide)) ⟨hv, br_f (ym_n h160 hk (by decide)) ⟨hv, br_t (ym_c h160 hk) ?_⟩⟩⟩⟩⟩
    by_cases e : a < n
    · refine br_f (nI_ge e (by omega)) ⟨hv, vp_in_nI (by omega) (by omega), ?_⟩
      rw [ym_c (f := b_with) h160 rfl, nI_clamp (n := a) (by omega)]
      by_cases e2 : xm_ft b_text (b_with i) a
      · obtain ⟨g1, g2⟩ := hg (Or.inl ⟨hk, e, e2⟩)
        rw [hk, show mt_nx 0 a = a + 1 from rfl] at g2
        exact br_f e2 (nm_r (nI_1 a) (br_f (by decide) ⟨hv, nm_r (ho g1) g2⟩))
      · refine br_t (Classical.byContradiction (fun h => e2 h)) (br_t rfl (hf ?_ _ rfl))
        rw [hk]
        intro h
        rcases h with ⟨_, _, h⟩ | ⟨h, _⟩ | ⟨h, _⟩
        · exact e2 h
        · exact absurd h (by decide)
        · exact absurd h (by decide)
    · refine br_t (nI_le (by omega) (by omega)) (br_t rfl (hf ?_ _ rfl))
      rw [hk]
      intro h
      rcases h with ⟨_, h, _⟩ | ⟨h, _⟩ | ⟨h, _⟩
      · exact e h
      · exact absurd h (by decide)
      · exact absurd h (by decide)
  · refine ⟨hv, br_f (ym_n h160 hk (by decide)) ⟨hv, br_f (ym_n h160 hk (by decide)) ⟨hv, br_t (ym_c h160 hk) ⟨hv, br_t (ym_c h160 hk) (pk_eq a 0 (fun e => ?_) (fun e => ?_))⟩⟩⟩⟩
    · obtain ⟨g1, g2⟩ := hg (Or.inr (Or.inl ⟨hk, e⟩))
      rw [hk, show mt_nx 1 a = a from rfl] at g2
      exact ⟨hv, br_f (ym_n h160 hk (by decide)) (br_f (by decide) ⟨hv, nm_r (ho g1) g2⟩)⟩
    · refine ⟨hv, br_f (ym_n h160 hk (by decide)) ⟨hv, br_f (ym_n h160 hk (by decide)) (br_t rfl (hf ?_ _ rfl))⟩⟩
      rw [hk]
      intro h
      rcases h with ⟨h, _⟩ | ⟨_, h⟩ | ⟨h, _⟩
      · exact absurd h (by decide)
      · exact e h
      · exact absurd h (by decide)
  · refine ⟨hv, br_f (ym_n h160 hk (by decide)) ⟨hv, br_f (ym_n h160 hk (by decide)) ⟨hv, br_f (ym_n h160 hk (by decide)) ⟨hv, br_t (ym_c h160 hk) ⟨hv, br_f (ym_n h160 hk (by decide)) ⟨hv, br_t (ym_c h160 hk) (pk_eq a n (fun e => ?_) (fun e => ?_))⟩⟩⟩⟩⟩⟩
    · obtain ⟨g1, g2⟩ := hg (Or.inr (Or.inr ⟨hk, e⟩))
      rw [hk, show mt_nx 2 a = a from rfl] at g2
      exact ⟨hv, br_f (ym_n h160 hk (by decide)) (br_f (by decide) ⟨hv, nm_r (ho g1) g2⟩)⟩
    · refine ⟨hv, br_f (ym_n h160 hk (by decide)) (br_t rfl (hf ?_ _ rfl))⟩
      rw [hk]
      intro h
      rcases h with ⟨h, _⟩ | ⟨h, _⟩ | ⟨_, h⟩
      · exact absurd h (by decide)
      · exact absurd h (by decide)
      · exact e h
end YM
