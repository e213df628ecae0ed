section
/-! rows of kit/rows, as given for pasting -/
theorem pk_us {f : Nat → Int32} {k : Nat} {x : Int32} : upd f k x k = x := if_pos rfl
theorem pk_un {f : Nat → Int32} {k j : Nat} {x : Int32} (h : j ≠ k) : upd f k x j = f j := if_neg h
theorem pk_uLs {f : Nat → Int64} {k : Nat} {x : Int64} : vp_updL f k x k = x := if_pos rfl
theorem pk_uLn {f : Nat → Int64} {k j : Nat} {x : Int64} (h : j ≠ k) : vp_updL f k x j = f j := if_neg h
theorem pk_sub {a b : Nat} (h : b ≤ a) : nI a - nI b = nI (a - b) := by
  obtain ⟨c, rfl⟩ : ∃ c, a = c + b := ⟨a - b, by omega⟩
  rw [← nI_add, Int32.add_sub_cancel, Nat.add_sub_cancel]
theorem pk_m1 (n : Nat) : nI (n + 1) + (-1) = nI n := by
  rw [← nI_1, Int32.add_assoc, show (1 : Int32) + (-1) = 0 from rfl, Int32.add_zero]
theorem pk_mul (a b : Nat) : nI a * nI b = nI (a * b) := (Int32.ofNat_mul a b).symm
theorem pk_div {a d : Nat} (ha : a < 2 ^ 31) (h0 : 0 < d) (hd : d < 2 ^ 31) : nI a / nI d = nI (a / d) := by
  apply Int32.toInt_inj.mp
  rw [lg_idiv_nonneg (by rw [nI_toInt ha]; omega) (by rw [nI_toInt hd]; omega), nI_toInt ha, nI_toInt hd, nI_toInt (Nat.lt_of_le_of_lt (Nat.div_le_self a d) ha)]
  first | rfl | exact (Int.natCast_ediv _ _).symm
theorem pk_rem {a d : Nat} (ha : a < 2 ^ 31) (h0 : 0 < d) (hd : d < 2 ^ 31) : nI a - nI a / nI d * nI d = nI (a % d) := by
  rw [pk_div ha h0 hd, pk_mul, pk_sub (Nat.div_mul_le_self a d)]
  exact congrArg nI (by have := Nat.div_add_mod' a d; omega)
theorem pk_sub_toInt {a b : Nat} (ha : a < 2 ^ 30) (hb : b < 2 ^ 30) : (nI a - nI b).toInt = (a : Int) - b := by
  rw [Int32.toInt_sub, nI_toInt (by omega), nI_toInt (by omega)]
  exact Int.bmod_eq_of_le (by omega) (by omega)
theorem pk_sneg {a b : Nat} (hb : b < 2 ^ 30) (h : a < b) : nI a - nI b < 0 := by
  rw [Int32.lt_iff_toInt_lt, pk_sub_toInt (by omega) hb, show (0 : Int32).toInt = 0 from by decide]
  omega
theorem pk_ix (x : Int32) {n : Nat} (hn : n < 2 ^ 31) : x < 0 ∨ nI n ≤ x ∨ ∃ j : Nat, j < n ∧ x = nI j := by
  by_cases h : x < 0
  · exact Or.inl h
  · obtain ⟨j, hj, rfl⟩ := nI_of h
    by_cases h2 : j < n
    · exact Or.inr (Or.inr ⟨j, h2, rfl⟩)
    · exact Or.inr (Or.inl (nI_le (by omega) hj))
theorem pk_le {x y : Int32} {A B : Prop} (a b : Nat) (f : a ≤ b → A) (g : b < a → B) (hx : x = nI a := by rfl) (hy : y = nI b := by rfl) (ha : a < 2 ^ 31 := by omega) (hb : b < 2 ^ 31 := by omega) : (x ≤ y → A) ∧ (¬ x ≤ y → B) := by
  subst hx hy
  rw [nI_leI ha hb]
  exact ⟨f, fun z => g (by omega)⟩
theorem pk_lt {x y : Int32} {A B : Prop} (a b : Nat) (f : a < b → A) (g : b ≤ a → B) (hx : x = nI a := by rfl) (hy : y = nI b := by rfl) (ha : a < 2 ^ 31 := by omega) (hb : b < 2 ^ 31 := by omega) : (x < y → A) ∧ (¬ x < y → B) := by
  subst hx hy
  rw [nI_ltI ha hb]
  exact ⟨f, fun z => g (by omega)⟩
theorem pk_eq {x y : Int32} {A B : Prop} (a b : Nat) (f : a = b → A) (g : a ≠ b → B) (hx : x = nI a := by rfl) (hy : y = nI b := by rfl) (ha : a < 2 ^ 31 := by omega) (hb : b < 2 ^ 31 := by omega) : (x = y → A) ∧ (¬ x = y → B) := by
  subst hx hy
  rw [nI_eq ha hb]
  exact ⟨f, g⟩
theorem pk_in {x : Int32} (n N : Nat) (h : n < N) (hx : x = nI n := by rfl) (hN : N < 2 ^ 31 := by omega) : vp_in x N := by
  subst hx
  exact vp_in_nI h hN
theorem pk_cl {x : Int32} (n : Nat) (hx : x = nI n := by rfl) (h : n < 2 ^ 31 := by omega) : x.toNatClampNeg = n := by
  subst hx
  exact nI_clamp h
theorem pk_tn {n : Nat} (h : n < 2 ^ 32) : (nI n).toBitVec.toNat = n := Nat.mod_eq_of_lt h
theorem pk_and (x : Int32) {m : Int32} (k : Nat) (hm : m.toBitVec.toNat = 2 ^ k - 1) : x &&& m = nI (x.toBitVec.toNat % 2 ^ k) := by
  apply Int32.toBitVec_inj.mp
  apply BitVec.eq_of_toNat_eq
  rw [Int32.toBitVec_and, BitVec.toNat_and, hm, Nat.and_two_pow_sub_one_eq_mod]
  show _ = (BitVec.ofNat 32 _).toNat
  rw [BitVec.toNat_ofNat]
  exact (Nat.mod_eq_of_lt (Nat.lt_of_le_of_lt (Nat.mod_le _ _) x.toBitVec.isLt)).symm
theorem pk_andN {n : Nat} (h : n < 2 ^ 32) {m : Int32} (k : Nat) (hm : m.toBitVec.toNat = 2 ^ k - 1) : nI n &&& m = nI (n % 2 ^ k) := by
  rw [pk_and _ k hm, pk_tn h]
theorem pk_andE (x : Int32) {m : Int32} (k : Nat) (hm : m.toBitVec.toNat = 2 ^ k - 1) : ∃ j : Nat, j < 2 ^ k ∧ x &&& m = nI j := ⟨_, Nat.mod_lt _ (Nat.two_pow_pos k), pk_and x k hm⟩
theorem pk_andIn (x : Int32) {m : Int32} (k : Nat) (hm : m.toBitVec.toNat = 2 ^ k - 1) (hk : k ≤ 30) : vp_in (x &&& m) (2 ^ k) := by
  obtain ⟨j, hj, e⟩ := pk_andE x k hm
  rw [e]
  exact vp_in_nI hj (Nat.lt_of_le_of_lt (Nat.pow_le_pow_right (by decide) hk) (by decide))
theorem pk_shl (a s : Int32) (k : Nat) (hs : (s.toBitVec.smod 32).toNat = k) : (a <<< s).toBitVec.toNat = a.toBitVec.toNat * 2 ^ k % 2 ^ 32 := by
  show (a.toBitVec <<< (s.toBitVec.smod 32).toNat).toNat = _
  rw [hs, BitVec.toNat_shiftLeft, Nat.shiftLeft_eq]
theorem pk_shlN {n : Nat} (s : Int32) (k : Nat) (hs : (s.toBitVec.smod 32).toNat = k) (h : n * 2 ^ k < 2 ^ 32) : nI n <<< s = nI (n * 2 ^ k) := by
  apply Int32.toBitVec_inj.mp
  apply BitVec.eq_of_toNat_eq
  have hn : n < 2 ^ 32 := Nat.lt_of_le_of_lt (Nat.le_mul_of_pos_right n (Nat.two_pow_pos k)) h
  rw [pk_shl _ _ k hs, pk_tn hn, pk_tn h, Nat.mod_eq_of_lt h]
theorem pk_shr (a s : Int32) (k : Nat) (hs : (s.toBitVec.smod 32).toNat = k) : (a >>> s).toInt = a.toInt >>> k := by
  show (a.toBitVec.sshiftRight (s.toBitVec.smod 32).toNat).toInt = _
  rw [hs, BitVec.toInt_sshiftRight]
  rfl
theorem pk_shrN {n : Nat} (h : n < 2 ^ 31) (s : Int32) (k : Nat) (hs : (s.toBitVec.smod 32).toNat = k) : nI n >>> s = nI (n / 2 ^ k) := by
  apply Int32.toInt_inj.mp
  have h2 : n / 2 ^ k ≤ n := Nat.div_le_self _ _
  rw [pk_shr _ _ k hs, nI_toInt h, nI_toInt (by omega), Int.shiftRight_eq_div_pow]
  rfl
theorem pk_ushr (x s : Int32) (k : Nat) (hs : ((s.toUInt32 &&& Int32.toUInt32 31).toBitVec % 32).toNat = k) : (x.toUInt32 >>> (s.toUInt32 &&& Int32.toUInt32 31)).toInt32.toBitVec.toNat = x.toBitVec.toNat / 2 ^ k := by
  have e : (x.toUInt32 >>> (s.toUInt32 &&& Int32.toUInt32 31)).toInt32.toBitVec = x.toBitVec >>> k := by
    rw [← hs]
    exact UInt32.toBitVec_shiftRight _ _
  rw [e, BitVec.toNat_ushiftRight, Nat.shiftRight_eq_div_pow]
theorem pk_ushrN {n : Nat} (hn : n < 2 ^ 32) (s : Int32) (k : Nat) (hs : ((s.toUInt32 &&& Int32.toUInt32 31).toBitVec % 32).toNat = k) : ((nI n).toUInt32 >>> (s.toUInt32 &&& Int32.toUInt32 31)).toInt32 = nI (n / 2 ^ k) := by
  apply Int32.toBitVec_inj.mp
  apply BitVec.eq_of_toNat_eq
  rw [pk_ushr _ s k hs, pk_tn hn, pk_tn (Nat.lt_of_le_of_lt (Nat.div_le_self _ _) hn)]
theorem pk_nb (z : Int32) : narrow .byte (.int z.toInt8.toInt32) = .int z.toInt8.toInt32 := congrArg Value.int (by simp)
theorem pk_ns (z : Int32) : narrow .short (.int z.toInt16.toInt32) = .int z.toInt16.toInt32 := congrArg Value.int (by simp)
theorem pk_fb (r : Int32) : fits .byte (.int r.toInt8.toInt32) = true := by
  have ⟨a, b⟩ := lg_i2b_range r
  have h1 : (-128 : Int32).toInt = -128 := by decide
  have h2 : (127 : Int32).toInt = 127 := by decide
  simp only [fits, Bool.and_eq_true, decide_eq_true_eq, Int32.le_iff_toInt_le, h1, h2]
  omega
theorem pk_fs (r : Int32) : fits .short (.int r.toInt16.toInt32) = true := by
  have ⟨a, b⟩ := lg_i2s_range r
  have h1 : (-32768 : Int32).toInt = -32768 := by decide
  have h2 : (32767 : Int32).toInt = 32767 := by decide
  simp only [fits, Bool.and_eq_true, decide_eq_true_eq, Int32.le_iff_toInt_le, h1, h2]
  omega
theorem pk_charN {q : Nat} (hq : q < 65536) : narrow .char (.int (nI q)) = .int (nI q) ∧ fits .char (.int (nI q)) = true := by
  constructor
  · have e : (nI q).toUInt32.toUInt16.toUInt32.toInt32 = nI q := by
      apply Int32.toBitVec_inj.mp
      apply BitVec.eq_of_toNat_eq
      show (nI q).toUInt32.toUInt16.toUInt32.toNat = q % 2 ^ 32
      rw [UInt16.toNat_toUInt32, UInt32.toNat_toUInt16, show (nI q).toUInt32.toNat = q % 2 ^ 32 from rfl]
      omega
    exact congrArg Value.int e
  · have a : (0 : Int32) ≤ nI q := nI_pos' (by omega)
    have b : nI q ≤ 65535 := nI_le (b := 65535) (by omega) (by decide)
    show (decide ((0 : Int32) ≤ nI q) && decide (nI q ≤ 65535)) = true
    rw [decide_eq_true a, decide_eq_true b]
    rfl
theorem pk_char (x : Int32) : (x.toUInt32 % 65536).toInt32 = nI (x.toBitVec.toNat % 65536) := by
  apply Int32.toBitVec_inj.mp
  apply BitVec.eq_of_toNat_eq
  rw [pk_tn (by omega)]
  show (x.toUInt32 % 65536).toNat = _
  rw [UInt32.toNat_mod]
  rfl
theorem pk_nc (x : Int32) : narrow .char (.int (x.toUInt32 % 65536).toInt32) = .int (x.toUInt32 % 65536).toInt32 := by
  rw [pk_char]
  exact (pk_charN (Nat.mod_lt _ (by decide))).1
theorem pk_fc (x : Int32) : fits .char (.int (x.toUInt32 % 65536).toInt32) = true := by
  rw [pk_char]
  exact (pk_charN (Nat.mod_lt _ (by decide))).2
theorem pk_vb (z : Int32) : vp_nar .byte z.toInt8.toInt32 = z.toInt8.toInt32 := by rw [vp_nar_byte]; simp
theorem pk_vs (z : Int32) : vp_nar .short z.toInt16.toInt32 = z.toInt16.toInt32 := by rw [vp_nar_short]; simp
theorem pk_vc (z : Int32) : vp_nar .char (z.toUInt32 % 65536).toInt32 = (z.toUInt32 % 65536).toInt32 := Value.int.inj (pk_nc z)
theorem pk_lT {n : Nat} (h : n < 2 ^ 63) : (lN n).toInt = (n : Int) := lg_ofNat_toInt h
theorem pk_lLT {a b : Nat} (ha : a < 2 ^ 63) (hb : b < 2 ^ 63) : lN a < lN b ↔ a < b := by
  rw [Int64.lt_iff_toInt_lt, pk_lT ha, pk_lT hb]; omega
theorem pk_lLE {a b : Nat} (ha : a < 2 ^ 63) (hb : b < 2 ^ 63) : lN a ≤ lN b ↔ a ≤ b := by
  rw [Int64.le_iff_toInt_le, pk_lT ha, pk_lT hb]; omega
theorem pk_lEQ {a b : Nat} (ha : a < 2 ^ 63) (hb : b < 2 ^ 63) : lN a = lN b ↔ a = b := by
  rw [← Int64.toInt_inj, pk_lT ha, pk_lT hb]; omega
theorem pk_lOf {x : Int64} (h : ¬ x < 0) : ∃ k : Nat, k < 2 ^ 63 ∧ x = lN k := by
  rw [Int64.lt_iff_toInt_lt] at h
  have h0 : (0 : Int64).toInt = 0 := by decide
  have hx := Int64.toInt_lt x
  refine ⟨x.toInt.toNat, by omega, Int64.toInt_inj.mp ?_⟩
  rw [pk_lT (by omega)]
  omega
theorem pk_lDiv {a b : Nat} (ha : a < 2 ^ 63) (h0 : 0 < b) (hb : b < 2 ^ 63) : lN a / lN b = lN (a / b) := by
  apply Int64.toInt_inj.mp
  rw [lg_ldiv_nonneg (by rw [pk_lT ha]; omega) (by rw [pk_lT hb]; omega), pk_lT ha, pk_lT hb, pk_lT (Nat.lt_of_le_of_lt (Nat.div_le_self a b) ha)]
  rfl
theorem pk_lRem {a b : Nat} (ha : a < 2 ^ 63) (h0 : 0 < b) (hb : b < 2 ^ 63) : lN a - lN a / lN b * lN b = lN (a % b) := by
  rw [pk_lDiv ha h0 hb, lN_mul, lN_sub (Nat.div_mul_le_self a b)]
  exact congrArg lN (by have := Nat.div_add_mod' a b; omega)
theorem pk_least (P : Nat → Prop) (h : ∃ k, P k) : ∃ k, P k ∧ ∀ j, j < k → ¬ P j := by
  obtain ⟨k, hk⟩ := h
  induction k using Nat.strongRecOn with
  | ind k ih =>
    by_cases e : ∃ j, j < k ∧ P j
    · obtain ⟨j, hj, pj⟩ := e
      exact ih j hj pj
    · exact ⟨k, hk, fun j hj pj => e ⟨j, hj, pj⟩⟩
theorem pk_mu {x : Int32} {L : Nat} (h0 : ¬ x < 0) (h : ¬ nI L ≤ x) (hL : L < 2 ^ 31) : ∃ j : Nat, j < L ∧ x = nI j ∧ x + 1 = nI (j + 1) ∧ x.toNatClampNeg = j ∧ L - (x + 1).toNatClampNeg < L - x.toNatClampNeg := by
  obtain ⟨j, hj, rfl⟩ := nI_of h0
  have hl : j < L := Nat.not_le.mp fun q => h (nI_le q hj)
  refine ⟨j, hl, rfl, nI_1 j, nI_clamp hj, ?_⟩
  rw [nI_1, nI_clamp (by omega), nI_clamp hj]
  omega
theorem ts_nf {x : Bool} (h : ¬ x = false) : x = true := by cases x <;> first | rfl | exact absurd rfl h
theorem ts_nt {x : Bool} (h : ¬ x = true) : x = false := by cases x <;> first | rfl | exact absurd rfl h
theorem ts_bit {w : Int64} {s : UInt64} {j : Nat} (hj : j < 64) (hs : s.toNat = j) : ((w.toUInt64 >>> s).toInt64 &&& 1) = 0 ↔ w.toBitVec.getLsbD j = false := by
  have e : (w.toUInt64 >>> s).toInt64.toBitVec = w.toBitVec >>> j := by
    apply BitVec.eq_of_toNat_eq
    show (w.toUInt64 >>> s).toNat = _
    rw [UInt64.toNat_shiftRight, hs, Nat.mod_eq_of_lt hj, BitVec.toNat_ushiftRight]
    rfl
  rw [← Int64.toBitVec_inj, Int64.toBitVec_and, e]
  show w.toBitVec >>> j &&& 1#64 = 0#64 ↔ _
  constructor
  · intro h
    have t := congrArg (fun x => x.getLsbD 0) h
    simpa using t
  · intro h
    apply BitVec.eq_of_getLsbD_eq
    intro i hi
    cases i with
    | zero => simp [h]
    | succ i => simp
theorem ts_or {w m : Int64} {j : Nat} (hj : j < 64) (hm : m.toBitVec = BitVec.twoPow 64 j) : (w ||| m) = w ↔ w.toBitVec.getLsbD j = true := by
  rw [← Int64.toBitVec_inj, Int64.toBitVec_or, hm]
  constructor
  · intro h
    have t := congrArg (fun x => x.getLsbD j) h
    simp only [BitVec.getLsbD_or, BitVec.getLsbD_twoPow] at t
    simpa [hj] using t.symm
  · intro h
    apply BitVec.eq_of_getLsbD_eq
    intro i hi
    rw [BitVec.getLsbD_or, BitVec.getLsbD_twoPow]
    by_cases e : j = i
    · subst e; rw [h, Bool.true_or]
    · simp [e]
theorem ts_and {w m : Int64} {j : Nat} (hj : j < 64) (hm : m.toBitVec = BitVec.twoPow 64 j) : (w &&& (m ^^^ (-1))) = w ↔ w.toBitVec.getLsbD j = false := by
  have ha : (-1 : Int64).toBitVec = BitVec.allOnes 64 := by decide
  rw [← Int64.toBitVec_inj, Int64.toBitVec_and, Int64.toBitVec_xor, hm, ha]
  constructor
  · intro h
    have t := congrArg (fun x => x.getLsbD j) h
    simp only [BitVec.getLsbD_and, BitVec.getLsbD_xor, BitVec.getLsbD_twoPow, BitVec.getLsbD_allOnes] at t
    simpa [hj] using t.symm
  · intro h
    apply BitVec.eq_of_getLsbD_eq
    intro i hi
    rw [BitVec.getLsbD_and, BitVec.getLsbD_xor, BitVec.getLsbD_twoPow, BitVec.getLsbD_allOnes]
    by_cases e : j = i
    · subst e; rw [h, Bool.false_and]
    · simp [e, hi]
theorem wb_tb (n : Nat) : (lN n).toBitVec = BitVec.ofNat 64 n := rfl
theorem wb_inj {a b : Int64} (h : a.toBitVec = b.toBitVec) : a = b := Int64.toBitVec_inj.mp h
theorem wb_tn {n : Nat} (h : n < 2 ^ 64) : (lN n).toBitVec.toNat = n := by rw [wb_tb, BitVec.toNat_ofNat, Nat.mod_eq_of_lt h]
theorem wb_of (x : Int64) : ∃ n, n < 2 ^ 64 ∧ x = lN n := ⟨x.toBitVec.toNat, x.toBitVec.isLt, wb_inj (by rw [wb_tb]; simp)⟩
theorem wb_of32 (x : Int32) : ∃ n, n < 2 ^ 32 ∧ x = nI n := ⟨x.toBitVec.toNat, x.toBitVec.isLt, Int32.toBitVec_inj.mp (by show _ = BitVec.ofNat 32 _; simp)⟩
theorem wb_c : ∀ k, k < 64 → ((nI k).toInt64 &&& 63) = lN k := by decide +kernel
theorem wb_cu : ∀ k, k < 64 → ((nI k).toInt64.toUInt64 &&& Int64.toUInt64 63) = UInt64.ofNat k := by decide +kernel
theorem wb_sm : ∀ k, k < 64 → (BitVec.ofNat 64 k).smod 64 = BitVec.ofNat 64 k := by decide +kernel
theorem wb_pw {a b : Nat} (h : a ≤ b) : 2 ^ b = 2 ^ a * 2 ^ (b - a) := by rw [← Nat.pow_add]; congr 1; omega
theorem wb_lt2 {a b : Nat} (h : a < b) : 2 ^ a < 2 ^ b := Nat.pow_lt_pow_right (by decide) h
theorem wb_mod (n : Nat) : lN n = lN (n % 2 ^ 64) := wb_inj (by rw [wb_tb, wb_tb]; apply BitVec.eq_of_toNat_eq; rw [BitVec.toNat_ofNat, BitVec.toNat_ofNat, Nat.mod_mod])
theorem wb_shr {n k : Nat} (hn : n < 2 ^ 64) (hk : k < 64) : ((lN n).toUInt64 >>> ((nI k).toInt64.toUInt64 &&& Int64.toUInt64 63)).toInt64 = lN (n / 2 ^ k) := by
  rw [wb_cu k hk]
  apply wb_inj
  apply BitVec.eq_of_toNat_eq
  show ((lN n).toUInt64 >>> UInt64.ofNat k).toNat = (BitVec.ofNat 64 _).toNat
  have h1 : (UInt64.ofNat k).toNat = k := by
    show (BitVec.ofNat 64 k).toNat = k
    rw [BitVec.toNat_ofNat, Nat.mod_eq_of_lt (by omega)]
  have h2 : (lN n).toUInt64.toNat = n := wb_tn hn
  rw [UInt64.toNat_shiftRight, h1, h2, Nat.mod_eq_of_lt hk, Nat.shiftRight_eq_div_pow, BitVec.toNat_ofNat, Nat.mod_eq_of_lt (Nat.lt_of_le_of_lt (Nat.div_le_self _ _) hn)]
theorem wb_shl (n : Nat) {k : Nat} (hk : k < 64) : lN n <<< ((nI k).toInt64 &&& 63) = lN (n * 2 ^ k) := by
  rw [wb_c k hk]
  apply wb_inj
  rw [Int64.toBitVec_shiftLeft, wb_tb, wb_tb, wb_tb, wb_sm k hk]
  apply BitVec.eq_of_toNat_eq
  rw [BitVec.shiftLeft_eq', BitVec.toNat_shiftLeft, BitVec.toNat_ofNat, BitVec.toNat_ofNat, BitVec.toNat_ofNat, Nat.mod_eq_of_lt (show k < 2 ^ 64 by omega), Nat.shiftLeft_eq, Nat.mul_mod, Nat.mod_mod, ← Nat.mul_mod]
theorem wb_and {a b : Nat} (ha : a < 2 ^ 64) (hb : b < 2 ^ 64) : lN a &&& lN b = lN (a &&& b) := by
  apply wb_inj
  rw [Int64.toBitVec_and, wb_tb, wb_tb, wb_tb]
  apply BitVec.eq_of_toNat_eq
  rw [BitVec.toNat_and, BitVec.toNat_ofNat, BitVec.toNat_ofNat, BitVec.toNat_ofNat, Nat.mod_eq_of_lt ha, Nat.mod_eq_of_lt hb, Nat.mod_eq_of_lt (Nat.and_lt_two_pow _ hb)]
theorem wb_or {a b : Nat} (ha : a < 2 ^ 64) (hb : b < 2 ^ 64) : lN a ||| lN b = lN (a ||| b) := by
  apply wb_inj
  rw [Int64.toBitVec_or, wb_tb, wb_tb, wb_tb]
  apply BitVec.eq_of_toNat_eq
  rw [BitVec.toNat_or, BitVec.toNat_ofNat, BitVec.toNat_ofNat, BitVec.toNat_ofNat, Nat.mod_eq_of_lt ha, Nat.mod_eq_of_lt hb, Nat.mod_eq_of_lt (Nat.or_lt_two_pow ha hb)]
theorem wb_mask {n k : Nat} (hn : n < 2 ^ 64) (hk : k < 64) : lN n &&& lN (2 ^ k - 1) = lN (n % 2 ^ k) := by
  rw [wb_and hn (by have := wb_lt2 hk; omega), Nat.and_two_pow_sub_one_eq_mod]
theorem wb_a1 {n : Nat} (hn : n < 2 ^ 64) : lN n &&& 1 = lN (n % 2) := wb_mask (k := 1) hn (by decide)
theorem wb_bit {n k : Nat} (hn : n < 2 ^ 64) (hk : k < 64) : ((lN n).toUInt64 >>> ((nI k).toInt64.toUInt64 &&& Int64.toUInt64 63)).toInt64 &&& 1 = lN (n / 2 ^ k % 2) := by
  rw [wb_shr hn hk, wb_a1 (Nat.lt_of_le_of_lt (Nat.div_le_self _ _) hn)]
theorem wb_xor {q k : Nat} (hk : k < 63) (h : 2 ^ k ≤ q) (h2 : q < 2 ^ (k + 1)) : lN q ^^^ lN (2 ^ k) = lN (q - 2 ^ k) := by
  obtain ⟨r, rfl⟩ : ∃ r, q = 2 ^ k + r := ⟨q - 2 ^ k, by omega⟩
  have hr : r < 2 ^ k := by rw [Nat.pow_succ] at h2; omega
  have hx : (2 ^ k + r) ^^^ 2 ^ k = r := by
    apply Nat.eq_of_testBit_eq
    intro i
    rw [Nat.testBit_xor, Nat.testBit_two_pow]
    rcases Nat.lt_trichotomy i k with h | h | h
    · rw [Nat.testBit_two_pow_add_gt h]
      simp [show ¬ k = i by omega]
    · subst h
      rw [Nat.testBit_two_pow_add_eq]
      simp
    · have a1 : 2 ^ (k + 1) ≤ 2 ^ i := Nat.pow_le_pow_right (by decide) h
      rw [Nat.testBit_lt_two_pow (show 2 ^ k + r < 2 ^ i by omega), Nat.testBit_lt_two_pow (show r < 2 ^ i by omega)]
      simp [show ¬ k = i by omega]
  have b1 := wb_lt2 (show k + 1 < 64 by omega)
  have b2 := wb_lt2 (show k < 64 by omega)
  apply wb_inj
  rw [Int64.toBitVec_xor, wb_tb, wb_tb, wb_tb]
  apply BitVec.eq_of_toNat_eq
  rw [BitVec.toNat_xor, BitVec.toNat_ofNat, BitVec.toNat_ofNat, BitVec.toNat_ofNat, Nat.mod_eq_of_lt (by omega : 2 ^ k + r < 2 ^ 64), Nat.mod_eq_of_lt b2, hx, Nat.add_sub_cancel_left, Nat.mod_eq_of_lt (by omega)]
end
section
section FG
/-! fragments: a piece of the reference's program against a range of the component's pieces, by ghost labels and conditions of each place -/
abbrev fg_I : Type := Int32 × Int32 × Int32 × Int32
def fg_px (f : Int32 → Int32) (y : fg_I) : fg_I := (y.1, y.2.1, f y.2.2.1, f y.2.2.2)
def fg_mo (t y : Int32) : Int32 := if y = -1 then t else y
def fg_mv (k : Nat) (y : Int32) : Int32 := if y = -1 then -1 else y + nI k
def fg_tg (s e : Nat) (sb : Nat → Bool) (y : Int32) : Prop := y = -1 ∨ ∃ q, s ≤ q ∧ q < e ∧ sb q = false ∧ y = nI q
def fg_SG (i p : fg_I) : Prop :=
  (i.1 = 0 ∧ p.1 = 0 ∧ p.2.1 = i.2.1) ∨ (i.1 = 1 ∧ p.1 = 1) ∨ (i.1 = 2 ∧ p.1 = 2) ∨ (i.1 = 5 ∧ p.1 = 3 ∧ ∃ k, k < 6 ∧ p.2.1 = nI k ∧ i.2.1 = nI (k + 2))
def fg_LC (m x : Nat → fg_I) (a b s e : Nat) (r : Nat → Int32) (ch pd pj : Nat → Bool) (l : Nat → List Int32) (pr : Nat → Nat) (sb : Nat → Bool) (u : Nat → List Int32) (ad : Nat → Nat) (j : Nat) : Prop :=
  ((m j).1 = 4 ∧ ch j = false ∧ ((pj j = true ∧ r j = -1) ∨ (pj j = false ∧ ∃ t, a ≤ t ∧ t ≤ b ∧ nI j + (m j).2.2.1 = nI t ∧ ch t = false ∧ r j = r t ∧ (j < t ∨ (t < b ∧ (m t).1 = 3)))))
  ∨ (∃ p, s ≤ p ∧ p < e ∧ sb p = false ∧ ad p = j ∧ r j = nI p ∧ ch j = false ∧ (m j).2.2.1 = 1 ∧ ch (j + 1) = false ∧ (x p).2.2.1 = r (j + 1) ∧ fg_SG (m j) (x p))
  ∨ ((m j).1 = 3 ∧ ∃ t1 t2, a ≤ t1 ∧ t1 ≤ b ∧ nI j + (m j).2.2.1 = nI t1 ∧ ch t1 = false ∧ a ≤ t2 ∧ t2 ≤ b ∧ nI j + (m j).2.2.2 = nI t2 ∧ (ch t2 = true → pr t2 = j ∧ j < t2) ∧
      ((ch j = false ∧ pd t2 = false ∧ ∃ p, s ≤ p ∧ p < e ∧ sb p = false ∧ ad p = j ∧ r j = nI p ∧ (x p).1 = 4 ∧ u p = r t1 :: l t2) ∨ (ch j = true ∧ pd j = pd t2 ∧ l j = r t1 :: l t2)))
def fg_XC (x : Nat → fg_I) (s : Nat) (sb : Nat → Bool) (u : Nat → List Int32) (pa : Nat → Nat) (p : Nat) : Prop :=
  (sb p = true → (x p).1 = 4) ∧ ((x p).1 = 4 → ((∃ q, (x p).2.2.1 = nI q ∧ s ≤ q ∧ q < p ∧ sb q = true ∧ (x q).1 = 4 ∧ pa q = p ∧ u p = u q ++ [(x p).2.2.2]) ∨ u p = [(x p).2.2.1, (x p).2.2.2]))
/-- the body: every address and every piece keeps its own condition -/
def fg_B (m x : Nat → fg_I) (a b s e : Nat) (r : Nat → Int32) (ch pd pj : Nat → Bool) (l : Nat → List Int32) (pr : Nat → Nat) (sb : Nat → Bool) (u : Nat → List Int32) (ad pa : Nat → Nat) : Prop :=
  (∀ j, a ≤ j → j < b → fg_LC m x a b s e r ch pd pj l pr sb u ad j) ∧
  (∀ j, a ≤ j → j ≤ b → ch j = false → l j = [r j]) ∧
  (∀ j, a ≤ j → j ≤ b → ∀ y, y ∈ l j → fg_tg s e sb y) ∧
  (∀ p, s ≤ p → p < e → fg_XC x s sb u pa p)
/-- a whole fragment: program [a, b) and pieces [s, e), entered at en, left at b and at -1 -/
def fg_F (m x : Nat → fg_I) (a b s e : Nat) (en : Int32) : Prop :=
  a ≤ b ∧ s ≤ e ∧ b ≤ a + 2 * (e - s) ∧ (en = -1 → a = b) ∧ (a = b → s = e) ∧
  ∃ (r : Nat → Int32) (ch : Nat → Bool) (l : Nat → List Int32) (pr : Nat → Nat) (sb : Nat → Bool) (u : Nat → List Int32) (ad pa : Nat → Nat),
    r a = en ∧ r b = -1 ∧ ch a = false ∧ ch b = false ∧ fg_B m x a b s e r ch (fun _ => false) (fun _ => false) l pr sb u ad pa

theorem fg_ne {q : Nat} (h : q < 2 ^ 31) : ¬ nI q = -1 := by
  intro e
  have h1 := nI_pos (n := q) h
  rw [e] at h1
  exact h1 (by decide)
theorem fg_ij {a b : Nat} (h : nI a = nI b) (ha : a < 2 ^ 31) (hb : b < 2 ^ 31) : a = b := (nI_eq ha hb).mp h
theorem fg_sh {j t d : Nat} {y : Int32} (h : nI j + y = nI t) : nI (j + d) + y = nI (t + d) := by
  rw [← nI_add, ← nI_add, ← h]; grind
theorem fg_mo_m (t : Int32) : fg_mo t (-1) = t := if_pos rfl
theorem fg_mo_n {t : Int32} {q : Nat} (h : q < 2 ^ 31) : fg_mo t (nI q) = nI q := if_neg (fg_ne h)
theorem fg_mv_m (k : Nat) : fg_mv k (-1) = -1 := if_pos rfl
theorem fg_mv_n {k q : Nat} (h : q < 2 ^ 31) : fg_mv k (nI q) = nI (q + k) := by
  rw [fg_mv, if_neg (fg_ne h), nI_add]
theorem fg_mo_id (y : Int32) : fg_mo (-1) y = y := by
  by_cases h : y = -1
  · rw [h]; exact fg_mo_m _
  · exact if_neg h
theorem fg_px_id (y : fg_I) : fg_px (fg_mo (-1)) y = y := by
  obtain ⟨a, b, c, d⟩ := y
  show (a, b, fg_mo (-1) c, fg_mo (-1) d) = _
  rw [fg_mo_id, fg_mo_id]
theorem fg_px_i (y : fg_I) : fg_px id y = y := rfl
theorem fg_SG_px {i p : fg_I} (f : Int32 → Int32) (h : fg_SG i p) : fg_SG i (fg_px f p) := h
theorem fg_SG_4 {i p : fg_I} (h : fg_SG i p) : i.1 ≠ 4 ∧ i.1 ≠ 3 ∧ p.1 ≠ 4 := by
  rcases h with ⟨h1, h2, _⟩ | ⟨h1, h2⟩ | ⟨h1, h2⟩ | ⟨h1, h2, _⟩ <;> rw [h1, h2] <;> decide

/-- the map: program moved by d, pieces moved by k, targets by φ -/
theorem fg_map {m x m' x' : Nat → fg_I} {a b s e A B S E : Nat} {r r' : Nat → Int32} {ch ch' pd pd' pj pj' : Nat → Bool} {l l' : Nat → List Int32} {pr pr' : Nat → Nat} {sb sb' : Nat → Bool} {u u' : Nat → List Int32} {ad ad' : Nat → Nat} (d k : Nat) (φ : Int32 → Int32)
    (hA : A ≤ a + d) (hB : b + d ≤ B) (hS : S ≤ s + k) (hE : e + k ≤ E)
    (hφ : ∀ q, s ≤ q → q < e → φ (nI q) = nI (q + k))
    (hp : ∀ j, a ≤ j → j < b → pj j = true → φ (-1) = -1)
    (hm : ∀ j, a ≤ j → j < b → m' (j + d) = m j)
    (hx : ∀ p, s ≤ p → p < e → x' (p + k) = fg_px φ (x p))
    (hr : ∀ j, a ≤ j → j ≤ b → r' (j + d) = φ (r j))
    (hc : ∀ j, a ≤ j → j ≤ b → ch' (j + d) = ch j)
    (hd : ∀ j, a ≤ j → j ≤ b → pd' (j + d) = pd j)
    (hj : ∀ j, a ≤ j → j < b → pj' (j + d) = pj j)
    (hl : ∀ j, a ≤ j → j ≤ b → l' (j + d) = (l j).map φ)
    (hq : ∀ j, a ≤ j → j ≤ b → ch j = true → pr' (j + d) = pr j + d)
    (hs : ∀ p, s ≤ p → p < e → sb' (p + k) = sb p)
    (hu : ∀ p, s ≤ p → p < e → u' (p + k) = (u p).map φ)
    (ha : ∀ p, s ≤ p → p < e → ad' (p + k) = ad p + d)
    {j : Nat} (h1 : a ≤ j) (h2 : j < b) (h : fg_LC m x a b s e r ch pd pj l pr sb u ad j) : fg_LC m' x' A B S E r' ch' pd' pj' l' pr' sb' u' ad' (j + d) := by
  have h3 : j ≤ b := Nat.le_of_lt h2
  rcases h with ⟨h4, hcj, hh⟩ | ⟨p, p1, p2, p3, p4, p5, p6, p7, p8, p9, p10⟩ | ⟨h4, t1, t2, a1, a2, a3, a4, a5, a6, a7, a8, hh⟩
  · refine Or.inl ⟨by rw [hm j h1 h2]; exact h4, by rw [hc j h1 h3]; exact hcj, ?_⟩
    rcases hh with ⟨e1, e2⟩ | ⟨e1, t, t1, t2, t3, t4, t5, t6⟩
    · exact Or.inl ⟨by rw [hj j h1 h2]; exact e1, by rw [hr j h1 h3, e2]; exact hp j h1 h2 e1⟩
    · refine Or.inr ⟨by rw [hj j h1 h2]; exact e1, t + d, by omega, by omega, ?_, by rw [hc t t1 t2]; exact t4, by rw [hr j h1 h3, hr t t1 t2, t5], ?_⟩
      · rw [hm j h1 h2]; exact fg_sh t3
      · rcases t6 with h | ⟨h, h'⟩
        · exact Or.inl (by omega)
        · exact Or.inr ⟨by omega, by rw [hm t t1 h]; exact h'⟩
  · refine Or.inr (Or.inl ⟨p + k, by omega, by omega, by rw [hs p p1 p2]; exact p3, by rw [ha p p1 p2, p4], by rw [hr j h1 h3, p5]; exact hφ p p1 p2, by rw [hc j h1 h3]; exact p6, by rw [hm j h1 h2]; exact p7, ?_, ?_, ?_⟩)
    · rw [show j + d + 1 = (j + 1) + d by omega, hc (j + 1) (by omega) (by omega)]; exact p8
    · rw [show j + d + 1 = (j + 1) + d by omega, hr (j + 1) (by omega) (by omega), hx p p1 p2, ← p9]; rfl
    · rw [hm j h1 h2, hx p p1 p2]; exact fg_SG_px φ p10
  · refine Or.inr (Or.inr ⟨by rw [hm j h1 h2]; exact h4, t1 + d, t2 + d, by omega, by omega, by rw [hm j h1 h2]; exact fg_sh a3, by rw [hc t1 a1 a2]; exact a4, by omega, by omega, by rw [hm j h1 h2]; exact fg_sh a7, ?_, ?_⟩)
    · intro h
      rw [hc t2 a5 a6] at h
      have := a8 h
      exact ⟨by rw [hq t2 a5 a6 h, this.1], by omega⟩
    · rcases hh with ⟨c1, c2, p, p1, p2, p3, p4, p5, p6, p7⟩ | ⟨c1, c2, c3⟩
      · refine Or.inl ⟨by rw [hc j h1 h3]; exact c1, by rw [hd t2 a5 a6]; exact c2, p + k, by omega, by omega, by rw [hs p p1 p2]; exact p3, by rw [ha p p1 p2, p4], by rw [hr j h1 h3, p5]; exact hφ p p1 p2, by rw [hx p p1 p2]; exact p6, ?_⟩
        rw [hu p p1 p2, p7, hr t1 a1 a2, hl t2 a5 a6]; rfl
      · refine Or.inr ⟨by rw [hc j h1 h3]; exact c1, by rw [hd j h1 h3, hd t2 a5 a6]; exact c2, ?_⟩
        rw [hl j h1 h3, c3, hr t1 a1 a2, hl t2 a5 a6]; rfl
theorem fg_xmap {x x' : Nat → fg_I} {s e S : Nat} {sb sb' : Nat → Bool} {u u' : Nat → List Int32} {pa pa' : Nat → Nat} (k : Nat) (φ : Int32 → Int32)
    (hS : S ≤ s + k)
    (hφ : ∀ q, s ≤ q → q < e → φ (nI q) = nI (q + k))
    (hx : ∀ p, s ≤ p → p < e → x' (p + k) = fg_px φ (x p))
    (hs : ∀ p, s ≤ p → p < e → sb' (p + k) = sb p)
    (hu : ∀ p, s ≤ p → p < e → u' (p + k) = (u p).map φ)
    (ha : ∀ p, s ≤ p → p + 1 < e → sb p = true → pa' (p + k) = pa p + k)
    {p : Nat} (h1 : s ≤ p) (h2 : p < e) (h : fg_XC x s sb u pa p) : fg_XC x' S sb' u' pa' (p + k) := by
  refine ⟨fun h0 => ?_, fun h0 => ?_⟩
  · rw [hs p h1 h2] at h0
    rw [hx p h1 h2]; exact h.1 h0
  · rw [hx p h1 h2] at h0
    rcases h.2 h0 with ⟨q, q1, q2, q3, q4, q5, q6, q7⟩ | h
    · have q8 : q < e := by omega
      refine Or.inl ⟨q + k, ?_, by omega, by omega, by rw [hs q q2 q8]; exact q4, by rw [hx q q2 q8]; exact q5, by rw [ha q q2 (by omega) q4, q6], ?_⟩
      · rw [hx p h1 h2, ← hφ q q2 q8, ← q1]; rfl
      · rw [hu p h1 h2, q7, List.map_append, hu q q2 q8, hx p h1 h2]; rfl
    · refine Or.inr ?_
      rw [hu p h1 h2, h, hx p h1 h2]; rfl
theorem fg_tmap {s e S E : Nat} {sb sb' : Nat → Bool} (k : Nat) (φ : Int32 → Int32) (hS : S ≤ s + k) (hE : e + k ≤ E)
    (hφ : ∀ q, s ≤ q → q < e → φ (nI q) = nI (q + k)) (hs : ∀ p, s ≤ p → p < e → sb' (p + k) = sb p) (h0 : fg_tg S E sb' (φ (-1))) {y : Int32} (h : fg_tg s e sb y) : fg_tg S E sb' (φ y) := by
  rcases h with h | ⟨q, q1, q2, q3, q4⟩
  · rw [h]; exact h0
  · exact Or.inr ⟨q + k, by omega, by omega, by rw [hs q q1 q2]; exact q3, by rw [q4, hφ q q1 q2]⟩
theorem fg_tg_m {s e : Nat} {sb : Nat → Bool} : fg_tg s e sb (-1) := Or.inl rfl
/-- what a part of a glued fragment gives, all four clauses at once -/
theorem fg_part {m x m' x' : Nat → fg_I} {a b s e A B S E : Nat} {r r' : Nat → Int32} {ch ch' pd pd' pj pj' : Nat → Bool} {l l' : Nat → List Int32} {pr pr' : Nat → Nat} {sb sb' : Nat → Bool} {u u' : Nat → List Int32} {ad ad' pa pa' : Nat → Nat} (d k : Nat) (φ : Int32 → Int32)
    (H : fg_B m x a b s e r ch pd pj l pr sb u ad pa)
    (hA : A ≤ a + d) (hB : b + d ≤ B) (hS : S ≤ s + k) (hE : e + k ≤ E)
    (hφ : ∀ q, s ≤ q → q < e → φ (nI q) = nI (q + k))
    (hp : ∀ j, a ≤ j → j < b → pj j = true → φ (-1) = -1)
    (h0 : fg_tg S E sb' (φ (-1)))
    (hm : ∀ j, a ≤ j → j < b → m' (j + d) = m j)
    (hx : ∀ p, s ≤ p → p < e → x' (p + k) = fg_px φ (x p))
    (hr : ∀ j, a ≤ j → j ≤ b → r' (j + d) = φ (r j))
    (hc : ∀ j, a ≤ j → j ≤ b → ch' (j + d) = ch j)
    (hd : ∀ j, a ≤ j → j ≤ b → pd' (j + d) = pd j)
    (hj : ∀ j, a ≤ j → j < b → pj' (j + d) = pj j)
    (hl : ∀ j, a ≤ j → j ≤ b → l' (j + d) = (l j).map φ)
    (hq : ∀ j, a ≤ j → j ≤ b → ch j = true → pr' (j + d) = pr j + d)
    (hs : ∀ p, s ≤ p → p < e → sb' (p + k) = sb p)
    (hu : ∀ p, s ≤ p → p < e → u' (p + k) = (u p).map φ)
    (ha : ∀ p, s ≤ p → p < e → ad' (p + k) = ad p + d)
    (hg : ∀ p, s ≤ p → p + 1 < e → sb p = true → pa' (p + k) = pa p + k) :
    (∀ i, a + d ≤ i → i < b + d → fg_LC m' x' A B S E r' ch' pd' pj' l' pr' sb' u' ad' i) ∧
    (∀ i, a + d ≤ i → i ≤ b + d → ch' i = false → l' i = [r' i]) ∧
    (∀ i, a + d ≤ i → i ≤ b + d → ∀ y, y ∈ l' i → fg_tg S E sb' y) ∧
    (∀ i, s + k ≤ i → i < e + k → fg_XC x' S sb' u' pa' i) := by
  obtain ⟨H1, H2, H3, H4⟩ := H
  refine ⟨fun i i1 i2 => ?_, fun i i1 i2 i3 => ?_, fun i i1 i2 y hy => ?_, fun i i1 i2 => ?_⟩
  · obtain ⟨j, rfl⟩ : ∃ j, i = j + d := ⟨i - d, by omega⟩
    exact fg_map d k φ hA hB hS hE hφ hp hm hx hr hc hd hj hl hq hs hu ha (by omega) (by omega) (H1 j (by omega) (by omega))
  · obtain ⟨j, rfl⟩ : ∃ j, i = j + d := ⟨i - d, by omega⟩
    rw [hc j (by omega) (by omega)] at i3
    rw [hl j (by omega) (by omega), hr j (by omega) (by omega), H2 j (by omega) (by omega) i3]; rfl
  · obtain ⟨j, rfl⟩ : ∃ j, i = j + d := ⟨i - d, by omega⟩
    rw [hl j (by omega) (by omega)] at hy
    obtain ⟨z, hz, rfl⟩ := List.mem_map.mp hy
    exact fg_tmap k φ hS hE hφ hs h0 (H3 j (by omega) (by omega) z hz)
  · obtain ⟨p, rfl⟩ : ∃ p, i = p + k := ⟨i - k, by omega⟩
    exact fg_xmap k φ hS hφ hx hs hu hg (by omega) (by omega) (H4 p (by omega) (by omega))
theorem fg_gl {α : Type} (b : Nat) (f g : Nat → α) : ∃ h : Nat → α, (∀ j, j < b → h j = f j) ∧ (∀ j, b ≤ j → h j = g j) :=
  ⟨fun j => if j < b then f j else g j, fun _ h => if_pos h, fun _ h => if_neg (by omega)⟩
theorem fg_gl3 {α : Type} {b c : Nat} (hbc : b ≤ c) (f g k : Nat → α) : ∃ h : Nat → α, (∀ j, j < b → h j = f j) ∧ (∀ j, b ≤ j → j < c → h j = g j) ∧ (∀ j, c ≤ j → h j = k j) :=
  ⟨fun j => if j < b then f j else if j < c then g j else k j, fun _ h => if_pos h, fun _ h1 h2 => (if_neg (by omega)).trans (if_pos h2), fun _ h => (if_neg (by omega)).trans (if_neg (by omega))⟩
theorem fg_ff {P : Prop} (h : false = true) : P := by
  cases h
theorem fg_B_r {m x : Nat → fg_I} {a b s e : Nat} {r : Nat → Int32} {ch pd pj : Nat → Bool} {l : Nat → List Int32} {pr : Nat → Nat} {sb : Nat → Bool} {u : Nat → List Int32} {ad pa : Nat → Nat}
    (H : fg_B m x a b s e r ch pd pj l pr sb u ad pa) {j : Nat} (h1 : a ≤ j) (h2 : j ≤ b) (h3 : ch j = false) : fg_tg s e sb (r j) :=
  H.2.2.1 j h1 h2 (r j) (by rw [H.2.1 j h1 h2 h3]; exact List.mem_singleton.mpr rfl)
theorem fg_tg_up {s e S E : Nat} {sb sb' : Nat → Bool} {y : Int32} (h : fg_tg s e sb y) (hS : S ≤ s) (hE : e ≤ E) (hs : ∀ p, s ≤ p → p < e → sb' p = sb p) : fg_tg S E sb' y := by
  rcases h with h | ⟨q, q1, q2, q3, q4⟩
  · exact Or.inl h
  · exact Or.inr ⟨q, by omega, by omega, by rw [hs q q1 q2]; exact q3, q4⟩

theorem fg_empty (m x : Nat → fg_I) (a s : Nat) : fg_F m x a a s s (-1) := by
  refine ⟨Nat.le_refl _, Nat.le_refl _, by omega, fun _ => rfl, fun _ => rfl, fun _ => -1, fun _ => false, fun _ => [-1], fun _ => 0, fun _ => false, fun _ => [], fun _ => 0, fun _ => 0, rfl, rfl, rfl, rfl, ?_, ?_, ?_, ?_⟩
  · intro j h1 h2; omega
  · intro j _ _ _; rfl
  · intro j _ _ y hy
    exact Or.inl (List.mem_singleton.mp hy)
  · intro p h1 h2; omega
theorem fg_one {m x : Nat → fg_I} {a s : Nat} (hs : s < 1000) (h1 : (m a).2.2.1 = 1) (h2 : (x s).2.2.1 = -1) (h3 : fg_SG (m a) (x s)) : fg_F m x a (a + 1) s (s + 1) (nI s) := by
  obtain ⟨r, r1, r2⟩ := fg_gl (a + 1) (fun _ => nI s) (fun _ => (-1 : Int32))
  have ra : r a = nI s := r1 a (by omega)
  have rb : r (a + 1) = -1 := r2 (a + 1) (by omega)
  refine ⟨by omega, by omega, by omega, fun h => absurd h (fg_ne (by omega)), by omega, r, fun _ => false, fun j => [r j], fun _ => 0, fun _ => false, fun _ => [], fun _ => a, fun _ => 0, ra, rb, rfl, rfl, ?_, ?_, ?_, ?_⟩
  · intro j j1 j2
    obtain rfl : j = a := by omega
    exact Or.inr (Or.inl ⟨s, by omega, by omega, rfl, rfl, ra, rfl, h1, rfl, by rw [h2, rb], h3⟩)
  · intro j _ _ _; rfl
  · intro j j1 j2 y hy
    rw [List.mem_singleton.mp hy]
    by_cases h : j = a
    · rw [h, ra]; exact Or.inr ⟨s, by omega, by omega, rfl, rfl⟩
    · rw [r2 j (by omega)]; exact Or.inl rfl
  · intro p p1 p2
    obtain rfl : p = s := by omega
    exact ⟨fun h => by simp at h, fun h => absurd h (fg_SG_4 h3).2.2⟩
/-- moved as it is -/
theorem fg_shift {m x m' x' : Nat → fg_I} {a b s e : Nat} {en : Int32} (d k : Nat) (h : fg_F m x a b s e en) (he : e + k < 1000)
    (hm : ∀ j, a ≤ j → j < b → m' (j + d) = m j) (hx : ∀ p, s ≤ p → p < e → x' (p + k) = fg_px (fg_mv k) (x p)) : fg_F m' x' (a + d) (b + d) (s + k) (e + k) (fg_mv k en) := by
  obtain ⟨g1, g2, g3, g4, g5, r, ch, l, pr, sb, u, ad, pa, ra, rb, ca, cb, H⟩ := h
  have hen : en = -1 ∨ ∃ q, q < 1000 ∧ en = nI q := by
    rcases fg_B_r H (Nat.le_refl a) g1 ca with h | ⟨q, q1, q2, q3, q4⟩
    · exact Or.inl (by rw [← ra]; exact h)
    · exact Or.inr ⟨q, by omega, by rw [← ra]; exact q4⟩
  refine ⟨by omega, by omega, by omega, ?_, by omega, fun j => fg_mv k (r (j - d)), fun j => ch (j - d), fun j => (l (j - d)).map (fg_mv k), fun j => pr (j - d) + d, fun p => sb (p - k), fun p => (u (p - k)).map (fg_mv k), fun p => ad (p - k) + d, fun p => pa (p - k) + k, ?_, ?_, ?_, ?_, ?_⟩
  · intro h
    rcases hen with h' | ⟨q, q1, q2⟩
    · rw [g4 h']
    · rw [q2, fg_mv_n (by omega)] at h
      exact absurd h (fg_ne (by omega))
  · dsimp only; rw [Nat.add_sub_cancel, ra]
  · dsimp only; rw [Nat.add_sub_cancel, rb, fg_mv_m]
  · dsimp only; rw [Nat.add_sub_cancel, ca]
  · dsimp only; rw [Nat.add_sub_cancel, cb]
  · refine fg_part d k (fg_mv k) H (Nat.le_refl _) (Nat.le_refl _) (Nat.le_refl _) (Nat.le_refl _) (fun q q1 q2 => fg_mv_n (by omega)) (fun j _ _ h => fg_ff h) (Or.inl (fg_mv_m k)) hm hx ?_ ?_ ?_ ?_ ?_ ?_ ?_ ?_ ?_ ?_ <;> (intros; simp only [Nat.add_sub_cancel])
/-- the same ranges, other stores beside them -/
theorem fg_frame {m x m' x' : Nat → fg_I} {a b s e : Nat} {en : Int32} (h : fg_F m x a b s e en)
    (hm : ∀ j, a ≤ j → j < b → m' j = m j) (hx : ∀ p, s ≤ p → p < e → x' p = x p) : fg_F m' x' a b s e en := by
  obtain ⟨g1, g2, g3, g4, g5, r, ch, l, pr, sb, u, ad, pa, ra, rb, ca, cb, H⟩ := h
  refine ⟨g1, g2, g3, g4, g5, r, ch, l, pr, sb, u, ad, pa, ra, rb, ca, cb, ?_⟩
  exact fg_part 0 0 id H (Nat.le_refl _) (Nat.le_refl _) (Nat.le_refl _) (Nat.le_refl _) (fun q _ _ => rfl) (fun j _ _ h => fg_ff h) (Or.inl rfl) hm hx (fun _ _ _ => rfl) (fun _ _ _ => rfl) (fun _ _ _ => rfl) (fun _ _ _ => rfl) (fun j _ _ => (List.map_id (l j)).symm) (fun _ _ _ _ => rfl) (fun _ _ _ => rfl) (fun p _ _ => (List.map_id (u p)).symm) (fun _ _ _ => rfl) (fun _ _ _ _ => rfl)
theorem fg_seq {m x x' : Nat → fg_I} {a b c s q e : Nat} {en1 en2 : Int32} (h1 : fg_F m x a b s q en1) (h2 : fg_F m x b c q e en2) (he : e < 1000)
    (hx1 : ∀ p, s ≤ p → p < q → x' p = fg_px (fg_mo en2) (x p)) (hx2 : ∀ p, q ≤ p → p < e → x' p = x p) : fg_F m x' a c s e (fg_mo en2 en1) := by
  obtain ⟨g1, g2, g3, g4, g5, r1, ch1, l1, pr1, sb1, u1, ad1, pa1, ra1, rb1, ca1, cb1, H1⟩ := h1
  obtain ⟨f1, f2, f3, f4, f5, r2, ch2, l2, pr2, sb2, u2, ad2, pa2, ra2, rb2, ca2, cb2, H2⟩ := h2
  obtain ⟨r, rl, rh⟩ := fg_gl b (fun j => fg_mo en2 (r1 j)) r2
  obtain ⟨ch, cl, chh⟩ := fg_gl b ch1 ch2
  obtain ⟨l, ll, lh⟩ := fg_gl b (fun j => (l1 j).map (fg_mo en2)) l2
  obtain ⟨pr, pl, ph⟩ := fg_gl b pr1 pr2
  obtain ⟨sb, sl, sh⟩ := fg_gl q sb1 sb2
  obtain ⟨u, ul, uh⟩ := fg_gl q (fun j => (u1 j).map (fg_mo en2)) u2
  obtain ⟨ad, al, ah⟩ := fg_gl q ad1 ad2
  obtain ⟨pa, pal, pah⟩ := fg_gl q pa1 pa2
  have rbb : ∀ j, a ≤ j → j ≤ b → r j = fg_mo en2 (r1 j) := fun j _ j2 => by
    by_cases h : j < b
    · exact rl j h
    · obtain rfl : j = b := by omega
      rw [rh j (Nat.le_refl _), ra2, rb1, fg_mo_m]
  have cbb : ∀ j, a ≤ j → j ≤ b → ch j = ch1 j := fun j _ j2 => by
    by_cases h : j < b
    · exact cl j h
    · obtain rfl : j = b := by omega
      rw [chh j (Nat.le_refl _), ca2, cb1]
  have lbb : ∀ j, a ≤ j → j ≤ b → l j = (l1 j).map (fg_mo en2) := fun j _ j2 => by
    by_cases h : j < b
    · exact ll j h
    · obtain rfl : j = b := by omega
      rw [lh j (Nat.le_refl _), H2.2.1 j (Nat.le_refl _) f1 ca2, H1.2.1 j g1 (Nat.le_refl _) cb1, ra2, rb1]
      show _ = [fg_mo en2 (-1)]
      rw [fg_mo_m]
  have ten : fg_tg s e sb en2 := by
    rw [← ra2]
    exact fg_tg_up (fg_B_r H2 (Nat.le_refl _) f1 ca2) g2 (Nat.le_refl _) (fun p p1 _ => sh p p1)
  have P1 := fg_part (A := a) (B := c) (S := s) (E := e) (m' := m) (x' := x') (r' := r) (ch' := ch) (pd' := fun _ => false) (pj' := fun _ => false) (l' := l) (pr' := pr) (sb' := sb) (u' := u) (ad' := ad) (pa' := pa) 0 0 (fg_mo en2) H1 (Nat.le_refl _) f1 (Nat.le_refl _) f2 (fun q _ _ => fg_mo_n (by omega)) (fun j _ _ h => fg_ff h) (by rw [fg_mo_m]; exact ten) (fun _ _ _ => rfl) (fun p p1 p2 => hx1 p p1 p2) rbb cbb (fun _ _ _ => rfl) (fun _ _ _ => rfl) lbb
    (fun j j1 j2 jc => by
      by_cases h : j < b
      · exact pl j h
      · obtain rfl : j = b := by omega
        rw [cb1] at jc; cases jc)
    (fun p _ p2 => sl p p2) (fun p _ p2 => ul p p2) (fun p _ p2 => al p p2) (fun p _ p2 _ => pal p (by omega))
  have P2 := fg_part (A := a) (B := c) (S := s) (E := e) (m' := m) (x' := x') (r' := r) (ch' := ch) (pd' := fun _ => false) (pj' := fun _ => false) (l' := l) (pr' := pr) (sb' := sb) (u' := u) (ad' := ad) (pa' := pa) 0 0 id H2 g1 (Nat.le_refl _) g2 (Nat.le_refl _) (fun _ _ _ => rfl) (fun j _ _ h => fg_ff h) (Or.inl rfl) (fun _ _ _ => rfl) (fun p p1 p2 => hx2 p p1 p2) (fun j j1 _ => rh j j1) (fun j j1 _ => chh j j1) (fun _ _ _ => rfl) (fun _ _ _ => rfl)
    (fun j j1 _ => (lh j j1).trans (List.map_id _).symm) (fun j j1 _ _ => ph j j1) (fun p p1 _ => sh p p1) (fun p p1 _ => (uh p p1).trans (List.map_id _).symm) (fun p p1 _ => ah p p1) (fun p p1 _ _ => pah p p1)
  obtain ⟨A1, A2, A3, A4⟩ := P1
  obtain ⟨B1, B2, B3, B4⟩ := P2
  refine ⟨by omega, by omega, by omega, ?_, by omega, r, ch, l, pr, sb, u, ad, pa, ?_, ?_, ?_, ?_, ?_, ?_, ?_, ?_⟩
  · intro h
    by_cases h1 : en1 = -1
    · rw [h1, fg_mo_m] at h
      have := g4 h1
      have := f4 h
      omega
    · rw [fg_mo, if_neg h1] at h
      exact absurd h h1
  · rw [rbb a (Nat.le_refl _) g1, ra1]
  · rw [rh c f1, rb2]
  · rw [cbb a (Nat.le_refl _) g1, ca1]
  · rw [chh c f1, cb2]
  · intro j j1 j2
    by_cases h : j < b
    · exact A1 j j1 h
    · exact B1 j (by omega) j2
  · intro j j1 j2
    by_cases h : j < b
    · exact A2 j j1 (by omega)
    · exact B2 j (by omega) j2
  · intro j j1 j2
    by_cases h : j < b
    · exact A3 j j1 (by omega)
    · exact B3 j (by omega) j2
  · intro p p1 p2
    by_cases h : p < q
    · exact A4 p p1 h
    · exact B4 p (by omega) p2
end FG
end
section
section FH
theorem fg_fork {m x x' : Nat → fg_I} {a b s e w : Nat} {en T : Int32} (h : fg_F m x (a + 1) b s e en) (he : e < 999)
    (ha : (m a).1 = 3)
    (hw : (w = 0 ∧ T = -1) ∨ (w = 1 ∧ T = nI e ∧ (m b).1 = 4 ∧ nI b + (m b).2.2.1 = nI a))
    (hx : ∀ p, s ≤ p → p < e → x' p = fg_px (fg_mo T) (x p)) (hk : (x' e).1 = 4)
    (hsp : (nI a + (m a).2.2.1 = nI (a + 1) ∧ nI a + (m a).2.2.2 = nI (b + w) ∧ (x' e).2.2 = (fg_mo T en, -1)) ∨ (nI a + (m a).2.2.1 = nI (b + w) ∧ nI a + (m a).2.2.2 = nI (a + 1) ∧ (x' e).2.2 = (-1, fg_mo T en))) :
    fg_F m x' a (b + w) s (e + 1) (nI e) := by
  obtain ⟨g1, g2, g3, g4, g5, r1, ch1, l1, pr1, sb1, u1, ad1, pa1, ra1, rb1, ca1, cb1, H⟩ := h
  have hw1 : w ≤ 1 := by omega
  obtain ⟨r, q1, q2, q3⟩ := fg_gl3 (show a + 1 ≤ b + 1 by omega) (fun _ => nI e) (fun j => fg_mo T (r1 j)) (fun _ => (-1 : Int32))
  obtain ⟨ch, c1, c2, c3⟩ := fg_gl3 (show a + 1 ≤ b + 1 by omega) (fun _ => false) ch1 (fun _ => false)
  obtain ⟨l, l1', l2, l3⟩ := fg_gl3 (show a + 1 ≤ b + 1 by omega) (fun _ => [nI e]) (fun j => (l1 j).map (fg_mo T)) (fun _ => [(-1 : Int32)])
  obtain ⟨sb, sl, sh⟩ := fg_gl e sb1 (fun _ => false)
  obtain ⟨u, ul, uh⟩ := fg_gl e (fun p => (u1 p).map (fg_mo T)) (fun _ => [(x' e).2.2.1, (x' e).2.2.2])
  obtain ⟨ad, al, ah⟩ := fg_gl e ad1 (fun _ => a)
  have re : r a = nI e := q1 a (by omega)
  have ce : ch a = false := c1 a (by omega)
  have tT : fg_tg s (e + 1) sb T := by
    rcases hw with ⟨_, h⟩ | ⟨_, h, _⟩
    · exact Or.inl h
    · exact Or.inr ⟨e, g2, by omega, sh e (Nat.le_refl _), h⟩
  have rx : r (b + w) = -1 := by
    rcases hw with ⟨h0, h⟩ | ⟨h0, _⟩
    · rw [h0, q2 (b + 0) (by omega) (by omega), Nat.add_zero, rb1, fg_mo_m, h]
    · rw [h0]; exact q3 _ (by omega)
  have cx : ch (b + w) = false := by
    rcases hw with ⟨h0, _⟩ | ⟨h0, _⟩
    · rw [h0, c2 (b + 0) (by omega) (by omega), Nat.add_zero, cb1]
    · rw [h0]; exact c3 _ (by omega)
  have lx : l (b + w) = [-1] := by
    rcases hw with ⟨h0, h⟩ | ⟨h0, _⟩
    · rw [h0, l2 (b + 0) (by omega) (by omega), Nat.add_zero, H.2.1 b g1 (Nat.le_refl _) cb1, rb1]
      show [fg_mo T (-1)] = _
      rw [fg_mo_m, h]
    · rw [h0]; exact l3 _ (by omega)
  obtain ⟨A1, A2, A3, A4⟩ := fg_part (A := a) (B := b + w) (S := s) (E := e + 1) (m' := m) (x' := x') (r' := r) (ch' := ch) (pd' := fun _ => false) (pj' := fun _ => false) (l' := l) (pr' := pr1) (sb' := sb) (u' := u) (ad' := ad) (pa' := pa1) 0 0 (fg_mo T) H (by omega) (by omega) (Nat.le_refl _) (by omega) (fun q _ _ => fg_mo_n (by omega)) (fun j _ _ h => fg_ff h) (by rw [fg_mo_m]; exact tT) (fun _ _ _ => rfl) (fun p p1 p2 => hx p p1 p2)
    (fun j j1 j2 => q2 j j1 (by omega)) (fun j j1 j2 => c2 j j1 (by omega)) (fun _ _ _ => rfl) (fun _ _ _ => rfl) (fun j j1 j2 => l2 j j1 (by omega)) (fun j _ _ _ => rfl)
    (fun p _ p2 => sl p p2) (fun p _ p2 => ul p p2) (fun p _ p2 => al p p2) (fun p _ _ _ => rfl)
  have ra' : r (a + 1) = fg_mo T en := by rw [q2 (a + 1) (by omega) (by omega), ra1]
  have ca' : ch (a + 1) = false := by rw [c2 (a + 1) (by omega) (by omega), ca1]
  have la' : l (a + 1) = [fg_mo T en] := by
    rw [l2 (a + 1) (by omega) (by omega), H.2.1 (a + 1) (Nat.le_refl _) g1 ca1, ra1]; rfl
  refine ⟨by omega, by omega, by omega, fun h => absurd h (fg_ne (by omega)), by omega, r, ch, l, pr1, sb, u, ad, pa1, re, rx, ce, cx, ?_, ?_, ?_, ?_⟩
  · intro j j1 j2
    by_cases h0 : j = a
    · rw [h0]
      refine Or.inr (Or.inr ⟨ha, ?_⟩)
      rcases hsp with ⟨e1, e2, e3⟩ | ⟨e1, e2, e3⟩
      · refine ⟨a + 1, b + w, by omega, by omega, e1, ca', by omega, Nat.le_refl _, e2, (fun h => by rw [cx] at h; cases h), Or.inl ⟨ce, rfl, e, g2, by omega, sh e (Nat.le_refl _), ah e (Nat.le_refl _), re, hk, ?_⟩⟩
        rw [uh e (Nat.le_refl _), ra', lx, e3]
      · refine ⟨b + w, a + 1, by omega, Nat.le_refl _, e1, cx, by omega, by omega, e2, (fun h => by rw [ca'] at h; cases h), Or.inl ⟨ce, rfl, e, g2, by omega, sh e (Nat.le_refl _), ah e (Nat.le_refl _), re, hk, ?_⟩⟩
        rw [uh e (Nat.le_refl _), rx, la', e3]
    · by_cases h1 : j < b
      · exact A1 j (by omega) h1
      · obtain rfl : j = b := by omega
        rcases hw with ⟨h0, _⟩ | ⟨h0, hT, k1, k2⟩
        · omega
        · refine Or.inl ⟨k1, by rw [c2 j (by omega) (by omega), cb1], Or.inr ⟨rfl, a, Nat.le_refl _, by omega, k2, ce, ?_, Or.inr ⟨by omega, ha⟩⟩⟩
          rw [q2 j (by omega) (by omega), rb1, fg_mo_m, re, hT]
  · intro j j1 j2 j3
    by_cases h0 : j = a
    · rw [h0, l1' a (by omega), re]
    · by_cases h1 : j ≤ b
      · exact A2 j (by omega) h1 j3
      · obtain rfl : j = b + w := by omega
        rw [lx, rx]
  · intro j j1 j2 y hy
    by_cases h0 : j = a
    · rw [h0, l1' a (by omega)] at hy
      exact Or.inr ⟨e, g2, by omega, sh e (Nat.le_refl _), List.mem_singleton.mp hy⟩
    · by_cases h1 : j ≤ b
      · exact A3 j (by omega) h1 y hy
      · obtain rfl : j = b + w := by omega
        rw [lx] at hy
        exact Or.inl (List.mem_singleton.mp hy)
  · intro p p1 p2
    by_cases h0 : p < e
    · exact A4 p p1 h0
    · obtain rfl : p = e := by omega
      refine ⟨fun h => ?_, fun _ => Or.inr (uh p (Nat.le_refl _))⟩
      rw [sh p (Nat.le_refl _)] at h; cases h
theorem fg_grp {m x x' : Nat → fg_I} {a b s e : Nat} {en : Int32} (h : fg_F m x (a + 1) b s e en) (he : e < 998)
    (hx : ∀ p, s ≤ p → p < e → x' p = fg_px (fg_mo (nI e)) (x p))
    (n0 : (m a).2.2.1 = 1) (n1 : (m b).2.2.1 = 1) (x1 : (x' e).2.2.1 = -1) (x2 : (x' (e + 1)).2.2.1 = fg_mo (nI e) en)
    (s1 : fg_SG (m a) (x' (e + 1))) (s2 : fg_SG (m b) (x' e)) :
    fg_F m x' a (b + 1) s (e + 2) (nI (e + 1)) := by
  obtain ⟨g1, g2, g3, g4, g5, r1, ch1, l1, pr1, sb1, u1, ad1, pa1, ra1, rb1, ca1, cb1, H⟩ := h
  obtain ⟨r, q1, q2, q3⟩ := fg_gl3 (show a + 1 ≤ b + 1 by omega) (fun _ => nI (e + 1)) (fun j => fg_mo (nI e) (r1 j)) (fun _ => (-1 : Int32))
  obtain ⟨ch, c1, c2, c3⟩ := fg_gl3 (show a + 1 ≤ b + 1 by omega) (fun _ => false) ch1 (fun _ => false)
  obtain ⟨l, l1', l2, l3⟩ := fg_gl3 (show a + 1 ≤ b + 1 by omega) (fun _ => [nI (e + 1)]) (fun j => (l1 j).map (fg_mo (nI e))) (fun _ => [(-1 : Int32)])
  obtain ⟨sb, sl, sh⟩ := fg_gl e sb1 (fun _ => false)
  obtain ⟨u, ul, uh⟩ := fg_gl e (fun p => (u1 p).map (fg_mo (nI e))) (fun _ => [])
  obtain ⟨ad, al, ad2, ah⟩ := fg_gl3 (show e ≤ e + 1 by omega) ad1 (fun _ => b) (fun _ => a)
  have re : r a = nI (e + 1) := q1 a (by omega)
  have ce : ch a = false := c1 a (by omega)
  have tT : fg_tg s (e + 2) sb (nI e) := Or.inr ⟨e, g2, by omega, sh e (Nat.le_refl _), rfl⟩
  obtain ⟨A1, A2, A3, A4⟩ := fg_part (A := a) (B := b + 1) (S := s) (E := e + 2) (m' := m) (x' := x') (r' := r) (ch' := ch) (pd' := fun _ => false) (pj' := fun _ => false) (l' := l) (pr' := pr1) (sb' := sb) (u' := u) (ad' := ad) (pa' := pa1) 0 0 (fg_mo (nI e)) H (by omega) (by omega) (Nat.le_refl _) (by omega) (fun q _ _ => fg_mo_n (by omega)) (fun j _ _ h => fg_ff h) (by rw [fg_mo_m]; exact tT) (fun _ _ _ => rfl) (fun p p1 p2 => hx p p1 p2)
    (fun j j1 j2 => q2 j j1 (by omega)) (fun j j1 j2 => c2 j j1 (by omega)) (fun _ _ _ => rfl) (fun _ _ _ => rfl) (fun j j1 j2 => l2 j j1 (by omega)) (fun j _ _ _ => rfl)
    (fun p _ p2 => sl p p2) (fun p _ p2 => ul p p2) (fun p _ p2 => al p p2) (fun p _ _ _ => rfl)
  have ra' : r (a + 1) = fg_mo (nI e) en := by rw [q2 (a + 1) (by omega) (by omega), ra1]
  have ca' : ch (a + 1) = false := by rw [c2 (a + 1) (by omega) (by omega), ca1]
  have rb' : r b = nI e := by rw [q2 b (by omega) (by omega), rb1, fg_mo_m]
  have cb' : ch b = false := by rw [c2 b (by omega) (by omega), cb1]
  have rx : r (b + 1) = -1 := q3 _ (by omega)
  have cx : ch (b + 1) = false := c3 _ (by omega)
  have lx : l (b + 1) = [-1] := l3 _ (by omega)
  refine ⟨by omega, by omega, by omega, fun h => absurd h (fg_ne (by omega)), by omega, r, ch, l, pr1, sb, u, ad, pa1, re, rx, ce, cx, ?_, ?_, ?_, ?_⟩
  · intro j j1 j2
    by_cases h0 : j = a
    · rw [h0]
      exact Or.inr (Or.inl ⟨e + 1, by omega, by omega, sh _ (by omega), ah _ (by omega), re, ce, n0, ca', by rw [x2, ra'], s1⟩)
    · by_cases h1 : j < b
      · exact A1 j (by omega) h1
      · obtain rfl : j = b := by omega
        exact Or.inr (Or.inl ⟨e, by omega, by omega, sh _ (by omega), ad2 _ (by omega) (by omega), rb', cb', n1, cx, by rw [x1, rx], s2⟩)
  · intro j j1 j2 j3
    by_cases h0 : j = a
    · rw [h0, l1' a (by omega), re]
    · by_cases h1 : j ≤ b
      · exact A2 j (by omega) h1 j3
      · obtain rfl : j = b + 1 := by omega
        rw [lx, rx]
  · intro j j1 j2 y hy
    by_cases h0 : j = a
    · rw [h0, l1' a (by omega)] at hy
      exact Or.inr ⟨e + 1, by omega, by omega, sh _ (by omega), List.mem_singleton.mp hy⟩
    · by_cases h1 : j ≤ b
      · exact A3 j (by omega) h1 y hy
      · obtain rfl : j = b + 1 := by omega
        rw [lx] at hy
        exact Or.inl (List.mem_singleton.mp hy)
  · intro p p1 p2
    by_cases h0 : p < e
    · exact A4 p p1 h0
    · refine ⟨fun h => ?_, fun h => ?_⟩
      · rw [sh p (by omega)] at h; cases h
      · by_cases h2 : p = e
        · rw [h2] at h; exact absurd h (fg_SG_4 s2).2.2
        · obtain rfl : p = e + 1 := by omega
          exact absurd h (fg_SG_4 s1).2.2

/-! alternatives: the branches that are done, with the jumps that wait (JL) -/
def fg_EU (x : Nat → fg_I) (s e : Nat) (sb : Nat → Bool) (u : Nat → List Int32) (en : Int32) (L : List Int32) : Prop :=
  (L = [en] ∧ fg_tg s e sb en) ∨ ∃ q, en = nI q ∧ s ≤ q ∧ q + 1 = e ∧ sb q = true ∧ (x q).1 = 4 ∧ u q = L
def fg_PA (m x : Nat → fg_I) (a b s e : Nat) (en : Int32) (JL : List Nat) : Prop :=
  a < b ∧ s ≤ e ∧ b ≤ a + 2 * (e - s) + 2 ∧ (∀ j, j ∈ JL → a ≤ j ∧ j < b ∧ (m j).1 = 4) ∧
  ∃ (r : Nat → Int32) (ch pd pj : Nat → Bool) (l : Nat → List Int32) (pr : Nat → Nat) (sb : Nat → Bool) (u : Nat → List Int32) (ad pa : Nat → Nat),
    (m a).1 = 3 ∧ ch a = true ∧ pd a = true ∧ ch b = true ∧ pd b = true ∧ l b = [] ∧ fg_EU x s e sb u en (l a) ∧ (∀ j, a ≤ j → j < b → ((m j).1 = 4 ∧ pj j = true ↔ j ∈ JL)) ∧
    (∀ j, a ≤ j → j ≤ b → pd j = true → ch j = true) ∧ fg_B m x a b s e r ch pd pj l pr sb u ad pa
/-- the next branch is known: lists grow at their ends, jumps may be mended -/
theorem fg_app {m x m' x' : Nat → fg_I} {a b s e A B S E : Nat} {r r' : Nat → Int32} {ch ch' pd pd' pj pj' : Nat → Bool} {l l' : Nat → List Int32} {pr pr' : Nat → Nat} {sb sb' : Nat → Bool} {u u' : Nat → List Int32} {ad ad' : Nat → Nat} (X : List Int32)
    (hA : A ≤ a) (hB : b ≤ B) (hS : S ≤ s) (hE : e ≤ E)
    {j : Nat} (h1 : a ≤ j) (h2 : j < b)
    (hm1 : ∀ t, a ≤ t → t < b → (m' t).1 = (m t).1)
    (hmn : ¬ ((m j).1 = 4 ∧ pj j = true) → m' j = m j)
    (hpp : (m j).1 = 4 → pj j = true → ch j = false → r j = -1 → fg_LC m' x' A B S E r' ch' pd' pj' l' pr' sb' u' ad' j)
    (hpj : pj j = false → pj' j = false)
    (hx : ∀ p, s ≤ p → p < e → x' p = x p)
    (hr : ∀ t, a ≤ t → t ≤ b → ch t = false → r' t = r t)
    (hc0 : ∀ t, a ≤ t → t ≤ b → ch t = false → ch' t = false)
    (hc1 : ∀ t, a ≤ t → t ≤ b → ch' t = true → ch t = true)
    (hcj : ch' j = ch j)
    (hd0 : ∀ t, a ≤ t → t ≤ b → pd t = false → pd' t = false)
    (hd1 : ∀ t t', a ≤ t → t ≤ b → a ≤ t' → t' ≤ b → pd t = pd t' → pd' t = pd' t')
    (hl0 : ∀ t, a ≤ t → t ≤ b → pd t = false → l' t = l t)
    (hl1 : ∀ t, j ≤ t → t ≤ b → pd t = true → l' t = l t ++ X)
    (hpc : ∀ t, a ≤ t → t ≤ b → pd t = true → ch t = true)
    (hq : ∀ t, a ≤ t → t ≤ b → ch' t = true → pr' t = pr t)
    (hs : ∀ p, s ≤ p → p < e → sb' p = sb p)
    (hu : ∀ p, s ≤ p → p < e → u' p = u p)
    (ha : ∀ p, s ≤ p → p < e → ad' p = ad p)
    (h : fg_LC m x a b s e r ch pd pj l pr sb u ad j) : fg_LC m' x' A B S E r' ch' pd' pj' l' pr' sb' u' ad' j := by
  have h3 : j ≤ b := Nat.le_of_lt h2
  rcases h with ⟨h4, hcc, hh⟩ | ⟨p, p1, p2, p3, p4, p5, p6, p7, p8, p9, p10⟩ | ⟨h4, t1, t2, a1, a2, a3, a4, a5, a6, a7, a8, hh⟩
  · rcases hh with ⟨e1, e2⟩ | ⟨e1, t, t1, t2, t3, t4, t5, t6⟩
    · exact hpp h4 e1 hcc e2
    · have hm := hmn (fun h => by rw [e1] at h; cases h.2)
      refine Or.inl ⟨by rw [hm]; exact h4, by rw [hcj]; exact hcc, Or.inr ⟨hpj e1, t, by omega, by omega, by rw [hm]; exact t3, hc0 t t1 t2 t4, by rw [hr j h1 h3 hcc, hr t t1 t2 t4, t5], ?_⟩⟩
      rcases t6 with h | ⟨h, h'⟩
      · exact Or.inl h
      · exact Or.inr ⟨by omega, by rw [hm1 t t1 h]; exact h'⟩
  · have n4 := (fg_SG_4 p10).1
    have hm := hmn (fun h => n4 h.1)
    exact Or.inr (Or.inl ⟨p, by omega, by omega, by rw [hs p p1 p2]; exact p3, by rw [ha p p1 p2, p4], by rw [hr j h1 h3 p6, p5], by rw [hcj]; exact p6, by rw [hm]; exact p7, hc0 _ (by omega) (by omega) p8, by rw [hx p p1 p2, hr (j + 1) (by omega) (by omega) p8, p9], by rw [hm, hx p p1 p2]; exact p10⟩)
  · have hm := hmn (fun h => by have := h.1; rw [h4] at this; exact absurd this (by decide))
    refine Or.inr (Or.inr ⟨by rw [hm]; exact h4, t1, t2, by omega, by omega, by rw [hm]; exact a3, hc0 t1 a1 a2 a4, by omega, by omega, by rw [hm]; exact a7, ?_, ?_⟩)
    · intro h
      rw [hq t2 a5 a6 h]
      exact a8 (hc1 t2 a5 a6 h)
    · rcases hh with ⟨c1, c2, p, p1, p2, p3, p4, p5, p6, p7⟩ | ⟨c1, c2, c3⟩
      · exact Or.inl ⟨by rw [hcj]; exact c1, hd0 t2 a5 a6 c2, p, by omega, by omega, by rw [hs p p1 p2]; exact p3, by rw [ha p p1 p2, p4], by rw [hr j h1 h3 c1, p5], by rw [hx p p1 p2]; exact p6, by rw [hu p p1 p2, p7, hr t1 a1 a2 a4, hl0 t2 a5 a6 c2]⟩
      · refine Or.inr ⟨by rw [hcj]; exact c1, hd1 j t2 h1 h3 a5 a6 c2, ?_⟩
        cases hb : pd j with
        | false =>
          rw [hb] at c2
          rw [hl0 j h1 h3 hb, c3, hr t1 a1 a2 a4, hl0 t2 a5 a6 c2.symm]
        | true =>
          rw [hb] at c2
          have ht := (a8 (hpc t2 a5 a6 c2.symm)).2
          rw [hl1 j (Nat.le_refl _) h3 hb, c3, hr t1 a1 a2 a4, hl1 t2 (by omega) a6 c2.symm]; rfl
theorem fg_pa1 {m m' x : Nat → fg_I} {a b s e : Nat} {en : Int32} (h : fg_F m x a b s e en)
    (hm : ∀ j, a ≤ j → j < b → m' (j + 1) = m j) (ha : (m' a).1 = 3) (ha1 : nI a + (m' a).2.2.1 = nI (a + 1)) (ha2 : nI a + (m' a).2.2.2 = nI (b + 2)) (hj : (m' (b + 1)).1 = 4) :
    fg_PA m' x a (b + 2) s e en [b + 1] := by
  obtain ⟨g1, g2, g3, g4, g5, r1, ch1, l1, pr1, sb1, u1, ad1, pa1, ra1, rb1, ca1, cb1, H⟩ := h
  obtain ⟨ch, c1, c2, c3⟩ := fg_gl3 (show a + 1 ≤ b + 2 by omega) (fun _ => true) (fun j => ch1 (j - 1)) (fun _ => true)
  obtain ⟨pd, d1, d2, d3⟩ := fg_gl3 (show a + 1 ≤ b + 2 by omega) (fun _ => true) (fun _ => false) (fun _ => true)
  obtain ⟨pj, j1, j2⟩ := fg_gl (b + 1) (fun _ => false) (fun _ => true)
  obtain ⟨l, l1', l2, l3⟩ := fg_gl3 (show a + 1 ≤ b + 2 by omega) (fun _ => [en]) (fun j => l1 (j - 1)) (fun _ => [])
  obtain ⟨pr, p1, p2⟩ := fg_gl (b + 2) (fun j => pr1 (j - 1) + 1) (fun _ => a)
  obtain ⟨A1, A2, A3, A4⟩ := fg_part (A := a) (B := b + 2) (S := s) (E := e) (m' := m') (x' := x) (r' := fun j => r1 (j - 1)) (ch' := ch) (pd' := pd) (pj' := pj) (l' := l) (pr' := pr) (sb' := sb1) (u' := u1) (ad' := fun p => ad1 p + 1) (pa' := pa1) 1 0 id H (by omega) (by omega) (Nat.le_refl _) (Nat.le_refl _) (fun q _ _ => rfl) (fun j _ _ h => fg_ff h) (Or.inl rfl) hm (fun p p1 p2 => rfl)
    (fun j _ _ => by rw [Nat.add_sub_cancel]; rfl) (fun j j1 j2 => by rw [c2 (j + 1) (by omega) (by omega), Nat.add_sub_cancel]) (fun j _ _ => d2 (j + 1) (by omega) (by omega)) (fun j _ _ => j1 (j + 1) (by omega)) (fun j j1 j2 => by rw [l2 (j + 1) (by omega) (by omega), Nat.add_sub_cancel, List.map_id]) (fun j _ _ _ => by rw [p1 (j + 1) (by omega), Nat.add_sub_cancel])
    (fun p _ _ => rfl) (fun p _ _ => (List.map_id _).symm) (fun p _ _ => rfl) (fun p _ _ _ => rfl)
  have ca : ch a = true := c1 a (by omega)
  have cb : ch (b + 2) = true := c3 _ (by omega)
  have la : l a = [en] := l1' a (by omega)
  have lb : l (b + 2) = [] := l3 _ (by omega)
  have ten : fg_tg s e sb1 en := by rw [← ra1]; exact fg_B_r H (Nat.le_refl _) g1 ca1
  refine ⟨by omega, g2, by omega, ?_, fun j => r1 (j - 1), ch, pd, pj, l, pr, sb1, u1, fun p => ad1 p + 1, pa1, ha, ca, d1 a (by omega), cb, d3 _ (by omega), lb, Or.inl ⟨la, ten⟩, ?_, ?_, ?_, ?_, ?_, ?_⟩
  · intro j hj'
    rw [List.mem_singleton] at hj'
    rw [hj']; exact ⟨by omega, by omega, hj⟩
  · intro j k1 k2
    rw [List.mem_singleton]
    refine ⟨fun h => ?_, fun h => ?_⟩
    · by_cases h0 : j < b + 1
      · rw [j1 j h0] at h; cases h.2
      · omega
    · rw [h]; exact ⟨hj, j2 _ (Nat.le_refl _)⟩
  · intro j k1 k2 k3
    by_cases h0 : j = a
    · rw [h0]; exact ca
    · by_cases h1 : j < b + 2
      · rw [d2 j (by omega) h1] at k3; cases k3
      · exact c3 j (by omega)
  · intro j k1 k2
    by_cases h0 : j = a
    · rw [h0]
      refine Or.inr (Or.inr ⟨ha, a + 1, b + 2, by omega, by omega, ha1, by rw [c2 (a + 1) (by omega) (by omega), Nat.add_sub_cancel, ca1], by omega, Nat.le_refl _, ha2, fun _ => ⟨p2 _ (by omega), by omega⟩, Or.inr ⟨ca, by rw [d1 a (by omega), d3 _ (Nat.le_refl _)], ?_⟩⟩)
      rw [la, lb]
      show _ = [r1 (a + 1 - 1)]
      rw [Nat.add_sub_cancel, ra1]
    · by_cases h1 : j < b + 1
      · exact A1 j (by omega) h1
      · obtain rfl : j = b + 1 := by omega
        refine Or.inl ⟨hj, by rw [c2 (b + 1) (by omega) (by omega), Nat.add_sub_cancel, cb1], Or.inl ⟨j2 _ (Nat.le_refl _), ?_⟩⟩
        show r1 (b + 1 - 1) = _
        rw [Nat.add_sub_cancel, rb1]
  · intro j k1 k2 k3
    by_cases h0 : j = a
    · rw [h0, ca] at k3; cases k3
    · by_cases h1 : j ≤ b + 1
      · exact A2 j (by omega) h1 k3
      · obtain rfl : j = b + 2 := by omega
        rw [cb] at k3; cases k3
  · intro j k1 k2 y hy
    by_cases h0 : j = a
    · rw [h0, la] at hy
      rw [List.mem_singleton.mp hy]; exact ten
    · by_cases h1 : j ≤ b + 1
      · exact A3 j (by omega) h1 y hy
      · obtain rfl : j = b + 2 := by omega
        rw [lb] at hy; cases hy
  · exact A4
/-- the pieces' side of a new fork over the branches that are done -/
theorem fg_forkX {x x' : Nat → fg_I} {s q e : Nat} {sb1 sb : Nat → Bool} {u1 u : Nat → List Int32} {pa : Nat → Nat} {en0 x1 : Int32} {L : List Int32}
    (hq : q ≤ e) (hE : fg_EU x s q sb1 u1 en0 L) (hx : ∀ p, s ≤ p → p < q → x' p = x p) (hs : ∀ p, p < q → sb p = sb1 p) (hu : ∀ p, p < q → u p = u1 p) (hue : u e = L ++ [x1])
    (hp : ∀ p, p + 1 = q → pa p = e) (hk : (x' e).1 = 4) (hk2 : (x' e).2.2 = (en0, x1)) : fg_XC x' s sb u pa e := by
  refine ⟨fun _ => hk, fun _ => ?_⟩
  rcases hE with ⟨h, _⟩ | ⟨p, p1, p2, p3, p4, p5, p6⟩
  · refine Or.inr ?_
    rw [hue, h, hk2]; rfl
  · refine Or.inl ⟨p, by rw [hk2]; exact p1, p2, by omega, by rw [hs p (by omega)]; exact p4, by rw [hx p p2 (by omega)]; exact p5, hp p p3, ?_⟩
    rw [hue, hu p (by omega), p6, hk2]
theorem fg_paN {m m' x x' : Nat → fg_I} {a b c s q e : Nat} {en0 x1 : Int32} {JL : List Nat} (h1 : fg_PA m x a b s q en0 JL) (h2 : fg_F m x b c q e x1)
    (hm0 : ∀ j, a ≤ j → j < b → m' j = m j) (hm : ∀ j, b ≤ j → j < c → m' (j + 1) = m j) (hb : (m' b).1 = 3) (hb1 : nI b + (m' b).2.2.1 = nI (b + 1)) (hb2 : nI b + (m' b).2.2.2 = nI (c + 2)) (hj : (m' (c + 1)).1 = 4)
    (hx : ∀ p, s ≤ p → p < e → x' p = x p) (hk : (x' e).1 = 4) (hk2 : (x' e).2.2 = (en0, x1)) :
    fg_PA m' x' a (c + 2) s (e + 1) (nI e) ((c + 1) :: JL) := by
  obtain ⟨g1, g2, g3, g4, r1, ch1, pd1, pj1, l1, pr1, sb1, u1, ad1, pa1, ma, ca1, da1, cb1, db1, lb1, hE, hJ, hpc, H1⟩ := h1
  obtain ⟨f1, f2, f3, f4, f5, r2, ch2, l2, pr2, sb2, u2, ad2, pa2, ra2, rb2, ca2, cb2, H2⟩ := h2
  obtain ⟨r, rl, rh⟩ := fg_gl (b + 1) r1 (fun j => r2 (j - 1))
  obtain ⟨ch, c1, c2, c3⟩ := fg_gl3 (show b + 1 ≤ c + 2 by omega) ch1 (fun j => ch2 (j - 1)) (fun _ => true)
  obtain ⟨pd, d1, d2, d3⟩ := fg_gl3 (show b + 1 ≤ c + 2 by omega) pd1 (fun _ => false) (fun _ => true)
  obtain ⟨pj, j1, j2, j3⟩ := fg_gl3 (show b + 1 ≤ c + 1 by omega) pj1 (fun _ => false) (fun _ => true)
  obtain ⟨l, k1, k2, k3⟩ := fg_gl3 (show b + 1 ≤ c + 2 by omega) (fun j => if pd1 j = true then l1 j ++ [x1] else l1 j) (fun j => l2 (j - 1)) (fun _ => [])
  obtain ⟨pr, p1, p2, p3⟩ := fg_gl3 (show b + 1 ≤ c + 2 by omega) pr1 (fun j => pr2 (j - 1) + 1) (fun _ => b)
  obtain ⟨sb, s1, s2, s3⟩ := fg_gl3 f2 sb1 sb2 (fun _ => true)
  obtain ⟨u, u1', u2', u3⟩ := fg_gl3 f2 u1 u2 (fun _ => l1 a ++ [x1])
  obtain ⟨ad, a1, a2, a3⟩ := fg_gl3 f2 ad1 (fun p => ad2 p + 1) (fun _ => 0)
  obtain ⟨pa, e1, e2, e3⟩ := fg_gl3 (show q - 1 ≤ q by omega) pa1 (fun _ => e) pa2
  have tx : fg_tg s (e + 1) sb x1 := by
    rw [← ra2]
    exact fg_tg_up (fg_B_r H2 (Nat.le_refl _) f1 ca2) (by omega) (by omega) (fun p q1 q2 => s2 p q1 q2)
  have tup : ∀ y, fg_tg s q sb1 y → fg_tg s (e + 1) sb y := fun y h => fg_tg_up h (Nat.le_refl _) (by omega) (fun p _ q2 => s1 p q2)
  obtain ⟨A1, A2, A3, A4⟩ := fg_part (A := a) (B := c + 2) (S := s) (E := e + 1) (m' := m') (x' := x') (r' := r) (ch' := ch) (pd' := pd) (pj' := pj) (l' := l) (pr' := pr) (sb' := sb) (u' := u) (ad' := ad) (pa' := pa) 1 0 id H2 (by omega) (by omega) (by omega) (by omega) (fun q _ _ => rfl) (fun j _ _ h => fg_ff h) (Or.inl rfl) hm (fun p q1 q2 => hx p (by omega) q2)
    (fun j _ _ => by rw [rh (j + 1) (by omega), Nat.add_sub_cancel]; rfl) (fun j j1 j2 => by rw [c2 (j + 1) (by omega) (by omega), Nat.add_sub_cancel]) (fun j _ _ => d2 (j + 1) (by omega) (by omega)) (fun j _ _ => j2 (j + 1) (by omega) (by omega)) (fun j _ _ => by rw [k2 (j + 1) (by omega) (by omega), Nat.add_sub_cancel, List.map_id]) (fun j _ _ _ => by rw [p2 (j + 1) (by omega) (by omega), Nat.add_sub_cancel])
    (fun p q1 q2 => s2 p q1 q2) (fun p q1 q2 => (u2' p q1 q2).trans (List.map_id _).symm) (fun p q1 q2 => a2 p q1 q2) (fun p q1 q2 _ => e3 p q1)
  have lp : ∀ t, a ≤ t → t ≤ b → pd1 t = true → l t = l1 t ++ [x1] := fun t _ t2 h => by rw [k1 t (by omega), if_pos h]
  have ln : ∀ t, a ≤ t → t ≤ b → pd1 t = false → l t = l1 t := fun t _ t2 h => by rw [k1 t (by omega), if_neg (by rw [h]; decide)]
  have la : l a = l1 a ++ [x1] := lp a (Nat.le_refl _) (by omega) da1
  have lb : l b = [x1] := by rw [lp b (by omega) (Nat.le_refl _) db1, lb1]; rfl
  refine ⟨by omega, by omega, by omega, ?_, r, ch, pd, pj, l, pr, sb, u, ad, pa, by rw [hm0 a (Nat.le_refl _) g1]; exact ma, by rw [c1 a (by omega)]; exact ca1, by rw [d1 a (by omega)]; exact da1, c3 _ (Nat.le_refl _), d3 _ (Nat.le_refl _), k3 _ (Nat.le_refl _), Or.inr ⟨e, rfl, by omega, rfl, s3 e (Nat.le_refl _), hk, by rw [u3 e (Nat.le_refl _), la]⟩, ?_, ?_, ?_, ?_, ?_, ?_⟩
  · intro j hj'
    rcases List.mem_cons.mp hj' with h | h
    · rw [h]; exact ⟨by omega, by omega, hj⟩
    · have := g4 j h
      exact ⟨this.1, by omega, by rw [hm0 j this.1 this.2.1]; exact this.2.2⟩
  · intro j v1 v2
    rw [List.mem_cons]
    by_cases h0 : j < b
    · rw [hm0 j v1 h0, j1 j (by omega), hJ j v1 h0]
      exact ⟨Or.inr, fun h => h.elim (fun h => by omega) id⟩
    · by_cases h1 : j < c + 1
      · refine ⟨fun h => ?_, fun h => ?_⟩
        · by_cases h2 : j = b
          · rw [h2, hb] at h; exact absurd h.1 (by decide)
          · rw [j2 j (by omega) h1] at h; cases h.2
        · rcases h with h | h
          · omega
          · have := g4 j h; omega
      · obtain rfl : j = c + 1 := by omega
        exact ⟨fun _ => Or.inl rfl, fun _ => ⟨hj, j3 _ (Nat.le_refl _)⟩⟩
  · intro j v1 v2 v3
    by_cases h0 : j ≤ b
    · rw [d1 j (by omega)] at v3
      rw [c1 j (by omega)]; exact hpc j v1 h0 v3
    · by_cases h1 : j < c + 2
      · rw [d2 j (by omega) h1] at v3; cases v3
      · exact c3 j (by omega)
  · intro j v1 v2
    by_cases h0 : j < b
    · refine fg_app [x1] (Nat.le_refl _) (by omega) (Nat.le_refl _) (by omega) v1 h0 (fun t t1 t2 => by rw [hm0 t t1 t2]) (fun _ => hm0 j v1 h0) (fun y1 y2 y3 y4 => Or.inl ⟨by rw [hm0 j v1 h0]; exact y1, by rw [c1 j (by omega)]; exact y3, Or.inl ⟨by rw [j1 j (by omega)]; exact y2, by rw [rl j (by omega)]; exact y4⟩⟩) (fun y => by rw [j1 j (by omega)]; exact y) (fun p p1 p2 => hx p p1 (by omega)) (fun t _ t2 _ => rl t (by omega)) (fun t _ t2 y => by rw [c1 t (by omega)]; exact y) (fun t _ t2 y => by rw [c1 t (by omega)] at y; exact y) (c1 j (by omega)) (fun t _ t2 y => by rw [d1 t (by omega)]; exact y) (fun t t' _ t2 _ t4 y => by rw [d1 t (by omega), d1 t' (by omega)]; exact y) ln (fun t t1 t2 y => lp t (by omega) t2 y) hpc (fun t _ t2 _ => p1 t (by omega)) (fun p _ p2 => s1 p p2) (fun p _ p2 => u1' p p2) (fun p _ p2 => a1 p p2) (H1.1 j v1 h0)
    · by_cases h1 : j = b
      · rw [h1]
        refine Or.inr (Or.inr ⟨hb, b + 1, c + 2, by omega, by omega, hb1, by rw [c2 (b + 1) (by omega) (by omega), Nat.add_sub_cancel, ca2], by omega, Nat.le_refl _, hb2, fun _ => ⟨p3 _ (Nat.le_refl _), by omega⟩, Or.inr ⟨by rw [c1 b (by omega)]; exact cb1, by rw [d1 b (by omega), db1, d3 _ (Nat.le_refl _)], ?_⟩⟩)
        rw [lb, k3 _ (Nat.le_refl _), rh (b + 1) (Nat.le_refl _), Nat.add_sub_cancel, ra2]
      · by_cases h2 : j < c + 1
        · exact A1 j (by omega) h2
        · obtain rfl : j = c + 1 := by omega
          exact Or.inl ⟨hj, by rw [c2 (c + 1) (by omega) (by omega), Nat.add_sub_cancel, cb2], Or.inl ⟨j3 _ (Nat.le_refl _), by rw [rh (c + 1) (by omega), Nat.add_sub_cancel, rb2]⟩⟩
  · intro j v1 v2 v3
    by_cases h0 : j ≤ b
    · rw [c1 j (by omega)] at v3
      have hpd : pd1 j = false := by
        cases hh : pd1 j with
        | false => rfl
        | true => have := hpc j v1 h0 hh; rw [v3] at this; cases this
      rw [ln j v1 h0 hpd, rl j (by omega)]
      exact H1.2.1 j v1 h0 v3
    · by_cases h1 : j ≤ c + 1
      · exact A2 j (by omega) h1 v3
      · rw [c3 j (by omega)] at v3; cases v3
  · intro j v1 v2 y hy
    by_cases h0 : j ≤ b
    · cases hh : pd1 j with
      | false => rw [ln j v1 h0 hh] at hy; exact tup y (H1.2.2.1 j v1 h0 y hy)
      | true =>
        rw [lp j v1 h0 hh] at hy
        rcases List.mem_append.mp hy with h | h
        · exact tup y (H1.2.2.1 j v1 h0 y h)
        · rw [List.mem_singleton.mp h]; exact tx
    · by_cases h1 : j ≤ c + 1
      · exact A3 j (by omega) h1 y hy
      · rw [k3 j (by omega)] at hy; cases hy
  · intro p v1 v2
    by_cases h0 : p < q
    · exact fg_xmap (s := s) (e := q) 0 id (Nat.le_refl _) (fun _ _ _ => rfl) (fun p p1 p2 => hx p p1 (by omega)) (fun p _ p2 => s1 p p2) (fun p _ p2 => (u1' p p2).trans (List.map_id _).symm) (fun p _ p2 _ => e1 p (by omega)) v1 h0 (H1.2.2.2 p v1 h0)
    · by_cases h1 : p < e
      · exact A4 p (by omega) h1
      · obtain rfl : p = e := by omega
        exact fg_forkX f2 hE (fun p p1 p2 => hx p p1 (by omega)) s1 u1' (u3 _ (Nat.le_refl _)) (fun p hp => e2 p (by omega) (by omega)) hk hk2
theorem fg_close {m m' x x' : Nat → fg_I} {a b c s q e : Nat} {en0 x1 : Int32} {JL : List Nat} (h1 : fg_PA m x a b s q en0 JL) (h2 : fg_F m x b c q e x1) (he : e < 999)
    (hm0 : ∀ j, a ≤ j → j < c → ¬ j ∈ JL → m' j = m j) (hm1 : ∀ j, j ∈ JL → (m' j).1 = 4 ∧ nI j + (m' j).2.2.1 = nI c)
    (hx : ∀ p, s ≤ p → p < e → x' p = x p) (hk : (x' e).1 = 4) (hk2 : (x' e).2.2 = (en0, x1)) :
    fg_F m' x' a c s (e + 1) (nI e) := by
  obtain ⟨g1, g2, g3, g4, r1, ch1, pd1, pj1, l1, pr1, sb1, u1, ad1, pa1, ma, ca1, da1, cb1, db1, lb1, hE, hJ, hpc, H1⟩ := h1
  obtain ⟨f1, f2, f3, f4, f5, r2, ch2, l2, pr2, sb2, u2, ad2, pa2, ra2, rb2, ca2, cb2, H2⟩ := h2
  obtain ⟨r, q1, q2, q3⟩ := fg_gl3 (show a + 1 ≤ b by omega) (fun _ => nI e) r1 r2
  obtain ⟨ch, c1, c2, c3⟩ := fg_gl3 (show a + 1 ≤ b by omega) (fun _ => false) ch1 ch2
  obtain ⟨l, k1, k2, k3⟩ := fg_gl3 (show a + 1 ≤ b by omega) (fun _ => [nI e]) (fun j => if pd1 j = true then l1 j ++ [x1] else l1 j) l2
  obtain ⟨pr, p1, p2⟩ := fg_gl b pr1 pr2
  obtain ⟨sb, s1, s2, s3⟩ := fg_gl3 f2 sb1 sb2 (fun _ => false)
  obtain ⟨u, u1', u2', u3⟩ := fg_gl3 f2 u1 u2 (fun _ => l1 a ++ [x1])
  obtain ⟨ad, a1, a2, a3⟩ := fg_gl3 f2 ad1 ad2 (fun _ => a)
  obtain ⟨pa, e1, e2, e3⟩ := fg_gl3 (show q - 1 ≤ q by omega) pa1 (fun _ => e) pa2
  have tx : fg_tg s (e + 1) sb x1 := by
    rw [← ra2]
    exact fg_tg_up (fg_B_r H2 (Nat.le_refl _) f1 ca2) (by omega) (by omega) (fun p q1 q2 => s2 p q1 q2)
  have te : fg_tg s (e + 1) sb (nI e) := Or.inr ⟨e, by omega, by omega, s3 e (Nat.le_refl _), rfl⟩
  have tup : ∀ y, fg_tg s q sb1 y → fg_tg s (e + 1) sb y := fun y h => fg_tg_up h (Nat.le_refl _) (by omega) (fun p _ q2 => s1 p q2)
  have nJ : ∀ j, b ≤ j → ¬ j ∈ JL := fun j h h' => by have := g4 j h'; omega
  obtain ⟨A1, A2, A3, A4⟩ := fg_part (A := a) (B := c) (S := s) (E := e + 1) (m' := m') (x' := x') (r' := r) (ch' := ch) (pd' := fun _ => false) (pj' := fun _ => false) (l' := l) (pr' := pr) (sb' := sb) (u' := u) (ad' := ad) (pa' := pa) 0 0 id H2 (by omega) (Nat.le_refl _) (by omega) (by omega) (fun q _ _ => rfl) (fun j _ _ h => fg_ff h) (Or.inl rfl) (fun j j1 j2 => hm0 j (by omega) j2 (nJ j j1)) (fun p q1 q2 => hx p (by omega) q2)
    (fun j j1 _ => q3 j j1) (fun j j1 _ => c3 j j1) (fun _ _ _ => rfl) (fun _ _ _ => rfl) (fun j j1 _ => (k3 j j1).trans (List.map_id _).symm) (fun j j1 _ _ => p2 j j1)
    (fun p q1 q2 => s2 p q1 q2) (fun p q1 q2 => (u2' p q1 q2).trans (List.map_id _).symm) (fun p q1 q2 => a2 p q1 q2) (fun p q1 q2 _ => e3 p q1)
  have lb : l b = [x1] := by rw [k3 b (Nat.le_refl _), H2.2.1 b (Nat.le_refl _) f1 ca2, ra2]
  have lp : ∀ t, a < t → t ≤ b → pd1 t = true → l t = l1 t ++ [x1] := fun t t1 t2 h => by
    by_cases h0 : t < b
    · rw [k2 t t1 h0, if_pos h]
    · obtain rfl : t = b := by omega
      rw [lb, lb1]; rfl
  have ln : ∀ t, a ≤ t → t ≤ b → pd1 t = false → l t = l1 t := fun t t1 t2 h => by
    by_cases h0 : t < b
    · by_cases h3 : t = a
      · rw [h3, da1] at h; cases h
      · rw [k2 t (by omega) h0, if_neg (by rw [h]; decide)]
    · obtain rfl : t = b := by omega
      rw [db1] at h; cases h
  have rn : ∀ t, a ≤ t → t ≤ b → ch1 t = false → r t = r1 t := fun t t1 t2 h => by
    by_cases h3 : t = a
    · rw [h3, ca1] at h; cases h
    · by_cases h4 : t = b
      · rw [h4, cb1] at h; cases h
      · exact q2 t (by omega) (by omega)
  have cn0 : ∀ t, a ≤ t → t ≤ b → ch1 t = false → ch t = false := fun t t1 t2 h => by
    by_cases h3 : t = a
    · rw [h3, ca1] at h; cases h
    · by_cases h4 : t = b
      · rw [h4, cb1] at h; cases h
      · rw [c2 t (by omega) (by omega)]; exact h
  have cn1 : ∀ t, a ≤ t → t ≤ b → ch t = true → ch1 t = true ∧ t < b := fun t t1 t2 h => by
    by_cases h3 : t = a
    · rw [h3, c1 a (by omega)] at h; cases h
    · by_cases h4 : t = b
      · rw [h4, c3 b (Nat.le_refl _), ca2] at h; cases h
      · rw [c2 t (by omega) (by omega)] at h; exact ⟨h, by omega⟩
  have naJ : ¬ a ∈ JL := fun h => by have := (g4 a h).2.2; rw [ma] at this; exact absurd this (by decide)
  have rc : r c = -1 := by rw [q3 c f1, rb2]
  have cc : ch c = false := by rw [c3 c f1, cb2]
  have re : r a = nI e := q1 a (by omega)
  have ce : ch a = false := c1 a (by omega)
  have m1 : ∀ t, a ≤ t → t < c → (m' t).1 = (m t).1 := fun t t1 t2 => by
    by_cases h : t ∈ JL
    · rw [(hm1 t h).1, (g4 t h).2.2]
    · rw [hm0 t t1 t2 h]
  refine ⟨by omega, by omega, by omega, fun h => absurd h (fg_ne (by omega)), by omega, r, ch, l, pr, sb, u, ad, pa, re, rc, ce, cc, ?_, ?_, ?_, ?_⟩
  · intro j v1 v2
    by_cases h3 : j = a
    · rw [h3]
      have hmA := hm0 a (Nat.le_refl _) (by omega) naJ
      rcases H1.1 a (Nat.le_refl _) g1 with ⟨h4, _⟩ | ⟨p, _, _, _, _, _, h4, _⟩ | ⟨h4, t1, t2, b1, b2, b3, b4, b5, b6, b7, b8, hh⟩
      · rw [ma] at h4; exact absurd h4 (by decide)
      · rw [ca1] at h4; cases h4
      · rcases hh with ⟨h5, _⟩ | ⟨_, h6, h7⟩
        · rw [ca1] at h5; cases h5
        · rw [da1] at h6
          have hc2 := hpc t2 b5 b6 h6.symm
          have h8 := b8 hc2
          refine Or.inr (Or.inr ⟨by rw [hmA]; exact ma, t1, t2, b1, by omega, by rw [hmA]; exact b3, cn0 t1 b1 b2 b4, b5, by omega, by rw [hmA]; exact b7, fun h => ?_, Or.inl ⟨ce, rfl, e, by omega, by omega, s3 e (Nat.le_refl _), a3 e (Nat.le_refl _), re, hk, ?_⟩⟩)
          · have h9 := cn1 t2 b5 b6 h
            rw [p1 t2 h9.2]; exact h8
          · rw [u3 e (Nat.le_refl _), h7, rn t1 b1 b2 b4, lp t2 h8.2 b6 h6.symm]; rfl
    · by_cases h0 : j < b
      · refine fg_app [x1] (Nat.le_refl _) f1 (Nat.le_refl _) (by omega) v1 h0 (fun t t1 t2 => m1 t t1 (by omega)) (fun h => hm0 j v1 (by omega) (fun h' => h ((hJ j v1 h0).mpr h'))) (fun y1 y2 y3 y4 => ?_) (fun _ => rfl) (fun p p1 p2 => hx p p1 (by omega)) rn cn0 (fun t t1 t2 y => (cn1 t t1 t2 y).1) (c2 j (by omega) h0) (fun _ _ _ _ => rfl) (fun _ _ _ _ _ _ _ => rfl) ln (fun t t1 t2 y => lp t (by omega) t2 y) hpc (fun t t1 t2 y => p1 t (cn1 t t1 t2 y).2) (fun p _ p2 => s1 p p2) (fun p _ p2 => u1' p p2) (fun p _ p2 => a1 p p2) (H1.1 j v1 h0)
        have hJj := (hJ j v1 h0).mp ⟨y1, y2⟩
        exact Or.inl ⟨(hm1 j hJj).1, cn0 j v1 (by omega) y3, Or.inr ⟨rfl, c, by omega, Nat.le_refl _, (hm1 j hJj).2, cc, by rw [rn j v1 (by omega) y3, rc]; exact y4, Or.inl v2⟩⟩
      · exact A1 j (by omega) v2
  · intro j v1 v2 v3
    by_cases h3 : j = a
    · rw [h3, k1 a (by omega), re]
    · by_cases h0 : j < b
      · rw [c2 j (by omega) h0] at v3
        have hpd : pd1 j = false := by
          cases hh : pd1 j with
          | false => rfl
          | true => have := hpc j v1 (by omega) hh; rw [v3] at this; cases this
        rw [ln j v1 (by omega) hpd, rn j v1 (by omega) v3]
        exact H1.2.1 j v1 (by omega) v3
      · exact A2 j (by omega) v2 v3
  · intro j v1 v2 y hy
    by_cases h3 : j = a
    · rw [h3, k1 a (by omega)] at hy
      rw [List.mem_singleton.mp hy]; exact te
    · by_cases h0 : j < b
      · cases hh : pd1 j with
        | false => rw [ln j v1 (by omega) hh] at hy; exact tup y (H1.2.2.1 j v1 (by omega) y hy)
        | true =>
          rw [lp j (by omega) (by omega) hh] at hy
          rcases List.mem_append.mp hy with h | h
          · exact tup y (H1.2.2.1 j v1 (by omega) y h)
          · rw [List.mem_singleton.mp h]; exact tx
      · exact A3 j (by omega) v2 y hy
  · intro p v1 v2
    by_cases h0 : p < q
    · exact fg_xmap (s := s) (e := q) 0 id (Nat.le_refl _) (fun _ _ _ => rfl) (fun p p1 p2 => hx p p1 (by omega)) (fun p _ p2 => s1 p p2) (fun p _ p2 => (u1' p p2).trans (List.map_id _).symm) (fun p _ p2 _ => e1 p (by omega)) v1 h0 (H1.2.2.2 p v1 h0)
    · by_cases h1 : p < e
      · exact A4 p (by omega) h1
      · obtain rfl : p = e := by omega
        exact fg_forkX f2 hE (fun p p1 p2 => hx p p1 (by omega)) s1 u1' (u3 _ (Nat.le_refl _)) (fun p hp => e2 p (by omega) (by omega)) hk hk2
theorem fg_PA_frame {m x m' x' : Nat → fg_I} {a b s e : Nat} {en : Int32} {JL : List Nat} (h : fg_PA m x a b s e en JL)
    (hm : ∀ j, a ≤ j → j < b → m' j = m j) (hx : ∀ p, s ≤ p → p < e → x' p = x p) : fg_PA m' x' a b s e en JL := by
  obtain ⟨g1, g2, g3, g4, r, ch, pd, pj, l, pr, sb, u, ad, pa, ma, ca, da, cb, db, lb, hE, hJ, hpc, H⟩ := h
  refine ⟨g1, g2, g3, fun j hj => ?_, r, ch, pd, pj, l, pr, sb, u, ad, pa, by rw [hm a (Nat.le_refl _) g1]; exact ma, ca, da, cb, db, lb, ?_, fun j j1 j2 => by rw [hm j j1 j2]; exact hJ j j1 j2, hpc, ?_⟩
  · have := g4 j hj
    exact ⟨this.1, this.2.1, by rw [hm j this.1 this.2.1]; exact this.2.2⟩
  · rcases hE with h | ⟨q, q1, q2, q3, q4, q5, q6⟩
    · exact Or.inl h
    · exact Or.inr ⟨q, q1, q2, q3, q4, by rw [hx q q2 (by omega)]; exact q5, q6⟩
  · exact fg_part 0 0 id H (Nat.le_refl _) (Nat.le_refl _) (Nat.le_refl _) (Nat.le_refl _) (fun q _ _ => rfl) (fun _ _ _ _ => rfl) (Or.inl rfl) hm hx (fun _ _ _ => rfl) (fun _ _ _ => rfl) (fun _ _ _ => rfl) (fun _ _ _ => rfl) (fun j _ _ => (List.map_id (l j)).symm) (fun _ _ _ _ => rfl) (fun _ _ _ => rfl) (fun p _ _ => (List.map_id (u p)).symm) (fun _ _ _ => rfl) (fun _ _ _ _ => rfl)
end FH
end
section
section MT
/-! marks, counted -/
def mt_sn (x : Int64) (a : Nat) : Bool := x.toBitVec.getLsbD a
def mt_mk (s : Nat → Int64) (p a : Nat) : Nat → Int64 := vp_updL s p (s p ||| lN (2 ^ a))
theorem mt_sn_or {x : Int64} {a b : Nat} (hb : b < 64) : mt_sn (x ||| lN (2 ^ a)) b = (mt_sn x b || decide (b = a)) := by
  have e : (lN (2 ^ a)).toBitVec.getLsbD b = decide (b = a) := by
    show (BitVec.ofNat 64 (2 ^ a)).getLsbD b = _
    rw [BitVec.getLsbD_ofNat, Nat.testBit_two_pow]
    by_cases h : b = a
    · subst h; simp [hb]
    · have h' : ¬ a = b := fun h' => h h'.symm
      simp [h, h']
  unfold mt_sn
  rw [Int64.toBitVec_or, BitVec.getLsbD_or, e]
theorem mt_mk_s {s : Nat → Int64} {p a b : Nat} (hb : b < 64) : mt_sn (mt_mk s p a p) b = (mt_sn (s p) b || decide (b = a)) := by
  have : mt_mk s p a p = s p ||| lN (2 ^ a) := if_pos rfl
  rw [this, mt_sn_or hb]
theorem mt_mk_n {s : Nat → Int64} {p q a : Nat} (h : q ≠ p) : mt_mk s p a q = s q := if_neg h
theorem mt_mk_a {s : Nat → Int64} {p a : Nat} (ha : a < 64) : mt_sn (mt_mk s p a p) a = true := by
  rw [mt_mk_s ha]; simp
theorem mt_mk_up {s : Nat → Int64} {p q a b : Nat} (hb : b < 64) (h : mt_sn (s q) b = true) : mt_sn (mt_mk s p a q) b = true := by
  by_cases e : q = p
  · subst e; rw [mt_mk_s hb, h]; rfl
  · rw [mt_mk_n e]; exact h
theorem mt_mk_o {s : Nat → Int64} {p q a b : Nat} (hb : b < 64) (h : ¬ (q = p ∧ b = a)) : mt_sn (mt_mk s p a q) b = mt_sn (s q) b := by
  by_cases e : q = p
  · subst e
    have : ¬ b = a := fun h' => h ⟨rfl, h'⟩
    rw [mt_mk_s hb]; simp [this]
  · rw [mt_mk_n e]
def mt_c (x : Int64) : Nat → Nat
  | 0 => 0
  | n + 1 => mt_c x n + (if mt_sn x n = true then 0 else 1)
def mt_mu (s : Nat → Int64) : Nat → Nat
  | 0 => 0
  | n + 1 => mt_mu s n + mt_c (s n) 33
theorem mt_c_le (x : Int64) : ∀ n, mt_c x n ≤ n
  | 0 => Nat.le_refl _
  | n + 1 => by
    have := mt_c_le x n
    show mt_c x n + _ ≤ _
    split <;> omega
theorem mt_mu_le (s : Nat → Int64) : ∀ n, mt_mu s n ≤ 33 * n
  | 0 => Nat.le_refl _
  | n + 1 => by
    have := mt_mu_le s n
    have := mt_c_le (s n) 33
    show mt_mu s n + _ ≤ _
    omega
theorem mt_c_lo {x : Int64} {a : Nat} : ∀ n, n ≤ a → n ≤ 64 → mt_c (x ||| lN (2 ^ a)) n = mt_c x n
  | 0, _, _ => rfl
  | n + 1, h, h' => by
    show mt_c _ n + _ = mt_c x n + _
    rw [mt_c_lo n (by omega) (by omega), mt_sn_or (by omega)]
    have : ¬ n = a := by omega
    simp [this]
theorem mt_c_hi {x : Int64} {a : Nat} (h0 : mt_sn x a = false) : ∀ n, a < n → n ≤ 64 → mt_c (x ||| lN (2 ^ a)) n + 1 = mt_c x n
  | 0, h, _ => by omega
  | n + 1, h, h' => by
    show mt_c _ n + _ + 1 = mt_c x n + _
    rw [mt_sn_or (by omega)]
    by_cases e : n = a
    · subst e
      rw [mt_c_lo n (Nat.le_refl _) (by omega), h0]
      simp
    · rw [← mt_c_hi h0 n (by omega) (by omega)]
      simp [e]
      omega
theorem mt_mu_lo {s : Nat → Int64} {p a : Nat} : ∀ n, n ≤ p → mt_mu (mt_mk s p a) n = mt_mu s n
  | 0, _ => rfl
  | n + 1, h => by
    show mt_mu _ n + mt_c _ 33 = mt_mu s n + _
    rw [mt_mu_lo n (by omega), mt_mk_n (by omega)]
theorem mt_mu_hi {s : Nat → Int64} {p a : Nat} (h0 : mt_sn (s p) a = false) (ha : a < 33) : ∀ n, p < n → mt_mu (mt_mk s p a) n + 1 = mt_mu s n
  | 0, h => by omega
  | n + 1, h => by
    show mt_mu _ n + mt_c _ 33 + 1 = mt_mu s n + mt_c _ 33
    by_cases e : n = p
    · subst e
      have : mt_mk s n a n = s n ||| lN (2 ^ a) := if_pos rfl
      rw [mt_mu_lo n (Nat.le_refl _), this, ← mt_c_hi h0 33 ha (by omega)]
      omega
    · rw [← mt_mu_hi h0 ha n (by omega), mt_mk_n e]
      omega
/-! stacks -/
def mt_un (v : Nat → Nat) (k o : Nat) : Nat → Nat := fun j => if j = k then o else v j
theorem mt_un_un (v : Nat → Nat) (k o : Nat) : mt_un (mt_un v k o) k (v k) = v := by
  funext j
  by_cases h : j = k
  · subst h; simp [mt_un]
  · simp [mt_un, h]
abbrev mt_E : Type := Bool × Nat × Nat
abbrev mt_C : Type := Int32 × Nat × Int64
def mt_Ex (l : Nat → List Int32) (NX : Int64 → (Nat → Nat) → Prop) : (Nat → Nat) → List mt_E → List mt_C → Prop
  | _, [], X => X = []
  | v, (true, k, o) :: Y, X => mt_Ex l NX (mt_un v k o) Y X
  | v, (false, i, a) :: Y, X => ∃ w X', NX w v ∧ X = (l i).map (fun q => (q, a, w)) ++ X' ∧ mt_Ex l NX v Y X'
def mt_CS (ch : Nat → Bool) (pr : Nat → Nat) (met : Nat → Int64) : List mt_E → Prop
  | [] => True
  | e :: Y => (e.1 = false → ch e.2.1 = true → mt_sn (met e.2.1) e.2.2 = false ∧ mt_sn (met (pr e.2.1)) e.2.2 = true ∧ ¬ e ∈ Y) ∧ mt_CS ch pr met Y
def mt_U : List mt_E → Nat
  | [] => 0
  | e :: Y => mt_U Y + (if e.1 = true then 1 else 0)
theorem mt_CS_mem {ch : Nat → Bool} {pr : Nat → Nat} {met : Nat → Int64} {i a : Nat} (hc : ch i = true) : ∀ Y : List mt_E, mt_CS ch pr met Y → (false, i, a) ∈ Y → mt_sn (met (pr i)) a = true
  | [], _, h => by cases h
  | e :: Y, h, hm => by
    rcases List.mem_cons.mp hm with h' | h'
    · rw [← h'] at h
      exact (h.1 rfl hc).2.1
    · exact mt_CS_mem hc Y h.2 h'
theorem mt_CS_mk {ch : Nat → Bool} {pr : Nat → Nat} {met : Nat → Int64} {i a : Nat} (ha : a < 64) : ∀ Y : List mt_E, (∀ e, e ∈ Y → e.2.2 < 64) → (ch i = false ∨ ¬ (false, i, a) ∈ Y) → mt_CS ch pr met Y → mt_CS ch pr (mt_mk met i a) Y
  | [], _, _, _ => trivial
  | e :: Y, hv, hi, h => by
    refine ⟨fun h1 h2 => ?_, mt_CS_mk ha Y (fun e' h' => hv e' (List.mem_cons_of_mem _ h')) (hi.imp id (fun h' h'' => h' (List.mem_cons_of_mem _ h''))) h.2⟩
    obtain ⟨b1, b2, b3⟩ := h.1 h1 h2
    have he : e.2.2 < 64 := hv e List.mem_cons_self
    refine ⟨?_, mt_mk_up he b2, b3⟩
    rw [mt_mk_o he (fun h' => ?_)]
    · exact b1
    · rcases hi with hi | hi
      · rw [← h'.1, h2] at hi; cases hi
      · apply hi
        obtain ⟨e1, e2, e3⟩ := e
        obtain ⟨y1, y2⟩ := h'
        dsimp only at h1 y1 y2
        rw [h1, y1, y2]
        exact List.mem_cons_self
end MT
end
section
section MS
def mt_go (len : Nat) (ft : Int32 → Nat → Prop) (k v : Int32) (a : Nat) : Prop := (k = 0 ∧ a < len ∧ ft v a) ∨ (k = 1 ∧ a = 0) ∨ (k = 2 ∧ a = len)
def mt_nx (k : Int32) (a : Nat) : Nat := if k = 0 then a + 1 else a
/-- what the component's search asks, step by step -/
def mt_X (x : Nat → fg_I) (P len : Nat) (all : Prop) (ft : Int32 → Nat → Prop) (nw : Int64 → Nat → Nat → Int64)
    (WX : (Option (Nat × Int64) → Prop) → Nat → Nat → (Nat → Int64) → List mt_C → Int32 → Nat → Int64 → Prop) (WP : (Option (Nat × Int64) → Prop) → Nat → Nat → (Nat → Int64) → List mt_C → Prop) : Prop :=
  (∀ Q f t s st a w, t < 2378 → a ≤ len → (all → a = len) → Q (some (a, w)) → WX Q (f + 1) t s st (-1) a w) ∧
  (∀ Q f t s st a w, t < 2378 → a ≤ len → all → ¬ a = len → WP Q f t s st → WX Q (f + 1) t s st (-1) a w) ∧
  (∀ Q f t s st p a w, t < 2378 → a ≤ len → p < P → mt_sn (s p) a = true → WP Q f t s st → WX Q (f + 1) t s st (nI p) a w) ∧
  (∀ Q f t s st p a w, t < 2378 → a ≤ len → p < P → mt_sn (s p) a = false → ((x p).1 = 0 ∨ (x p).1 = 1 ∨ (x p).1 = 2) → ¬ mt_go len ft (x p).1 (x p).2.1 a → WP Q f t (mt_mk s p a) st → WX Q (f + 1) t s st (nI p) a w) ∧
  (∀ Q f t s st p a w, t < 2378 → a ≤ len → p < P → mt_sn (s p) a = false → ((x p).1 = 0 ∨ (x p).1 = 1 ∨ (x p).1 = 2) → mt_go len ft (x p).1 (x p).2.1 a → WX Q f (t + 1) (mt_mk s p a) st (x p).2.2.1 (mt_nx (x p).1 a) w → WX Q (f + 1) t s st (nI p) a w) ∧
  (∀ Q f t s st p a w k, t < 2378 → a ≤ len → p < P → mt_sn (s p) a = false → (x p).1 = 3 → (x p).2.1 = nI k → k < 6 → WX Q f (t + 1) (mt_mk s p a) st (x p).2.2.1 a (nw w k a) → WX Q (f + 1) t s st (nI p) a w) ∧
  (∀ Q f t s st p a w, t < 2378 → a ≤ len → p < P → mt_sn (s p) a = false → (x p).1 = 4 → st.length < 1188 → WX Q f (t + 1) (mt_mk s p a) (((x p).2.2.2, a, w) :: st) (x p).2.2.1 a w → WX Q (f + 1) t s st (nI p) a w) ∧
  (∀ Q f t s st q a w, t < 2378 → st.length < 1188 → WX Q f (t + 1) s st q a w → WP Q f t s ((q, a, w) :: st)) ∧
  (∀ Q f t s, Q none → WP Q f t s [])
/-- what the reference's search asks, step by step -/
def mt_Y (m : Nat → fg_I) (E len : Nat) (all : Prop) (ft : Int32 → Nat → Prop)
    (WI : (Option (Nat × (Nat → Int32)) → Prop) → Nat → (Nat → Int64) → List mt_E → (Nat → Int32) → Nat → Nat → Prop) (WO : (Option (Nat × (Nat → Int32)) → Prop) → Nat → (Nat → Int64) → List mt_E → (Nat → Int32) → Prop) : Prop :=
  (∀ Q f met YL no i a t, i < E → t ≤ E → a ≤ len → (m i).1 = 4 → nI i + (m i).2.2.1 = nI t → WI Q f met YL no t a → WI Q (f + 1) met YL no i a) ∧
  (∀ Q f met YL no a, a ≤ len → (all → a = len) → Q (some (a, no)) → WI Q (f + 1) met YL no E a) ∧
  (∀ Q f met YL no a, a ≤ len → all → ¬ a = len → WO Q f met YL no → WI Q (f + 1) met YL no E a) ∧
  (∀ Q f met YL no i a, i < E → a ≤ len → ¬ (m i).1 = 4 → ¬ (m i).1 = 6 → mt_sn (met i) a = true → WO Q f met YL no → WI Q (f + 1) met YL no i a) ∧
  (∀ Q f met YL no i a, i < E → a ≤ len → ((m i).1 = 0 ∨ (m i).1 = 1 ∨ (m i).1 = 2) → mt_sn (met i) a = false → ¬ mt_go len ft (m i).1 (m i).2.1 a → WO Q f (mt_mk met i a) YL no → WI Q (f + 1) met YL no i a) ∧
  (∀ Q f met YL no i a, i < E → a ≤ len → ((m i).1 = 0 ∨ (m i).1 = 1 ∨ (m i).1 = 2) → mt_sn (met i) a = false → mt_go len ft (m i).1 (m i).2.1 a → (m i).2.2.1 = 1 → WI Q f (mt_mk met i a) YL no (i + 1) (mt_nx (m i).1 a) → WI Q (f + 1) met YL no i a) ∧
  (∀ Q f met YL no i a k o, i < E → a ≤ len → (m i).1 = 5 → (m i).2.1 = nI (k + 2) → k < 6 → mt_sn (met i) a = false → (m i).2.2.1 = 1 → no (k + 2) = nI o - 1 → o ≤ 33 → YL.length < 1399 → WI Q f (mt_mk met i a) ((true, k, o) :: YL) (upd no (k + 2) (nI a)) (i + 1) a → WI Q (f + 1) met YL no i a) ∧
  (∀ Q f met YL no i a t1 t2, i < E → a ≤ len → (m i).1 = 3 → mt_sn (met i) a = false → t1 ≤ E → nI i + (m i).2.2.1 = nI t1 → t2 ≤ E → nI i + (m i).2.2.2 = nI t2 → YL.length < 1399 → WI Q f (mt_mk met i a) ((false, t2, a) :: YL) no t1 a → WI Q (f + 1) met YL no i a) ∧
  (∀ Q f met YL no k o, k < 6 → o ≤ 33 → YL.length < 1399 → WO Q f met YL (upd no (k + 2) (nI o - 1)) → WO Q (f + 1) met ((true, k, o) :: YL) no) ∧
  (∀ Q f met YL no i a, i ≤ E → a ≤ len → YL.length < 1399 → WI Q f met YL no i a → WO Q (f + 1) met ((false, i, a) :: YL) no) ∧
  (∀ Q f met no, Q none → WO Q (f + 1) met [] no)
def mt_NO (no : Nat → Int32) (v : Nat → Nat) : Prop := ∀ k, k < 6 → no (k + 2) = nI (v k) - 1 ∧ v k ≤ 33
def mt_OR (NX : Int64 → (Nat → Nat) → Prop) (len s0 : Nat) (oX : Option (Nat × Int64)) (oY : Option (Nat × (Nat → Int32))) : Prop :=
  (oX = none ∧ oY = none) ∨ ∃ a w no v, oX = some (a, w) ∧ oY = some (a, no) ∧ s0 ≤ a ∧ a ≤ len ∧ NX w v ∧ mt_NO no v ∧ no 0 = nI s0
def mt_VY (E len s0 : Nat) (e : mt_E) : Prop := (e.1 = false → e.2.1 ≤ E ∧ s0 ≤ e.2.2 ∧ e.2.2 ≤ len) ∧ (e.1 = true → e.2.1 < 6 ∧ e.2.2 ≤ 33)
def mt_I (m : Nat → fg_I) (P E len s0 : Nat) (NX : Int64 → (Nat → Nat) → Prop) (r : Nat → Int32) (ch : Nat → Bool) (l : Nat → List Int32) (pr : Nat → Nat) (sb : Nat → Bool) (pa : Nat → Nat)
    (t : Nat) (s : Nat → Int64) (XL : List mt_C) (met : Nat → Int64) (YL : List mt_E) (no : Nat → Int32) (v : Nat → Nat) : Prop :=
  (∀ j p a, j < E → ch j = false → ¬ (m j).1 = 4 → p < P → r j = nI p → a ≤ len → mt_sn (met j) a = mt_sn (s p) a) ∧
  (∀ p a, p < P → sb p = true → a ≤ len → mt_sn (s p) a = true → mt_sn (s (pa p)) a = true) ∧
  (∀ j a, j < E → ch j = true → a ≤ len → mt_sn (met j) a = true → mt_sn (met (pr j)) a = true) ∧
  mt_Ex l NX v YL XL ∧ mt_CS ch pr met YL ∧ (∀ e, e ∈ YL → mt_VY E len s0 e) ∧ mt_NO no v ∧ no 0 = nI s0 ∧
  t + 2 * mt_mu s P + XL.length ≤ 2376 ∧ XL.length + mt_mu s P ≤ 1188 ∧ YL.length + mt_mu s P ≤ 1200
theorem fg_ad {m x : Nat → fg_I} {a b s e : Nat} {r : Nat → Int32} {ch pd pj : Nat → Bool} {l : Nat → List Int32} {pr : Nat → Nat} {sb : Nat → Bool} {u : Nat → List Int32} {ad : Nat → Nat} {j : Nat}
    (h : fg_LC m x a b s e r ch pd pj l pr sb u ad j) (hc : ch j = false) (h4 : ¬ (m j).1 = 4) : ∃ p, s ≤ p ∧ p < e ∧ sb p = false ∧ ad p = j ∧ r j = nI p := by
  rcases h with ⟨h', _⟩ | ⟨p, p1, p2, p3, p4, p5, _⟩ | ⟨_, t1, t2, _, _, _, _, _, _, _, _, ⟨_, _, p, p1, p2, p3, p4, p5, _⟩ | ⟨h', _⟩⟩
  · exact absurd h' h4
  · exact ⟨p, p1, p2, p3, p4, p5⟩
  · exact ⟨p, p1, p2, p3, p4, p5⟩
  · rw [hc] at h'; cases h'
theorem fg_two {m x : Nat → fg_I} {a b s e : Nat} {r : Nat → Int32} {ch pd pj : Nat → Bool} {l : Nat → List Int32} {pr : Nat → Nat} {sb : Nat → Bool} {u : Nat → List Int32} {ad : Nat → Nat} {j k p : Nat} (he : e < 1000)
    (hj : fg_LC m x a b s e r ch pd pj l pr sb u ad j) (cj : ch j = false) (j4 : ¬ (m j).1 = 4) (hk : fg_LC m x a b s e r ch pd pj l pr sb u ad k) (ck : ch k = false) (k4 : ¬ (m k).1 = 4) (hp : p < e) (ej : r j = nI p) (ek : r k = nI p) : j = k := by
  obtain ⟨q, q1, q2, q3, q4, q5⟩ := fg_ad hj cj j4
  obtain ⟨o, o1, o2, o3, o4, o5⟩ := fg_ad hk ck k4
  have e1 : q = p := fg_ij (q5.symm.trans ej) (by omega) (by omega)
  have e2 : o = p := fg_ij (o5.symm.trans ek) (by omega) (by omega)
  rw [← q4, ← o4, e1, e2]

section
variable {m x : Nat → fg_I} {P E len s0 : Nat} {all : Prop} {ft : Int32 → Nat → Prop} {nw : Int64 → Nat → Nat → Int64} {NX : Int64 → (Nat → Nat) → Prop}
variable {r : Nat → Int32} {ch : Nat → Bool} {l : Nat → List Int32} {pr : Nat → Nat} {sb : Nat → Bool} {u : Nat → List Int32} {ad pa : Nat → Nat}
variable {WX : (Option (Nat × Int64) → Prop) → Nat → Nat → (Nat → Int64) → List mt_C → Int32 → Nat → Int64 → Prop} {WP : (Option (Nat × Int64) → Prop) → Nat → Nat → (Nat → Int64) → List mt_C → Prop}
variable {WI : (Option (Nat × (Nat → Int32)) → Prop) → Nat → (Nat → Int64) → List mt_E → (Nat → Int32) → Nat → Nat → Prop} {WO : (Option (Nat × (Nat → Int32)) → Prop) → Nat → (Nat → Int64) → List mt_E → (Nat → Int32) → Prop}
/-- the component runs down a chain of forks -/
theorem mt_run (hX : mt_X x P len all ft nw WX WP) (hXC : ∀ p, p < P → fg_XC x 0 sb u pa p) (hl : len ≤ 32) {a : Nat} {w : Int64} (ha : a ≤ len) :
    ∀ (n p : Nat), p < n → p < P → (x p).1 = 4 → ∀ (t : Nat) (s : Nat → Int64) (st : List mt_C), mt_sn (s p) a = false → (sb p = true → mt_sn (s (pa p)) a = true) →
      (∀ p a, p < P → sb p = true → a ≤ len → mt_sn (s p) a = true → mt_sn (s (pa p)) a = true) → t + mt_mu s P ≤ 2377 → st.length + mt_mu s P ≤ 1188 →
      ∃ (s' : Nat → Int64) (k : Nat) (h : Int32) (tl : List Int32), u p = h :: tl ∧ tl.length = k ∧ mt_mu s' P + k = mt_mu s P ∧
        (∀ q, q ≠ p → (sb q = false ∨ p < q) → s' q = s q) ∧ (∀ b, b ≤ len → mt_sn (s' p) b = (mt_sn (s p) b || decide (b = a))) ∧
        (∀ p a, p < P → sb p = true → a ≤ len → mt_sn (s' p) a = true → mt_sn (s' (pa p)) a = true) ∧
        ∀ (Q : Option (Nat × Int64) → Prop) (f : Nat), WX Q f (t + k) s' (tl.map (fun q => (q, a, w)) ++ st) h a w → WX Q (f + k) t s st (nI p) a w := by
  intro n
  induction n with
  | zero => intro p h; omega
  | succ n ih =>
    intro p hp hP h4 t s st hn hpar hIX ht hst
    have hmu := mt_mu_hi hn (show a < 33 by omega) P hP
    have hIX1 : ∀ q b, q < P → sb q = true → b ≤ len → mt_sn (mt_mk s p a q) b = true → mt_sn (mt_mk s p a (pa q)) b = true := by
      intro q b q1 q2 q3 q4
      by_cases hh : q = p ∧ b = a
      · obtain ⟨rfl, rfl⟩ := hh
        exact mt_mk_up (by omega) (hpar q2)
      · rw [mt_mk_o (by omega) hh] at q4
        exact mt_mk_up (by omega) (hIX q b q1 q2 q3 q4)
    have hXf := hX.2.2.2.2.2.2.1
    rcases (hXC p hP).2 h4 with ⟨q, q1, q2, q3, q4, q5, q6, q7⟩ | hu
    · have hq0 : mt_sn (s q) a = false := by
        cases hh : mt_sn (s q) a with
        | false => rfl
        | true =>
          have := hIX q a (by omega) q4 ha hh
          rw [q6, hn] at this; cases this
      obtain ⟨s', k, h, tl, u1, u2, u3, u4, u5, u6, u7⟩ := ih q (by omega) (by omega) q5 (t + 1) (mt_mk s p a) (((x p).2.2.2, a, w) :: st)
        (by rw [mt_mk_n (by omega)]; exact hq0) (fun _ => by rw [q6]; exact mt_mk_a (by omega)) hIX1 (by omega) (by simp only [List.length_cons]; omega)
      refine ⟨s', k + 1, h, tl ++ [(x p).2.2.2], by rw [q7, u1]; rfl, by rw [List.length_append, u2]; rfl, by omega, fun o o1 o2 => ?_, fun b b1 => ?_, u6, fun Q f H => ?_⟩
      · have oq : o ≠ q := by
          intro e
          rcases o2 with o2 | o2
          · rw [e, q4] at o2; cases o2
          · omega
        rw [u4 o oq (o2.imp id (fun h => by omega)), mt_mk_n o1]
      · rw [u4 p (by omega) (Or.inr q3), mt_mk_s (by omega)]
      · rw [show f + (k + 1) = (f + k) + 1 by omega]
        refine hXf Q (f + k) t s st p a w (by omega) ha hP hn h4 (by omega) ?_
        rw [q1]
        refine u7 Q f ?_
        rw [show t + 1 + k = t + (k + 1) by omega]
        rw [List.map_append, List.append_assoc] at H
        exact H
    · refine ⟨mt_mk s p a, 1, (x p).2.2.1, [(x p).2.2.2], hu, rfl, hmu, fun o o1 _ => mt_mk_n o1, fun b b1 => mt_mk_s (by omega), hIX1, fun Q f H => ?_⟩
      exact hXf Q f t s st p a w (by omega) ha hP hn h4 (by omega) H
end
end MS
end
section
section MU
variable {m x : Nat → fg_I} {P E len s0 : Nat} {all : Prop} {ft : Int32 → Nat → Prop} {nw : Int64 → Nat → Nat → Int64} {NX : Int64 → (Nat → Nat) → Prop}
variable {r : Nat → Int32} {ch : Nat → Bool} {l : Nat → List Int32} {pr : Nat → Nat} {sb : Nat → Bool} {u : Nat → List Int32} {ad pa : Nat → Nat}
variable {WX : (Option (Nat × Int64) → Prop) → Nat → Nat → (Nat → Int64) → List mt_C → Int32 → Nat → Int64 → Prop} {WP : (Option (Nat × Int64) → Prop) → Nat → Nat → (Nat → Int64) → List mt_C → Prop}
variable {WI : (Option (Nat × (Nat → Int32)) → Prop) → Nat → (Nat → Int64) → List mt_E → (Nat → Int32) → Nat → Nat → Prop} {WO : (Option (Nat × (Nat → Int32)) → Prop) → Nat → (Nat → Int64) → List mt_E → (Nat → Int32) → Prop}
theorem mt_VY_64 {e : mt_E} (hl : len ≤ 32) (h : mt_VY E len s0 e) : e.2.2 < 64 := by
  cases he : e.1 with
  | false => have := (h.1 he).2.2; omega
  | true => have := (h.2 he).2; omega
theorem mt_mark {i p a : Nat} {s s' met : Nat → Int64} (hP : P ≤ 36) (hl : len ≤ 32) (H1 : ∀ j, 0 ≤ j → j < E → fg_LC m x 0 E 0 P r ch (fun _ => false) (fun _ => false) l pr sb u ad j)
    (hi : i < E) (ci : ch i = false) (i4 : ¬ (m i).1 = 4) (hp : p < P) (ri : r i = nI p)
    (h : ∀ j p a, j < E → ch j = false → ¬ (m j).1 = 4 → p < P → r j = nI p → a ≤ len → mt_sn (met j) a = mt_sn (s p) a)
    (hs : ∀ q, q ≠ p → sb q = false → s' q = s q) (hsp : ∀ b, b ≤ len → mt_sn (s' p) b = (mt_sn (s p) b || decide (b = a))) :
    ∀ j p a', j < E → ch j = false → ¬ (m j).1 = 4 → p < P → r j = nI p → a' ≤ len → mt_sn (mt_mk met i a j) a' = mt_sn (s' p) a' := by
  intro j q b j1 j2 j3 j4 j5 j6
  by_cases e : j = i
  · subst e
    obtain rfl : q = p := fg_ij (j5.symm.trans ri) (by omega) (by omega)
    rw [mt_mk_s (by omega), hsp b j6, h j q b j1 j2 j3 j4 j5 j6]
  · have qp : q ≠ p := by
      intro e'
      rw [e'] at j5
      exact e (fg_two (by omega) (H1 j (Nat.zero_le _) j1) j2 j3 (H1 i (Nat.zero_le _) hi) ci i4 hp j5 ri)
    obtain ⟨o, _, o2, o3, _, o5⟩ := fg_ad (H1 j (Nat.zero_le _) j1) j2 j3
    obtain rfl : o = q := fg_ij (o5.symm.trans j5) (by omega) (by omega)
    rw [mt_mk_n e, hs o qp o3, h j o b j1 j2 j3 j4 j5 j6]
theorem mt_IYmk {i a : Nat} {met : Nat → Int64} (hl : len ≤ 32) (hi : ch i = false ∨ mt_sn (met (pr i)) a = true)
    (h : ∀ j a, j < E → ch j = true → a ≤ len → mt_sn (met j) a = true → mt_sn (met (pr j)) a = true) :
    ∀ j b, j < E → ch j = true → b ≤ len → mt_sn (mt_mk met i a j) b = true → mt_sn (mt_mk met i a (pr j)) b = true := by
  intro j b j1 j2 j3 j4
  by_cases e : j = i ∧ b = a
  · obtain ⟨rfl, rfl⟩ := e
    rcases hi with hi | hi
    · rw [j2] at hi; cases hi
    · exact mt_mk_up (by omega) hi
  · rw [mt_mk_o (by omega) e] at j4
    exact mt_mk_up (by omega) (h j b j1 j2 j3 j4)
theorem mt_I_mk {t t' i p a : Nat} {s met : Nat → Int64} {XL : List mt_C} {YL : List mt_E} {no : Nat → Int32} {v : Nat → Nat} (hP : P ≤ 36) (hl : len ≤ 32) (H1 : ∀ j, 0 ≤ j → j < E → fg_LC m x 0 E 0 P r ch (fun _ => false) (fun _ => false) l pr sb u ad j)
    (hI : mt_I m P E len s0 NX r ch l pr sb pa t s XL met YL no v)
    (hi : i < E) (ci : ch i = false) (i4 : ¬ (m i).1 = 4) (hp : p < P) (sp : sb p = false) (ri : r i = nI p) (ha : a ≤ len) (hn : mt_sn (s p) a = false) (ht : t' ≤ t + 1) :
    mt_I m P E len s0 NX r ch l pr sb pa t' (mt_mk s p a) XL (mt_mk met i a) YL no v ∧ mt_mu (mt_mk s p a) P + 1 = mt_mu s P := by
  obtain ⟨I1, I2, I3, I4, I5, I6, I7, I8, I9, I10, I11⟩ := hI
  have hmu := mt_mu_hi hn (show a < 33 by omega) P hp
  refine ⟨⟨mt_mark hP hl H1 hi ci i4 hp ri I1 (fun q hq _ => mt_mk_n hq) (fun b hb => mt_mk_s (by omega)), ?_, mt_IYmk hl (Or.inl ci) I3, I4, mt_CS_mk (by omega) YL (fun e he => mt_VY_64 hl (I6 e he)) (Or.inl ci) I5, I6, I7, I8, by omega, by omega, by omega⟩, hmu⟩
  intro q b q1 q2 q3 q4
  have e : ¬ (q = p ∧ b = a) := fun e => by rw [e.1, sp] at q2; cases q2
  rw [mt_mk_o (by omega) e] at q4
  exact mt_mk_up (by omega) (I2 q b q1 q2 q3 q4)
theorem mt_go_e {i p : fg_I} {a : Nat} (h : (i.1 = 0 ∧ p.1 = 0 ∧ p.2.1 = i.2.1) ∨ (i.1 = 1 ∧ p.1 = 1) ∨ (i.1 = 2 ∧ p.1 = 2)) :
    i.1 = p.1 ∧ (p.1 = 0 ∨ p.1 = 1 ∨ p.1 = 2) ∧ (mt_go len ft i.1 i.2.1 a ↔ mt_go len ft p.1 p.2.1 a) := by
  rcases h with ⟨h1, h2, h3⟩ | ⟨h1, h2⟩ | ⟨h1, h2⟩
  · rw [h1, h2, h3]; exact ⟨rfl, Or.inl rfl, Iff.rfl⟩
  · rw [h1, h2]; exact ⟨rfl, Or.inr (Or.inl rfl), by simp [mt_go]⟩
  · rw [h1, h2]; exact ⟨rfl, Or.inr (Or.inr rfl), by simp [mt_go]⟩
theorem mt_nx_le {k v : Int32} {a : Nat} (ha : a ≤ len) (h : mt_go len ft k v a) : mt_nx k a ≤ len ∧ a ≤ mt_nx k a := by
  unfold mt_nx
  rcases h with ⟨h1, h2, _⟩ | ⟨h1, _⟩ | ⟨h1, _⟩
  · rw [if_pos h1]; omega
  · rw [h1, if_neg (by decide)]; omega
  · rw [h1, if_neg (by decide)]; omega
def mt_jm (m : Nat → fg_I) (E i : Nat) : Nat := if (m i).1 = 4 then E + 1 - i else 0
theorem mt_jm_le (m : Nat → fg_I) (E i : Nat) : mt_jm m E i ≤ E + 1 := by
  unfold mt_jm; split <;> omega
theorem mt_jm_lt {i t : Nat} (hi : i < E) (h4 : (m i).1 = 4) (h : i < t ∨ (t < E ∧ (m t).1 = 3)) : mt_jm m E t < mt_jm m E i := by
  have e : mt_jm m E i = E + 1 - i := if_pos h4
  rw [e]
  rcases h with h | ⟨_, h⟩
  · unfold mt_jm; split <;> omega
  · have : mt_jm m E t = 0 := if_neg (by rw [h]; decide)
    omega
theorem mt_U_cons {e : mt_E} {Y : List mt_E} : mt_U (e :: Y) = mt_U Y + (if e.1 = true then 1 else 0) := rfl
/-- the push of a split's second way keeps the chain clause -/
theorem mt_push {met : Nat → Int64} {YL : List mt_E} {i t2 a : Nat} (hl : len ≤ 32) (hi : i < E) (cE : ch E = false) (ht2 : t2 ≤ E) (ha : a ≤ len) (hn : mt_sn (met i) a = false)
    (hpr : ch t2 = true → pr t2 = i ∧ i < t2)
    (I3 : ∀ j a, j < E → ch j = true → a ≤ len → mt_sn (met j) a = true → mt_sn (met (pr j)) a = true)
    (I5 : mt_CS ch pr met YL) (hv : ∀ e, e ∈ YL → mt_VY E len s0 e) (hc : ch i = false ∨ ¬ (false, i, a) ∈ YL) : mt_CS ch pr (mt_mk met i a) ((false, t2, a) :: YL) := by
  refine ⟨fun _ h => ?_, mt_CS_mk (by omega) YL (fun e he => mt_VY_64 hl (hv e he)) hc I5⟩
  dsimp only at h ⊢
  obtain ⟨h1, h2⟩ := hpr h
  have hE : t2 < E := by
    by_cases e : t2 = E
    · rw [e, cE] at h; cases h
    · omega
  have hn2 : mt_sn (met t2) a = false := by
    cases hh : mt_sn (met t2) a with
    | false => rfl
    | true =>
      have := I3 t2 a hE h ha hh
      rw [h1, hn] at this; cases this
  refine ⟨by rw [mt_mk_n (by omega)]; exact hn2, by rw [h1]; exact mt_mk_a (by omega), fun hm => ?_⟩
  have := mt_CS_mem h YL I5 hm
  rw [h1, hn] at this; cases this
end MU
end
section
section MV
variable {m x : Nat → fg_I} {P E len s0 : Nat} {all : Prop} {ft : Int32 → Nat → Prop} {nw : Int64 → Nat → Nat → Int64} {NX : Int64 → (Nat → Nat) → Prop}
variable {r : Nat → Int32} {ch : Nat → Bool} {l : Nat → List Int32} {pr : Nat → Nat} {sb : Nat → Bool} {u : Nat → List Int32} {ad pa : Nat → Nat}
variable {WX : (Option (Nat × Int64) → Prop) → Nat → Nat → (Nat → Int64) → List mt_C → Int32 → Nat → Int64 → Prop} {WP : (Option (Nat × Int64) → Prop) → Nat → Nat → (Nat → Int64) → List mt_C → Prop}
variable {WI : (Option (Nat × (Nat → Int32)) → Prop) → Nat → (Nat → Int64) → List mt_E → (Nat → Int32) → Nat → Nat → Prop} {WO : (Option (Nat × (Nat → Int32)) → Prop) → Nat → (Nat → Int64) → List mt_E → (Nat → Int32) → Prop}
theorem mt_sim (hX : mt_X x P len all ft nw WX WP) (hY : mt_Y m E len all ft WI WO) (H : fg_B m x 0 E 0 P r ch (fun _ => false) (fun _ => false) l pr sb u ad pa)
    (rE : r E = -1) (cE : ch E = false) (hE : E ≤ 72) (hP : P ≤ 36) (hl : len ≤ 32)
    (hnw : ∀ w v k a, NX w v → k < 6 → a ≤ 32 → NX (nw w k a) (mt_un v k (a + 1))) : ∀ M : Nat,
    (∀ t s XL met YL no v i a w fx fy, 100 * (2 * mt_mu s P + XL.length + mt_U YL) + mt_jm m E i + 2 ≤ M → M ≤ fx → M ≤ fy → mt_I m P E len s0 NX r ch l pr sb pa t s XL met YL no v → i ≤ E → ch i = false → s0 ≤ a → a ≤ len → NX w v →
      ∃ oX oY, mt_OR NX len s0 oX oY ∧ (∀ Q : Option (Nat × Int64) → Prop, Q oX → WX Q fx t s XL (r i) a w) ∧ (∀ Q : Option (Nat × (Nat → Int32)) → Prop, Q oY → WI Q fy met YL no i a)) ∧
    (∀ t s XL met YL no v fx fy, 100 * (2 * mt_mu s P + XL.length + mt_U YL) + 1 ≤ M → M ≤ fx → M ≤ fy → mt_I m P E len s0 NX r ch l pr sb pa t s XL met YL no v →
      ∃ oX oY, mt_OR NX len s0 oX oY ∧ (∀ Q : Option (Nat × Int64) → Prop, Q oX → WP Q fx t s XL) ∧ (∀ Q : Option (Nat × (Nat → Int32)) → Prop, Q oY → WO Q fy met YL no)) := by
  obtain ⟨H1, H2, H3, H4⟩ := H
  have hX' := hX
  obtain ⟨X1, X2, X3, X4, X5, X6, X7, X8, X9⟩ := hX'
  obtain ⟨Y1, Y2, Y3, Y4, Y5, Y6, Y7, Y8, Y9, Y10, Y11⟩ := hY
  intro M
  induction M using Nat.strongRecOn with
  | _ M ih =>
  refine ⟨?_, ?_⟩
  · intro t s XL met YL no v i a w fx fy hM hfx hfy hI hi ci ha0 ha hw
    obtain ⟨fx, rfl⟩ : ∃ f, fx = f + 1 := ⟨fx - 1, by omega⟩
    obtain ⟨fy, rfl⟩ : ∃ f, fy = f + 1 := ⟨fy - 1, by omega⟩
    have hI' := hI
    obtain ⟨I1, I2, I3, I4, I5, I6, I7, I8, I9, I10, I11⟩ := hI'
    obtain ⟨fX, fY, f1, f2, f3⟩ := (ih (100 * (2 * mt_mu s P + XL.length + mt_U YL) + 1) (by omega)).2 t s XL met YL no v fx fy (Nat.le_refl _) (by omega) (by omega) hI
    by_cases hiE : i = E
    · rw [hiE, rE]
      by_cases hal : all → a = len
      · exact ⟨some (a, w), some (a, no), Or.inr ⟨a, w, no, v, rfl, rfl, ha0, ha, hw, I7, I8⟩, fun Q hQ => X1 Q fx t s XL a w (by omega) ha hal hQ, fun Q hQ => Y2 Q fy met YL no a ha hal hQ⟩
      · have hall : all := Classical.byContradiction (fun h => hal (fun h' => absurd h' h))
        have hne : ¬ a = len := fun h => hal (fun _ => h)
        exact ⟨fX, fY, f1, fun Q hQ => X2 Q fx t s XL a w (by omega) ha hall hne (f2 Q hQ), fun Q hQ => Y3 Q fy met YL no a ha hall hne (f3 Q hQ)⟩
    · have hiL : i < E := by omega
      rcases H1 i (Nat.zero_le _) hiL with ⟨h4, _, hh⟩ | ⟨p, _, p2, p3, p4, p5, p6, p7, p8, p9, p10⟩ | ⟨h3, t1, t2, _, a2, a3, a4, _, a6, a7, a8, hh⟩
      · rcases hh with ⟨e1, _⟩ | ⟨_, t', _, t2, t3, t4, t5, t6⟩
        · cases e1
        · have hj := mt_jm_lt hiL h4 t6
          obtain ⟨oX, oY, o1, o2, o3⟩ := (ih (100 * (2 * mt_mu s P + XL.length + mt_U YL) + mt_jm m E t' + 2) (by omega)).1 t s XL met YL no v t' a w (fx + 1) fy (Nat.le_refl _) (by omega) (by omega) hI t2 t4 ha0 ha hw
          rw [t5]
          exact ⟨oX, oY, o1, o2, fun Q hQ => Y1 Q fy met YL no i a t' hiL t2 ha h4 t3 (o3 Q hQ)⟩
      · have n4 := (fg_SG_4 p10).1
        rw [p5]
        cases hsn : mt_sn (s p) a with
        | true =>
          have hmet : mt_sn (met i) a = true := by rw [I1 i p a hiL ci n4 p2 p5 ha]; exact hsn
          have n6 : ¬ (m i).1 = 6 := by
            rcases p10 with ⟨h1, _⟩ | ⟨h1, _⟩ | ⟨h1, _⟩ | ⟨h1, _⟩ <;> rw [h1] <;> decide
          exact ⟨fX, fY, f1, fun Q hQ => X3 Q fx t s XL p a w (by omega) ha p2 hsn (f2 Q hQ), fun Q hQ => Y4 Q fy met YL no i a hiL ha n4 n6 hmet (f3 Q hQ)⟩
        | false =>
          have hmet : mt_sn (met i) a = false := by rw [I1 i p a hiL ci n4 p2 p5 ha]; exact hsn
          have single : ((m i).1 = 0 ∧ (x p).1 = 0 ∧ (x p).2.1 = (m i).2.1) ∨ ((m i).1 = 1 ∧ (x p).1 = 1) ∨ ((m i).1 = 2 ∧ (x p).1 = 2) →
              ∃ oX oY, mt_OR NX len s0 oX oY ∧ (∀ Q : Option (Nat × Int64) → Prop, Q oX → WX Q (fx + 1) t s XL (nI p) a w) ∧ (∀ Q : Option (Nat × (Nat → Int32)) → Prop, Q oY → WI Q (fy + 1) met YL no i a) := by
            intro hk
            obtain ⟨k1, k2, k3⟩ := mt_go_e (len := len) (ft := ft) (a := a) hk
            by_cases hg : mt_go len ft (x p).1 (x p).2.1 a
            · obtain ⟨n1, n2⟩ := mt_nx_le ha hg
              obtain ⟨J1, J2⟩ := mt_I_mk hP hl H1 hI hiL ci n4 p2 p3 p5 ha hsn (Nat.le_refl (t + 1))
              have hjm := mt_jm_le m E (i + 1)
              obtain ⟨oX, oY, o1, o2, o3⟩ := (ih (100 * (2 * mt_mu (mt_mk s p a) P + XL.length + mt_U YL) + mt_jm m E (i + 1) + 2) (by omega)).1 (t + 1) (mt_mk s p a) XL (mt_mk met i a) YL no v (i + 1) (mt_nx (x p).1 a) w fx fy (Nat.le_refl _) (by omega) (by omega) J1 (by omega) p8 (by omega) n1 hw
              rw [← p9] at o2
              refine ⟨oX, oY, o1, fun Q hQ => X5 Q fx t s XL p a w (by omega) ha p2 hsn k2 hg (o2 Q hQ), fun Q hQ => Y6 Q fy met YL no i a hiL ha (by rw [k1]; exact k2) hmet (k3.mpr hg) p7 ?_⟩
              rw [k1]; exact o3 Q hQ
            · obtain ⟨J1, J2⟩ := mt_I_mk hP hl H1 hI hiL ci n4 p2 p3 p5 ha hsn (Nat.le_succ t)
              obtain ⟨oX, oY, o1, o2, o3⟩ := (ih (100 * (2 * mt_mu (mt_mk s p a) P + XL.length + mt_U YL) + 1) (by omega)).2 t (mt_mk s p a) XL (mt_mk met i a) YL no v fx fy (Nat.le_refl _) (by omega) (by omega) J1
              exact ⟨oX, oY, o1, fun Q hQ => X4 Q fx t s XL p a w (by omega) ha p2 hsn k2 hg (o2 Q hQ), fun Q hQ => Y5 Q fy met YL no i a hiL ha (by rw [k1]; exact k2) hmet (fun h => hg (k3.mp h)) (o3 Q hQ)⟩
          rcases p10 with h | h | h | ⟨h1, h2, k, hk, h3, h4⟩
          · exact single (Or.inl h)
          · exact single (Or.inr (Or.inl h))
          · exact single (Or.inr (Or.inr h))
          · obtain ⟨⟨J1, J2, J3, J4, J5, J6, J7, J8, J9, J10, J11⟩, J12⟩ := mt_I_mk hP hl H1 hI hiL ci n4 p2 p3 p5 ha hsn (Nat.le_refl (t + 1))
            have hjm := mt_jm_le m E (i + 1)
            have hU : mt_U ((true, k, v k) :: YL) = mt_U YL + 1 := rfl
            have hNO : mt_NO (upd no (k + 2) (nI a)) (mt_un v k (a + 1)) := by
              intro j hj
              by_cases e : j = k
              · subst e
                have e1 : upd no (j + 2) (nI a) (j + 2) = nI a := if_pos rfl
                have e2 : mt_un v j (a + 1) j = a + 1 := if_pos rfl
                rw [e1, e2, nI_pred]
                exact ⟨rfl, by omega⟩
              · have e1 : upd no (k + 2) (nI a) (j + 2) = no (j + 2) := if_neg (by omega)
                have e2 : mt_un v k (a + 1) j = v j := if_neg e
                rw [e1, e2]; exact I7 j hj
            have JJ : mt_I m P E len s0 NX r ch l pr sb pa (t + 1) (mt_mk s p a) XL (mt_mk met i a) ((true, k, v k) :: YL) (upd no (k + 2) (nI a)) (mt_un v k (a + 1)) := by
              refine ⟨J1, J2, J3, ?_, ⟨(fun h => by cases h), J5⟩, ?_, hNO, ?_, J9, J10, ?_⟩
              · show mt_Ex l NX (mt_un (mt_un v k (a + 1)) k (v k)) YL XL
                rw [mt_un_un]; exact I4
              · intro e he
                rcases List.mem_cons.mp he with h | h
                · rw [h]; exact ⟨(fun h => by cases h), fun _ => ⟨hk, (I7 k hk).2⟩⟩
                · exact I6 e h
              · have : upd no (k + 2) (nI a) 0 = no 0 := if_neg (by omega)
                rw [this]; exact I8
              · simp only [List.length_cons]; omega
            obtain ⟨oX, oY, o1, o2, o3⟩ := (ih (100 * (2 * mt_mu (mt_mk s p a) P + XL.length + mt_U ((true, k, v k) :: YL)) + mt_jm m E (i + 1) + 2) (by omega)).1 (t + 1) (mt_mk s p a) XL (mt_mk met i a) ((true, k, v k) :: YL) (upd no (k + 2) (nI a)) (mt_un v k (a + 1)) (i + 1) a (nw w k a) fx fy (Nat.le_refl _) (by omega) (by omega) JJ (by omega) p8 ha0 ha (hnw w v k a hw hk (by omega))
            rw [← p9] at o2
            exact ⟨oX, oY, o1, fun Q hQ => X6 Q fx t s XL p a w k (by omega) ha p2 hsn h2 h3 hk (o2 Q hQ), fun Q hQ => Y7 Q fy met YL no i a k (v k) hiL ha h1 h4 hk hmet p7 (I7 k hk).1 (I7 k hk).2 (by omega) (o3 Q hQ)⟩
      · rcases hh with ⟨_, _, p, _, p2, p3, p4, p5, p6, p7⟩ | ⟨c1, _⟩
        · have n4 : ¬ (m i).1 = 4 := by rw [h3]; decide
          have n6 : ¬ (m i).1 = 6 := by rw [h3]; decide
          rw [p5]
          cases hsn : mt_sn (s p) a with
          | true =>
            have hmet : mt_sn (met i) a = true := by rw [I1 i p a hiL ci n4 p2 p5 ha]; exact hsn
            exact ⟨fX, fY, f1, fun Q hQ => X3 Q fx t s XL p a w (by omega) ha p2 hsn (f2 Q hQ), fun Q hQ => Y4 Q fy met YL no i a hiL ha n4 n6 hmet (f3 Q hQ)⟩
          | false =>
            have hmet : mt_sn (met i) a = false := by rw [I1 i p a hiL ci n4 p2 p5 ha]; exact hsn
            obtain ⟨s', k, h, tl, u1, u2, u3, u4, u5, u6, u7⟩ := mt_run hX (fun p hp => H4 p (Nat.zero_le _) hp) hl (w := w) ha (p + 1) p (by omega) p2 p6 t s XL hsn (fun h => by rw [p3] at h; cases h) I2 (by omega) (by omega)
            rw [p7] at u1
            injection u1 with u8 u9
            have hk1 : 1 ≤ k := by
              rw [← u2, ← u9]
              by_cases e : ch t2 = true
              · have ht2 : t2 < E := by
                  by_cases e' : t2 = E
                  · rw [e', cE] at e; cases e
                  · omega
                rcases H1 t2 (Nat.zero_le _) ht2 with ⟨_, e2, _⟩ | ⟨_, _, _, _, _, _, e2, _⟩ | ⟨_, y1, y2, _, _, _, _, _, _, _, _, ⟨e2, _⟩ | ⟨_, _, e3⟩⟩
                · rw [e] at e2; cases e2
                · rw [e] at e2; cases e2
                · rw [e] at e2; cases e2
                · rw [e3]; simp
              · rw [H2 t2 (Nat.zero_le _) a6 (by simpa using e)]; simp
            have hjm := mt_jm_le m E t1
            have hU : mt_U ((false, t2, a) :: YL) = mt_U YL := rfl
            have hlen : (tl.map (fun q => (q, a, w)) ++ XL).length = k + XL.length := by rw [List.length_append, List.length_map, u2]
            have JJ : mt_I m P E len s0 NX r ch l pr sb pa (t + k) s' (tl.map (fun q => (q, a, w)) ++ XL) (mt_mk met i a) ((false, t2, a) :: YL) no v := by
              refine ⟨mt_mark hP hl H1 hiL ci n4 p2 p5 I1 (fun q hq hs => u4 q hq (Or.inl hs)) u5, u6, mt_IYmk hl (Or.inl ci) I3, ⟨w, XL, hw, by rw [u9], I4⟩, mt_push hl hiL cE a6 ha hmet a8 I3 I5 I6 (Or.inl ci), ?_, I7, I8, by omega, by omega, ?_⟩
              · intro e he
                rcases List.mem_cons.mp he with h | h
                · rw [h]; exact ⟨fun _ => ⟨a6, ha0, ha⟩, fun h => by cases h⟩
                · exact I6 e h
              · simp only [List.length_cons]; omega
            obtain ⟨oX, oY, o1, o2, o3⟩ := (ih (100 * (2 * mt_mu s' P + (tl.map (fun q => (q, a, w)) ++ XL).length + mt_U ((false, t2, a) :: YL)) + mt_jm m E t1 + 2) (by omega)).1 (t + k) s' (tl.map (fun q => (q, a, w)) ++ XL) (mt_mk met i a) ((false, t2, a) :: YL) no v t1 a w (fx + 1 - k) fy (Nat.le_refl _) (by omega) (by omega) JJ a2 a4 ha0 ha hw
            refine ⟨oX, oY, o1, fun Q hQ => ?_, fun Q hQ => Y8 Q fy met YL no i a t1 t2 hiL ha h3 hmet a2 a3 a6 a7 (by omega) (o3 Q hQ)⟩
            have h9 := u7 Q (fx + 1 - k) (by rw [← u8]; exact o2 Q hQ)
            rw [show fx + 1 - k + k = fx + 1 by omega] at h9
            exact h9
        · rw [ci] at c1; cases c1
  · intro t s XL met YL no v fx fy hM hfx hfy hI
    obtain ⟨I1, I2, I3, I4, I5, I6, I7, I8, I9, I10, I11⟩ := hI
    cases YL with
    | nil =>
      have e : XL = [] := I4
      obtain ⟨fy, rfl⟩ : ∃ f, fy = f + 1 := ⟨fy - 1, by omega⟩
      rw [e]
      exact ⟨none, none, Or.inl ⟨rfl, rfl⟩, fun Q hQ => X9 Q fx t s hQ, fun Q hQ => Y11 Q fy met no hQ⟩
    | cons e Y =>
      obtain ⟨b, c, d⟩ := e
      obtain ⟨fy, rfl⟩ : ∃ f, fy = f + 1 := ⟨fy - 1, by omega⟩
      have hv := I6 (b, c, d) List.mem_cons_self
      have hv' : ∀ e, e ∈ Y → mt_VY E len s0 e := fun e he => I6 e (List.mem_cons_of_mem _ he)
      have hL : Y.length + 1 + mt_mu s P ≤ 1200 := I11
      cases b with
      | true =>
        have hv2 := hv.2 rfl
        dsimp only at hv2
        have hU : mt_U ((true, c, d) :: Y) = mt_U Y + 1 := rfl
        have hNO : mt_NO (upd no (c + 2) (nI d - 1)) (mt_un v c d) := by
          intro j hj
          by_cases e : j = c
          · subst e
            have e1 : upd no (j + 2) (nI d - 1) (j + 2) = nI d - 1 := if_pos rfl
            have e2 : mt_un v j d j = d := if_pos rfl
            rw [e1, e2]; exact ⟨rfl, hv2.2⟩
          · have e1 : upd no (c + 2) (nI d - 1) (j + 2) = no (j + 2) := if_neg (by omega)
            have e2 : mt_un v c d j = v j := if_neg e
            rw [e1, e2]; exact I7 j hj
        have e0 : upd no (c + 2) (nI d - 1) 0 = no 0 := if_neg (by omega)
        obtain ⟨oX, oY, o1, o2, o3⟩ := (ih (100 * (2 * mt_mu s P + XL.length + mt_U Y) + 1) (by omega)).2 t s XL met Y (upd no (c + 2) (nI d - 1)) (mt_un v c d) fx fy (Nat.le_refl _) (by omega) (by omega) ⟨I1, I2, I3, I4, I5.2, hv', hNO, by rw [e0]; exact I8, I9, I10, by omega⟩
        exact ⟨oX, oY, o1, o2, fun Q hQ => Y9 Q fy met Y no c d hv2.1 hv2.2 (by omega) (o3 Q hQ)⟩
      | false =>
        have hv1 := hv.1 rfl
        dsimp only at hv1
        obtain ⟨hc1, hc2, hc3⟩ := hv1
        have hU : mt_U ((false, c, d) :: Y) = mt_U Y := rfl
        obtain ⟨w, X', g1, g2, g3⟩ := I4
        cases hcc : ch c with
        | false =>
          rw [H2 c (Nat.zero_le _) hc1 hcc] at g2
          have g4 : XL = (r c, d, w) :: X' := g2
          have hXl : XL.length = X'.length + 1 := by rw [g4]; rfl
          have hjm := mt_jm_le m E c
          obtain ⟨oX, oY, o1, o2, o3⟩ := (ih (100 * (2 * mt_mu s P + X'.length + mt_U Y) + mt_jm m E c + 2) (by omega)).1 (t + 1) s X' met Y no v c d w fx fy (Nat.le_refl _) (by omega) (by omega) ⟨I1, I2, I3, g3, I5.2, hv', I7, I8, by omega, by omega, by omega⟩ hc1 hcc hc2 hc3 g1
          refine ⟨oX, oY, o1, fun Q hQ => ?_, fun Q hQ => Y10 Q fy met Y no c d hc1 hc3 (by omega) (o3 Q hQ)⟩
          rw [g4]
          exact X8 Q fx t s X' (r c) d w (by omega) (by omega) (o2 Q hQ)
        | true =>
          have hcE : c < E := by
            by_cases e' : c = E
            · rw [e', cE] at hcc; cases hcc
            · omega
          obtain ⟨z1, z2, z3⟩ := I5.1 rfl hcc
          dsimp only at z1 z2
          rcases H1 c (Nat.zero_le _) hcE with ⟨_, e2, _⟩ | ⟨_, _, _, _, _, _, e2, _⟩ | ⟨h3, t1, t2, _, a2, a3, a4, _, a6, a7, a8, ⟨e2, _⟩ | ⟨_, _, e3⟩⟩
          · rw [hcc] at e2; cases e2
          · rw [hcc] at e2; cases e2
          · rw [hcc] at e2; cases e2
          · rw [e3] at g2
            have g4 : XL = (r t1, d, w) :: ((l t2).map (fun q => (q, d, w)) ++ X') := g2
            have hXl : XL.length = ((l t2).map (fun q => (q, d, w)) ++ X').length + 1 := by rw [g4]; rfl
            have hjm := mt_jm_le m E t1
            have hU2 : mt_U ((false, t2, d) :: Y) = mt_U Y := rfl
            obtain ⟨fy, rfl⟩ : ∃ f, fy = f + 1 := ⟨fy - 1, by omega⟩
            have JJ : mt_I m P E len s0 NX r ch l pr sb pa (t + 1) s ((l t2).map (fun q => (q, d, w)) ++ X') (mt_mk met c d) ((false, t2, d) :: Y) no v := by
              refine ⟨?_, I2, mt_IYmk hl (Or.inr z2) I3, ⟨w, X', g1, rfl, g3⟩, mt_push hl hcE cE a6 hc3 z1 a8 I3 I5.2 hv' (Or.inr z3), ?_, I7, I8, by omega, by omega, ?_⟩
              · intro j p b j1 j2 j3 j4 j5 j6
                rw [mt_mk_n (fun e => by rw [e, hcc] at j2; cases j2)]
                exact I1 j p b j1 j2 j3 j4 j5 j6
              · intro e he
                rcases List.mem_cons.mp he with h | h
                · rw [h]; exact ⟨fun _ => ⟨a6, hc2, hc3⟩, fun h => by cases h⟩
                · exact hv' e h
              · simp only [List.length_cons]; omega
            obtain ⟨oX, oY, o1, o2, o3⟩ := (ih (100 * (2 * mt_mu s P + ((l t2).map (fun q => (q, d, w)) ++ X').length + mt_U ((false, t2, d) :: Y)) + mt_jm m E t1 + 2) (by omega)).1 (t + 1) s ((l t2).map (fun q => (q, d, w)) ++ X') (mt_mk met c d) ((false, t2, d) :: Y) no v t1 d w fx fy (Nat.le_refl _) (by omega) (by omega) JJ a2 a4 hc2 hc3 g1
            refine ⟨oX, oY, o1, fun Q hQ => ?_, fun Q hQ => Y10 Q (fy + 1) met Y no c d hc1 hc3 (by omega) (Y8 Q fy met Y no c d t1 t2 hcE hc3 h3 z1 a2 a3 a6 a7 (by omega) (o3 Q hQ))⟩
            rw [g4]
            exact X8 Q fx t s _ (r t1) d w (by omega) (by omega) (o2 Q hQ)
end MV
end
section
section CP
theorem fg_shiftY {m m' x : Nat → fg_I} {a b s e : Nat} {en : Int32} (d : Nat) (h : fg_F m x a b s e en)
    (hm : ∀ j, a ≤ j → j < b → m' (j + d) = m j) : fg_F m' x (a + d) (b + d) s e en := by
  obtain ⟨g1, g2, g3, g4, g5, r, ch, l, pr, sb, u, ad, pa, ra, rb, ca, cb, H⟩ := h
  refine ⟨by omega, by omega, by omega, fun h => by rw [g4 h], by omega, fun j => r (j - d), fun j => ch (j - d), fun j => l (j - d), fun j => pr (j - d) + d, sb, u, fun p => ad p + d, pa, ?_, ?_, ?_, ?_, ?_⟩
  · dsimp only; rw [Nat.add_sub_cancel, ra]
  · dsimp only; rw [Nat.add_sub_cancel, rb]
  · dsimp only; rw [Nat.add_sub_cancel, ca]
  · dsimp only; rw [Nat.add_sub_cancel, cb]
  · refine fg_part d 0 id H (Nat.le_refl _) (Nat.le_refl _) (Nat.le_refl _) (Nat.le_refl _) (fun q q1 q2 => rfl) (fun j _ _ h => fg_ff h) (Or.inl rfl) hm (fun _ _ _ => rfl) ?_ ?_ ?_ ?_ ?_ ?_ ?_ ?_ ?_ ?_ <;> (intros; simp only [Nat.add_sub_cancel, List.map_id, id, Nat.add_zero])
/-! the chain of jumps that wait -/
def fg_JC (m : Nat → fg_I) : List Nat → Int32 → Prop
  | [], h => h = -1
  | j :: J, h => h = nI j ∧ (∀ i, i ∈ J → i < j) ∧ fg_JC m J (m j).2.2.1
theorem fg_JC_frame {m m' : Nat → fg_I} : ∀ (J : List Nat) (h : Int32), (∀ j, j ∈ J → m' j = m j) → fg_JC m J h → fg_JC m' J h
  | [], _, _, H => H
  | j :: J, h, hm, H => by
    refine ⟨H.1, H.2.1, ?_⟩
    rw [hm j List.mem_cons_self]
    exact fg_JC_frame J _ (fun i hi => hm i (List.mem_cons_of_mem _ hi)) H.2.2
/-! one level -/
def cp_gb (g : Nat) : Nat := if 0 < g then 1 else 0
def cp_L (m x : Nat → fg_I) (g : Nat) (le jm be : Int32) (o b o' s t s' : Nat) (J : List Nat) : Prop :=
  (0 < g → (m o).1 = 5 ∧ (m o).2.1 = nI (2 * g) ∧ (m o).2.2.1 = 1) ∧
  ((le = -2 ∧ b = o + cp_gb g ∧ t = s ∧ jm = -1) ∨ (¬ le = -2 ∧ fg_PA m x (o + cp_gb g) b s t le J ∧ fg_JC m J jm)) ∧
  fg_F m x b o' t s' be
theorem cp_gb_le (g : Nat) : cp_gb g ≤ 1 := by unfold cp_gb; split <;> omega
theorem cp_L_le {m x : Nat → fg_I} {g : Nat} {le jm be : Int32} {o b o' s t s' : Nat} {J : List Nat} (h : cp_L m x g le jm be o b o' s t s' J) :
    o + cp_gb g ≤ b ∧ b ≤ o' ∧ s ≤ t ∧ t ≤ s' ∧ o' ≤ o + cp_gb g + 2 * (s' - s) + 2 * (if le = -2 then 0 else 1) := by
  obtain ⟨_, h2, h3⟩ := h
  have e1 := h3.1
  have e2 := h3.2.1
  have e3 := h3.2.2.1
  rcases h2 with ⟨a1, a2, a3, _⟩ | ⟨a1, a2, _⟩
  · rw [if_pos a1]; omega
  · have f1 := a2.1
    have f2 := a2.2.1
    have f3 := a2.2.2.1
    rw [if_neg a1]; omega
theorem cp_L_frame {m x m' x' : Nat → fg_I} {g : Nat} {le jm be : Int32} {o b o' s t s' : Nat} {J : List Nat} (h : cp_L m x g le jm be o b o' s t s' J)
    (hm : ∀ j, o ≤ j → j < o' → m' j = m j) (hx : ∀ p, s ≤ p → p < s' → x' p = x p) : cp_L m' x' g le jm be o b o' s t s' J := by
  obtain ⟨b1, b2, b3, b4, _⟩ := cp_L_le h
  obtain ⟨h1, h2, h3⟩ := h
  have hgb : 0 < g → cp_gb g = 1 := fun h => if_pos h
  refine ⟨fun hg => ?_, ?_, fg_frame h3 (fun j j1 j2 => hm j (by omega) j2) (fun p p1 p2 => hx p (by omega) p2)⟩
  · have := hgb hg
    rw [hm o (Nat.le_refl _) (by omega)]; exact h1 hg
  · rcases h2 with h2 | ⟨a1, a2, a3⟩
    · exact Or.inl h2
    · refine Or.inr ⟨a1, fg_PA_frame a2 (fun j j1 j2 => hm j (by omega) (by omega)) (fun p p1 p2 => hx p p1 (by omega)), fg_JC_frame J jm (fun j hj => ?_) a3⟩
      have := a2.2.2.2.1 j hj
      exact hm j (by omega) (by omega)
/-- an atom joins its branch -/
theorem cp_join {m x x' : Nat → fg_I} {g : Nat} {le jm be ae : Int32} {o b o' en s t s' pc : Nat} {J : List Nat} (h : cp_L m x g le jm be o b o' s t s' J) (ha : fg_F m x o' en s' pc ae) (hp : pc < 1000)
    (hx0 : ∀ p, s ≤ p → p < t → x' p = x p) (hx1 : ∀ p, t ≤ p → p < s' → x' p = fg_px (fg_mo ae) (x p)) (hx2 : ∀ p, s' ≤ p → p < pc → x' p = x p) : cp_L m x' g le jm (fg_mo ae be) o b en s t pc J := by
  obtain ⟨b1, b2, b3, b4, _⟩ := cp_L_le h
  obtain ⟨h1, h2, h3⟩ := h
  refine ⟨h1, ?_, fg_seq h3 ha hp hx1 hx2⟩
  rcases h2 with h2 | ⟨a1, a2, a3⟩
  · exact Or.inl h2
  · exact Or.inr ⟨a1, fg_PA_frame a2 (fun _ _ _ => rfl) hx0, a3⟩
theorem cp_mem {m x : Nat → fg_I} {a b s e : Nat} {en : Int32} {J : List Nat} (h : fg_PA m x a b s e en J) {j : Nat} (hj : j ∈ J) : a ≤ j ∧ j < b := ⟨(h.2.2.2.1 j hj).1, (h.2.2.2.1 j hj).2.1⟩
/-- a bar: the branch is done -/
theorem cp_bar {m m' x x' : Nat → fg_I} {g : Nat} {le le' jm be : Int32} {o b en s t pc pc' : Nat} {J : List Nat} (h : cp_L m x g le jm be o b en s t pc J)
    (hm0 : ∀ j, o ≤ j → j < b → m' j = m j) (hm : ∀ j, b ≤ j → j < en → m' (j + 1) = m j) (hb : (m' b).1 = 3) (hb1 : nI b + (m' b).2.2.1 = nI (b + 1)) (hb2 : nI b + (m' b).2.2.2 = nI (en + 2)) (hj : (m' (en + 1)).1 = 4) (hj2 : (m' (en + 1)).2.2.1 = jm)
    (hx : ∀ p, s ≤ p → p < pc → x' p = x p) (hbe : ¬ be = -2) (hpc : pc < 1000)
    (hf : (le = -2 ∧ le' = be ∧ pc' = pc) ∨ (¬ le = -2 ∧ le' = nI pc ∧ pc' = pc + 1 ∧ (x' pc).1 = 4 ∧ (x' pc).2.2 = (le, be))) :
    ∃ J', cp_L m' x' g le' (nI (en + 1)) (-1) o (en + 2) (en + 2) s pc' pc' J' := by
  obtain ⟨b1, b2, b3, b4, _⟩ := cp_L_le h
  obtain ⟨h1, h2, h3⟩ := h
  have hgb : 0 < g → cp_gb g = 1 := fun h => if_pos h
  have hg : 0 < g → (m' o).1 = 5 ∧ (m' o).2.1 = nI (2 * g) ∧ (m' o).2.2.1 = 1 := fun hg => by
    have := hgb hg
    rw [hm0 o (Nat.le_refl _) (by omega)]; exact h1 hg
  rcases h2 with ⟨a1, a2, a3, a4⟩ | ⟨a1, a2, a3⟩
  · rcases hf with ⟨_, f2, f3⟩ | ⟨f1, _⟩
    · refine ⟨[en + 1], hg, Or.inr ⟨by rw [f2]; exact hbe, ?_, rfl, (fun i hi => by cases hi), ?_⟩, fg_empty m' x' _ _⟩
      · rw [f2, f3]
        have P := fg_PA_frame (m' := m') (x' := x') (fg_pa1 (m' := m') h3 hm hb hb1 hb2 hj) (fun _ _ _ => rfl) (fun p p1 p2 => hx p (by omega) p2)
        rw [a2, a3] at P
        exact P
      · show (m' (en + 1)).2.2.1 = -1
        rw [hj2]; exact a4
    · exact absurd a1 f1
  · rcases hf with ⟨f1, _⟩ | ⟨_, f2, f3, f4, f5⟩
    · exact absurd f1 a1
    · refine ⟨(en + 1) :: J, hg, Or.inr ⟨?_, ?_, rfl, fun i hi => ?_, ?_⟩, fg_empty m' x' _ _⟩
      · rw [f2]
        intro h
        have := nI_pos (n := pc) (by omega)
        rw [h] at this
        exact this (by decide)
      · rw [f2, f3]
        exact fg_paN a2 h3 (fun j j1 j2 => hm0 j (by omega) j2) hm hb hb1 hb2 hj hx f4 f5
      · have := cp_mem a2 hi; omega
      · rw [hj2]
        exact fg_JC_frame J jm (fun j hj => by have := cp_mem a2 hj; exact hm0 j (by omega) (by omega)) a3
/-- the level is done: its inside is one fragment -/
theorem cp_done {m m' x x' : Nat → fg_I} {g : Nat} {le le' jm be : Int32} {o b en s t pc pc' : Nat} {J : List Nat} (h : cp_L m x g le jm be o b en s t pc J) (hpc : pc < 999)
    (hm0 : ∀ j, o ≤ j → j < en → (¬ le = -2 → ¬ j ∈ J) → m' j = m j) (hm1 : ¬ le = -2 → ∀ j, j ∈ J → (m' j).1 = 4 ∧ nI j + (m' j).2.2.1 = nI en)
    (hx : ∀ p, s ≤ p → p < pc → x' p = x p)
    (hf : (le = -2 ∧ le' = be ∧ pc' = pc) ∨ (¬ le = -2 ∧ le' = nI pc ∧ pc' = pc + 1 ∧ (x' pc).1 = 4 ∧ (x' pc).2.2 = (le, be))) :
    fg_F m' x' (o + cp_gb g) en s pc' le' ∧ (0 < g → (m' o).1 = 5 ∧ (m' o).2.1 = nI (2 * g) ∧ (m' o).2.2.1 = 1) := by
  obtain ⟨b1, b2, b3, b4, _⟩ := cp_L_le h
  obtain ⟨h1, h2, h3⟩ := h
  have hgb : 0 < g → cp_gb g = 1 := fun h => if_pos h
  rcases h2 with ⟨a1, a2, a3, a4⟩ | ⟨a1, a2, a3⟩
  · rcases hf with ⟨_, f2, f3⟩ | ⟨f1, _⟩
    · refine ⟨?_, fun hg => ?_⟩
      · rw [f2, f3, ← a2, ← a3]
        exact fg_frame h3 (fun j j1 j2 => hm0 j (by omega) j2 (fun h => absurd a1 h)) (fun p p1 p2 => hx p (by omega) p2)
      · have := hgb hg
        rw [hm0 o (Nat.le_refl _) (by omega) (fun h => absurd a1 h)]; exact h1 hg
    · exact absurd a1 f1
  · rcases hf with ⟨f1, _⟩ | ⟨_, f2, f3, f4, f5⟩
    · exact absurd f1 a1
    · refine ⟨?_, fun hg => ?_⟩
      · rw [f2, f3]
        exact fg_close a2 h3 hpc (fun j j1 j2 j3 => hm0 j (by omega) j2 (fun _ => j3)) (hm1 a1) hx f4 f5
      · have := hgb hg
        have h0 := a2.1
        rw [hm0 o (Nat.le_refl _) (by omega) (fun _ hj => by have := cp_mem a2 hj; omega)]; exact h1 hg
end CP
end
section
section XM
/-! the component's search: each step by a lemma, then the interface -/
def fg_q (K V N S : Nat → Int32) : Nat → fg_I := fun p => (K p, V p, N p, S p)
theorem xm_bit {x : Int64} {a : Nat} (h : a < 64) : (((x.toUInt64 >>> ((nI a).toInt64.toUInt64 &&& Int64.toUInt64 63)).toInt64) &&& 1) = 0 ↔ mt_sn x a = false := by
  refine ts_bit h ?_
  rw [wb_cu a h]
  show a % 2 ^ 64 = a
  omega
theorem xm_one : ∀ a, a < 64 → (1 : Int64) <<< ((nI a).toInt64 &&& 63) = lN (2 ^ a) := by decide +kernel
theorem xm_mke {s : Nat → Int64} {p a : Nat} (hp : p < 2 ^ 31) (ha : a < 64) : vp_updL s (nI p).toNatClampNeg ((s (nI p).toNatClampNeg) ||| ((1 : Int64) <<< ((nI a).toInt64 &&& 63))) = mt_mk s p a := by
  rw [nI_clamp hp, xm_one a ha]; rfl
def xm_nw (w : Int64) (k a : Nat) : Int64 := (w &&& (((63 : Int64) <<< ((nI (6 * k)).toInt64 &&& 63)) ^^^ (-1))) ||| (((nI a + 1).toInt64) <<< ((nI (6 * k)).toInt64 &&& 63))
def xm_ft (T : Nat → Int32) (v : Int32) (a : Nat) : Prop := ¬ ((v >>> (T a &&& 31)) &&& 1) = 0
def xm_Stk (cp cl : Nat → Int32) (cn : Nat → Int64) : List mt_C → Prop
  | [] => True
  | e :: st => cp st.length = e.1 ∧ cl st.length = nI e.2.1 ∧ cn st.length = e.2.2 ∧ xm_Stk cp cl cn st
theorem xm_Stk_f {cp cl cp' cl' : Nat → Int32} {cn cn' : Nat → Int64} : ∀ st : List mt_C, (∀ j, j < st.length → cp' j = cp j ∧ cl' j = cl j ∧ cn' j = cn j) → xm_Stk cp cl cn st → xm_Stk cp' cl' cn' st
  | [], _, _ => trivial
  | e :: st, h, H => by
    obtain ⟨h1, h2, h3⟩ := h st.length (by simp)
    exact ⟨h1.trans H.1, h2.trans H.2.1, h3.trans H.2.2.1, xm_Stk_f st (fun j hj => h j (by simp only [List.length_cons]; omega)) H.2.2.2⟩
theorem xm_Stk_p {cp cl : Nat → Int32} {cn : Nat → Int64} {st : List mt_C} {q : Int32} {a : Nat} {w : Int64} (h : xm_Stk cp cl cn st) : xm_Stk (upd cp st.length q) (upd cl st.length (nI a)) (vp_updL cn st.length w) ((q, a, w) :: st) :=
  ⟨if_pos rfl, if_pos rfl, if_pos rfl, xm_Stk_f st (fun _ hj => ⟨if_neg (Nat.ne_of_lt hj), if_neg (Nat.ne_of_lt hj), if_neg (Nat.ne_of_lt hj)⟩) h⟩
variable {f_tokens f_faultPlace f_length f_pieces f_patternEntry f_hasPattern f_tooLarge f_level f_groups f_atomStart f_atomEntry f_choices f_wayPiece f_wayPlace : Int32} {f_wayNotes : Int64} {f_hasResult f_resultStart f_resultEnd : Int32} {f_resultNotes : Int64} {a_tokenKind a_tokenValue a_text a_pieceKind a_pieceValue a_pieceNext a_pieceSecond a_levelGroup a_levelStart a_levelEntry a_branchStart a_branchEntry : Nat → Int32} {a_placesSeen : Nat → Int64} {a_choicePiece a_choicePlace : Nat → Int32} {a_choiceNotes : Nat → Int64}
theorem xm_out {post : Int32 → SX → Prop} (h : post 0 (f_tokens, f_faultPlace, f_length, f_pieces, f_patternEntry, f_hasPattern, f_tooLarge, f_level, f_groups, f_atomStart, f_atomEntry, f_choices, (-1), f_wayPlace, f_wayNotes, f_hasResult, f_resultStart, f_resultEnd, f_resultNotes, a_tokenKind, a_tokenValue, a_text, a_pieceKind, a_pieceValue, a_pieceNext, a_pieceSecond, a_levelGroup, a_levelStart, a_levelEntry, a_branchStart, a_branchEntry, a_placesSeen, a_choicePiece, a_choicePlace, a_choiceNotes)) : wpX_advance post (f_tokens, f_faultPlace, f_length, f_pieces, f_patternEntry, f_hasPattern, f_tooLarge, f_level, f_groups, f_atomStart, f_atomEntry, f_choices, (-1), f_wayPlace, f_wayNotes, f_hasResult, f_resultStart, f_resultEnd, f_resultNotes, a_tokenKind, a_tokenValue, a_text, a_pieceKind, a_pieceValue, a_pieceNext, a_pieceSecond, a_levelGroup, a_levelStart, a_levelEntry, a_branchStart, a_branchEntry, a_placesSeen, a_choicePiece, a_choicePlace, a_choiceNotes) := br_t rfl h
theorem xm_seen {post : Int32 → SX → Prop} {p a : Nat} (hp : p < 36) (ha : a < 33) (hs : mt_sn (a_placesSeen p) a = true) (h : post 0 (f_tokens, f_faultPlace, f_length, f_pieces, f_patternEntry, f_hasPattern, f_tooLarge, f_level, f_groups, f_atomStart, f_atomEntry, f_choices, nI p, nI a, f_wayNotes, f_hasResult, f_resultStart, f_resultEnd, f_resultNotes, a_tokenKind, a_tokenValue, a_text, a_pieceKind, a_pieceValue, a_pieceNext, a_pieceSecond, a_levelGroup, a_levelStart, a_levelEntry, a_branchStart, a_branchEntry, a_placesSeen, a_choicePiece, a_choicePlace, a_choiceNotes)) : wpX_advance post (f_tokens, f_faultPlace, f_length, f_pieces, f_patternEntry, f_hasPattern, f_tooLarge, f_level, f_groups, f_atomStart, f_atomEntry, f_choices, nI p, nI a, f_wayNotes, f_hasResult, f_resultStart, f_resultEnd, f_resultNotes, a_tokenKind, a_tokenValue, a_text, a_pieceKind, a_pieceValue, a_pieceNext, a_pieceSecond, a_levelGroup, a_levelStart, a_levelEntry, a_branchStart, a_branchEntry, a_placesSeen, a_choicePiece, a_choicePlace, a_choiceNotes) := by
  refine br_f (fg_ne (by omega)) ⟨vp_in_nI hp (by omega), br_f ?_ h⟩
  rw [nI_clamp (by omega), xm_bit (by omega), hs]
  decide
theorem xm_b0 {s : Nat → Int64} {p a : Nat} (hp : p < 36) (ha : a < 33) (hs : mt_sn (s p) a = false) : ((((s (nI p).toNatClampNeg).toUInt64 >>> ((nI a).toInt64.toUInt64 &&& Int64.toUInt64 63)).toInt64) &&& 1) = 0 := by
  rw [nI_clamp (by omega), xm_bit (by omega)]; exact hs
theorem xm_c0 {f : Nat → Int32} {p : Nat} (hp : p < 36) {k : Int32} (h : f p = k) : f (nI p).toNatClampNeg = k := by
  rw [nI_clamp (by omega)]; exact h
theorem xm_fit1 {post : Int32 → SX → Prop} {p a n : Nat} (hp : p < 36) (hn : n ≤ 32) (ha : a < n) (hs : mt_sn (a_placesSeen p) a = false) (hk : a_pieceKind p = 0) (hf : xm_ft a_text (a_pieceValue p) a)
    (h : post 1 (f_tokens, f_faultPlace, nI n, f_pieces, f_patternEntry, f_hasPattern, f_tooLarge, f_level, f_groups, f_atomStart, f_atomEntry, f_choices, a_pieceNext p, nI (a + 1), f_wayNotes, f_hasResult, f_resultStart, f_resultEnd, f_resultNotes, a_tokenKind, a_tokenValue, a_text, a_pieceKind, a_pieceValue, a_pieceNext, a_pieceSecond, a_levelGroup, a_levelStart, a_levelEntry, a_branchStart, a_branchEntry, mt_mk a_placesSeen p a, a_choicePiece, a_choicePlace, a_choiceNotes)) : wpX_advance post (f_tokens, f_faultPlace, nI n, f_pieces, f_patternEntry, f_hasPattern, f_tooLarge, f_level, f_groups, f_atomStart, f_atomEntry, f_choices, nI p, nI a, f_wayNotes, f_hasResult, f_resultStart, f_resultEnd, f_resultNotes, a_tokenKind, a_tokenValue, a_text, a_pieceKind, a_pieceValue, a_pieceNext, a_pieceSecond, a_levelGroup, a_levelStart, a_levelEntry, a_branchStart, a_branchEntry, a_placesSeen, a_choicePiece, a_choicePlace, a_choiceNotes) := by
  have hv : vp_in (nI p) 36 := vp_in_nI hp (by omega)
  refine br_f (fg_ne (by omega)) ⟨hv, br_t (xm_b0 hp (by omega) hs) ⟨hv, hv, nm_r (xm_mke (by omega) (by omega)) ⟨hv, nm_r (xm_c0 hp rfl) ⟨hv, nm_r (xm_c0 hp hk) (br_f (by decide) (br_f (by decide) (br_t rfl ⟨hv, ?_⟩)))⟩⟩⟩⟩
  rw [xm_c0 (f := a_pieceValue) hp rfl]
  refine br_f (nI_ge ha (by omega)) ⟨vp_in_nI (by omega) (by omega), br_f ?_ (nm_r (nI_1 a) ⟨rfl, h⟩)⟩
  rw [nI_clamp (by omega)]; exact hf
theorem xm_fit0 {post : Int32 → SX → Prop} {p a n : Nat} (hp : p < 36) (hn : n ≤ 32) (ha : a ≤ n) (hs : mt_sn (a_placesSeen p) a = false) (hk : a_pieceKind p = 0) (hf : ¬ (a < n ∧ xm_ft a_text (a_pieceValue p) a))
    (h : post 0 (f_tokens, f_faultPlace, nI n, f_pieces, f_patternEntry, f_hasPattern, f_tooLarge, f_level, f_groups, f_atomStart, f_atomEntry, f_choices, a_pieceNext p, nI a, f_wayNotes, f_hasResult, f_resultStart, f_resultEnd, f_resultNotes, a_tokenKind, a_tokenValue, a_text, a_pieceKind, a_pieceValue, a_pieceNext, a_pieceSecond, a_levelGroup, a_levelStart, a_levelEntry, a_branchStart, a_branchEntry, mt_mk a_placesSeen p a, a_choicePiece, a_choicePlace, a_choiceNotes)) : wpX_advance post (f_tokens, f_faultPlace, nI n, f_pieces, f_patternEntry, f_hasPattern, f_tooLarge, f_level, f_groups, f_atomStart, f_atomEntry, f_choices, nI p, nI a, f_wayNotes, f_hasResult, f_resultStart, f_resultEnd, f_resultNotes, a_tokenKind, a_tokenValue, a_text, a_pieceKind, a_pieceValue, a_pieceNext, a_pieceSecond, a_levelGroup, a_levelStart, a_levelEntry, a_branchStart, a_branchEntry, a_placesSeen, a_choicePiece, a_choicePlace, a_choiceNotes) := by
  have hv : vp_in (nI p) 36 := vp_in_nI hp (by omega)
  refine br_f (fg_ne (by omega)) ⟨hv, br_t (xm_b0 hp (by omega) hs) ⟨hv, hv, nm_r (xm_mke (by omega) (by omega)) ⟨hv, nm_r (xm_c0 hp rfl) ⟨hv, nm_r (xm_c0 hp hk) (br_f (by decide) (br_f (by decide) (br_t rfl ⟨hv, ?_⟩)))⟩⟩⟩⟩
  rw [xm_c0 (f := a_pieceValue) hp rfl]
  by_cases e : a < n
  · refine br_f (nI_ge e (by omega)) ⟨vp_in_nI (by omega) (by omega), br_t ?_ ⟨rfl, h⟩⟩
    rw [nI_clamp (by omega)]
    exact Classical.byContradiction (fun h' => hf ⟨e, h'⟩)
  · exact br_t (nI_le (by omega) (by omega)) ⟨rfl, h⟩
theorem xm_beg {post : Int32 → SX → Prop} {p a n : Nat} (hp : p < 36) (hn : n ≤ 32) (ha : a ≤ n) (hs : mt_sn (a_placesSeen p) a = false) (hk : a_pieceKind p = 1)
    (h1 : a = 0 → post 1 (f_tokens, f_faultPlace, nI n, f_pieces, f_patternEntry, f_hasPattern, f_tooLarge, f_level, f_groups, f_atomStart, f_atomEntry, f_choices, a_pieceNext p, nI a, f_wayNotes, f_hasResult, f_resultStart, f_resultEnd, f_resultNotes, a_tokenKind, a_tokenValue, a_text, a_pieceKind, a_pieceValue, a_pieceNext, a_pieceSecond, a_levelGroup, a_levelStart, a_levelEntry, a_branchStart, a_branchEntry, mt_mk a_placesSeen p a, a_choicePiece, a_choicePlace, a_choiceNotes)) (h0 : ¬ a = 0 → post 0 (f_tokens, f_faultPlace, nI n, f_pieces, f_patternEntry, f_hasPattern, f_tooLarge, f_level, f_groups, f_atomStart, f_atomEntry, f_choices, a_pieceNext p, nI a, f_wayNotes, f_hasResult, f_resultStart, f_resultEnd, f_resultNotes, a_tokenKind, a_tokenValue, a_text, a_pieceKind, a_pieceValue, a_pieceNext, a_pieceSecond, a_levelGroup, a_levelStart, a_levelEntry, a_branchStart, a_branchEntry, mt_mk a_placesSeen p a, a_choicePiece, a_choicePlace, a_choiceNotes)) : wpX_advance post (f_tokens, f_faultPlace, nI n, f_pieces, f_patternEntry, f_hasPattern, f_tooLarge, f_level, f_groups, f_atomStart, f_atomEntry, f_choices, nI p, nI a, f_wayNotes, f_hasResult, f_resultStart, f_resultEnd, f_resultNotes, a_tokenKind, a_tokenValue, a_text, a_pieceKind, a_pieceValue, a_pieceNext, a_pieceSecond, a_levelGroup, a_levelStart, a_levelEntry, a_branchStart, a_branchEntry, a_placesSeen, a_choicePiece, a_choicePlace, a_choiceNotes) := by
  have hv : vp_in (nI p) 36 := vp_in_nI hp (by omega)
  exact br_f (fg_ne (by omega)) ⟨hv, br_t (xm_b0 hp (by omega) hs) ⟨hv, hv, nm_r (xm_mke (by omega) (by omega)) ⟨hv, nm_r (xm_c0 hp rfl) ⟨hv, nm_r (xm_c0 hp hk) (br_f (by decide) (br_f (by decide) (br_f (by decide) (br_t rfl (pk_eq a 0 h1 h0)))))⟩⟩⟩⟩
theorem xm_end {post : Int32 → SX → Prop} {p a n : Nat} (hp : p < 36) (hn : n ≤ 32) (ha : a ≤ n) (hs : mt_sn (a_placesSeen p) a = false) (hk : a_pieceKind p = 2)
    (h1 : a = n → post 1 (f_tokens, f_faultPlace, nI n, f_pieces, f_patternEntry, f_hasPattern, f_tooLarge, f_level, f_groups, f_atomStart, f_atomEntry, f_choices, a_pieceNext p, nI a, f_wayNotes, f_hasResult, f_resultStart, f_resultEnd, f_resultNotes, a_tokenKind, a_tokenValue, a_text, a_pieceKind, a_pieceValue, a_pieceNext, a_pieceSecond, a_levelGroup, a_levelStart, a_levelEntry, a_branchStart, a_branchEntry, mt_mk a_placesSeen p a, a_choicePiece, a_choicePlace, a_choiceNotes)) (h0 : ¬ a = n → post 0 (f_tokens, f_faultPlace, nI n, f_pieces, f_patternEntry, f_hasPattern, f_tooLarge, f_level, f_groups, f_atomStart, f_atomEntry, f_choices, a_pieceNext p, nI a, f_wayNotes, f_hasResult, f_resultStart, f_resultEnd, f_resultNotes, a_tokenKind, a_tokenValue, a_text, a_pieceKind, a_pieceValue, a_pieceNext, a_pieceSecond, a_levelGroup, a_levelStart, a_levelEntry, a_branchStart, a_branchEntry, mt_mk a_placesSeen p a, a_choicePiece, a_choicePlace, a_choiceNotes)) : wpX_advance post (f_tokens, f_faultPlace, nI n, f_pieces, f_patternEntry, f_hasPattern, f_tooLarge, f_level, f_groups, f_atomStart, f_atomEntry, f_choices, nI p, nI a, f_wayNotes, f_hasResult, f_resultStart, f_resultEnd, f_resultNotes, a_tokenKind, a_tokenValue, a_text, a_pieceKind, a_pieceValue, a_pieceNext, a_pieceSecond, a_levelGroup, a_levelStart, a_levelEntry, a_branchStart, a_branchEntry, a_placesSeen, a_choicePiece, a_choicePlace, a_choiceNotes) := by
  have hv : vp_in (nI p) 36 := vp_in_nI hp (by omega)
  exact br_f (fg_ne (by omega)) ⟨hv, br_t (xm_b0 hp (by omega) hs) ⟨hv, hv, nm_r (xm_mke (by omega) (by omega)) ⟨hv, nm_r (xm_c0 hp rfl) ⟨hv, nm_r (xm_c0 hp hk) (br_f (by decide) (br_f (by decide) (br_f (by decide) (br_f (by decide) (br_t rfl (pk_eq a n h1 h0))))))⟩⟩⟩⟩
theorem xm_note {post : Int32 → SX → Prop} {p a k : Nat} (hp : p < 36) (ha : a ≤ 32) (hs : mt_sn (a_placesSeen p) a = false) (hk : a_pieceKind p = 3) (hv1 : a_pieceValue p = nI k)
    (h : post 1 (f_tokens, f_faultPlace, f_length, f_pieces, f_patternEntry, f_hasPattern, f_tooLarge, f_level, f_groups, f_atomStart, f_atomEntry, f_choices, a_pieceNext p, nI a, xm_nw f_wayNotes k a, f_hasResult, f_resultStart, f_resultEnd, f_resultNotes, a_tokenKind, a_tokenValue, a_text, a_pieceKind, a_pieceValue, a_pieceNext, a_pieceSecond, a_levelGroup, a_levelStart, a_levelEntry, a_branchStart, a_branchEntry, mt_mk a_placesSeen p a, a_choicePiece, a_choicePlace, a_choiceNotes)) : wpX_advance post (f_tokens, f_faultPlace, f_length, f_pieces, f_patternEntry, f_hasPattern, f_tooLarge, f_level, f_groups, f_atomStart, f_atomEntry, f_choices, nI p, nI a, f_wayNotes, f_hasResult, f_resultStart, f_resultEnd, f_resultNotes, a_tokenKind, a_tokenValue, a_text, a_pieceKind, a_pieceValue, a_pieceNext, a_pieceSecond, a_levelGroup, a_levelStart, a_levelEntry, a_branchStart, a_branchEntry, a_placesSeen, a_choicePiece, a_choicePlace, a_choiceNotes) := by
  have hv : vp_in (nI p) 36 := vp_in_nI hp (by omega)
  refine br_f (fg_ne (by omega)) ⟨hv, br_t (xm_b0 hp (by omega) hs) ⟨hv, hv, nm_r (xm_mke (by omega) (by omega)) ⟨hv, nm_r (xm_c0 hp rfl) ⟨hv, nm_r (xm_c0 hp hk) (br_f (by decide) (br_f (by decide) (br_f (by decide) (br_f (by decide) (br_f (by decide) (br_t rfl ⟨hv, ?_⟩))))))⟩⟩⟩⟩
  rw [xm_c0 hp hv1]
  exact nm_r (show 6 * nI k = nI (6 * k) from pk_mul 6 k) (nm_e h)
theorem xm_fork {post : Int32 → SX → Prop} {p a c : Nat} (hp : p < 36) (ha : a ≤ 32) (hs : mt_sn (a_placesSeen p) a = false) (hk : a_pieceKind p = 4) (hc : c < 1188)
    (h : post 1 (f_tokens, f_faultPlace, f_length, f_pieces, f_patternEntry, f_hasPattern, f_tooLarge, f_level, f_groups, f_atomStart, f_atomEntry, nI (c + 1), a_pieceNext p, nI a, f_wayNotes, f_hasResult, f_resultStart, f_resultEnd, f_resultNotes, a_tokenKind, a_tokenValue, a_text, a_pieceKind, a_pieceValue, a_pieceNext, a_pieceSecond, a_levelGroup, a_levelStart, a_levelEntry, a_branchStart, a_branchEntry, mt_mk a_placesSeen p a, upd a_choicePiece c (a_pieceSecond p), upd a_choicePlace c (nI a), vp_updL a_choiceNotes c f_wayNotes)) : wpX_advance post (f_tokens, f_faultPlace, f_length, f_pieces, f_patternEntry, f_hasPattern, f_tooLarge, f_level, f_groups, f_atomStart, f_atomEntry, nI c, nI p, nI a, f_wayNotes, f_hasResult, f_resultStart, f_resultEnd, f_resultNotes, a_tokenKind, a_tokenValue, a_text, a_pieceKind, a_pieceValue, a_pieceNext, a_pieceSecond, a_levelGroup, a_levelStart, a_levelEntry, a_branchStart, a_branchEntry, a_placesSeen, a_choicePiece, a_choicePlace, a_choiceNotes) := by
  have hv : vp_in (nI p) 36 := vp_in_nI hp (by omega)
  have hc' : vp_in (nI c) 1188 := vp_in_nI hc (by omega)
  refine br_f (fg_ne (by omega)) ⟨hv, br_t (xm_b0 hp (by omega) hs) ⟨hv, hv, nm_r (xm_mke (by omega) (by omega)) ⟨hv, nm_r (xm_c0 hp rfl) ⟨hv, nm_r (xm_c0 hp hk) (br_f (by decide) (br_t (by decide) ⟨hv, ?_⟩))⟩⟩⟩⟩
  rw [xm_c0 (f := a_pieceSecond) hp rfl]
  have e : (nI c).toNatClampNeg = c := nI_clamp (by omega)
  exact br_t (nI_lt (b := 1188) hc (by decide)) ⟨hc', nm_r (by rw [e]) ⟨hc', nm_r (by rw [e]) ⟨hc', nm_r (by rw [e]) (nm_r (nI_1 c) h)⟩⟩⟩
end XM
end
section
section XN
def xm_P0 (f_tokens f_faultPlace f_length f_pieces f_patternEntry f_hasPattern f_tooLarge f_level f_groups f_atomStart f_atomEntry f_choices f_wayPiece f_wayPlace : Int32) (f_wayNotes : Int64) (f_hasResult f_resultStart f_resultEnd : Int32) (f_resultNotes : Int64) (a_tokenKind a_tokenValue a_text a_pieceKind a_pieceValue a_pieceNext a_pieceSecond a_levelGroup a_levelStart a_levelEntry a_branchStart a_branchEntry : Nat → Int32) (a_placesSeen : Nat → Int64) (a_choicePiece a_choicePlace : Nat → Int32) (a_choiceNotes : Nat → Int64) (post : Int32 → SX → Prop) : Prop := ∀ (c q l : Int32) (w : Int64) (ps : Nat → Int64) (cp cl : Nat → Int32) (cn : Nat → Int64), post 0 (f_tokens, f_faultPlace, f_length, f_pieces, f_patternEntry, f_hasPattern, f_tooLarge, f_level, f_groups, f_atomStart, f_atomEntry, c, q, l, w, f_hasResult, f_resultStart, f_resultEnd, f_resultNotes, a_tokenKind, a_tokenValue, a_text, a_pieceKind, a_pieceValue, a_pieceNext, a_pieceSecond, a_levelGroup, a_levelStart, a_levelEntry, a_branchStart, a_branchEntry, ps, cp, cl, cn)
def xm_P1 (f_tokens f_faultPlace f_length f_pieces f_patternEntry f_hasPattern f_tooLarge f_level f_groups f_atomStart f_atomEntry f_choices f_wayPiece f_wayPlace : Int32) (f_wayNotes : Int64) (f_hasResult f_resultStart f_resultEnd : Int32) (f_resultNotes : Int64) (a_tokenKind a_tokenValue a_text a_pieceKind a_pieceValue a_pieceNext a_pieceSecond a_levelGroup a_levelStart a_levelEntry a_branchStart a_branchEntry : Nat → Int32) (a_placesSeen : Nat → Int64) (a_choicePiece a_choicePlace : Nat → Int32) (a_choiceNotes : Nat → Int64) (post : Int32 → SX → Prop) (x1 : Int32) (a : Nat) (v : Int64) : Prop := ∀ (c q l : Int32) (w : Int64) (ps : Nat → Int64) (cp cl : Nat → Int32) (cn : Nat → Int64), post 1 (f_tokens, f_faultPlace, f_length, f_pieces, f_patternEntry, f_hasPattern, f_tooLarge, f_level, f_groups, f_atomStart, f_atomEntry, c, q, l, w, 1, x1, nI a, v, a_tokenKind, a_tokenValue, a_text, a_pieceKind, a_pieceValue, a_pieceNext, a_pieceSecond, a_levelGroup, a_levelStart, a_levelEntry, a_branchStart, a_branchEntry, ps, cp, cl, cn)
def xm_W (f_tokens f_faultPlace f_length f_pieces f_patternEntry f_hasPattern f_tooLarge f_level f_groups f_atomStart f_atomEntry f_choices f_wayPiece f_wayPlace : Int32) (f_wayNotes : Int64) (f_hasResult f_resultStart f_resultEnd : Int32) (f_resultNotes : Int64) (a_tokenKind a_tokenValue a_text a_pieceKind a_pieceValue a_pieceNext a_pieceSecond a_levelGroup a_levelStart a_levelEntry a_branchStart a_branchEntry : Nat → Int32) (a_placesSeen : Nat → Int64) (a_choicePiece a_choicePlace : Nat → Int32) (a_choiceNotes : Nat → Int64) (P : Nat) (x1 x2 : Int32) (Q : Option (Nat × Int64) → Prop) (f t : Nat) (s : Nat → Int64) (st : List mt_C) (q : Int32) (a : Nat) (w : Int64) : Prop :=
  ∀ (s' : Nat → Int64), (∀ p, p < P → s' p = s p) → ∀ (post : Int32 → SX → Prop), (Q none → xm_P0 f_tokens f_faultPlace f_length f_pieces f_patternEntry f_hasPattern f_tooLarge f_level f_groups f_atomStart f_atomEntry f_choices f_wayPiece f_wayPlace f_wayNotes f_hasResult f_resultStart f_resultEnd f_resultNotes a_tokenKind a_tokenValue a_text a_pieceKind a_pieceValue a_pieceNext a_pieceSecond a_levelGroup a_levelStart a_levelEntry a_branchStart a_branchEntry a_placesSeen a_choicePiece a_choicePlace a_choiceNotes post) → (∀ a w, Q (some (a, w)) → xm_P1 f_tokens f_faultPlace f_length f_pieces f_patternEntry f_hasPattern f_tooLarge f_level f_groups f_atomStart f_atomEntry f_choices f_wayPiece f_wayPlace f_wayNotes f_hasResult f_resultStart f_resultEnd f_resultNotes a_tokenKind a_tokenValue a_text a_pieceKind a_pieceValue a_pieceNext a_pieceSecond a_levelGroup a_levelStart a_levelEntry a_branchStart a_branchEntry a_placesSeen a_choicePiece a_choicePlace a_choiceNotes post x1 a w) → ∀ (cp cl : Nat → Int32) (cn : Nat → Int64) (n : Nat), xm_Stk cp cl cn st → f ≤ n →
    wX_matchesFrom_7 post x1 x2 n (nI t) f_tokens f_faultPlace f_length f_pieces f_patternEntry f_hasPattern f_tooLarge f_level f_groups f_atomStart f_atomEntry (nI st.length) q (nI a) w f_hasResult f_resultStart f_resultEnd f_resultNotes a_tokenKind a_tokenValue a_text a_pieceKind a_pieceValue a_pieceNext a_pieceSecond a_levelGroup a_levelStart a_levelEntry a_branchStart a_branchEntry s' cp cl cn
theorem xm_ag {s s' : Nat → Int64} {P q a : Nat} (h : ∀ p, p < P → s' p = s p) : ∀ p, p < P → mt_mk s' q a p = mt_mk s q a p := by
  intro p hp
  by_cases e : p = q
  · subst e
    show (if p = p then s' p ||| lN (2 ^ a) else s' p) = (if p = p then s p ||| lN (2 ^ a) else s p)
    rw [h p hp]
  · rw [mt_mk_n e, mt_mk_n e, h p hp]
def xm_WP (f_tokens f_faultPlace f_length f_pieces f_patternEntry f_hasPattern f_tooLarge f_level f_groups f_atomStart f_atomEntry f_choices f_wayPiece f_wayPlace : Int32) (f_wayNotes : Int64) (f_hasResult f_resultStart f_resultEnd : Int32) (f_resultNotes : Int64) (a_tokenKind a_tokenValue a_text a_pieceKind a_pieceValue a_pieceNext a_pieceSecond a_levelGroup a_levelStart a_levelEntry a_branchStart a_branchEntry : Nat → Int32) (a_placesSeen : Nat → Int64) (a_choicePiece a_choicePlace : Nat → Int32) (a_choiceNotes : Nat → Int64) (P : Nat) (x1 x2 : Int32) (Q : Option (Nat × Int64) → Prop) (f t : Nat) (s : Nat → Int64) : List mt_C → Prop
  | [] => Q none
  | e :: st => st.length < 1188 ∧ xm_W f_tokens f_faultPlace f_length f_pieces f_patternEntry f_hasPattern f_tooLarge f_level f_groups f_atomStart f_atomEntry f_choices f_wayPiece f_wayPlace f_wayNotes f_hasResult f_resultStart f_resultEnd f_resultNotes a_tokenKind a_tokenValue a_text a_pieceKind a_pieceValue a_pieceNext a_pieceSecond a_levelGroup a_levelStart a_levelEntry a_branchStart a_branchEntry a_placesSeen a_choicePiece a_choicePlace a_choiceNotes P x1 x2 Q f (t + 1) s st e.1 e.2.1 e.2.2
variable {f_tokens f_faultPlace f_length f_pieces f_patternEntry f_hasPattern f_tooLarge f_level f_groups f_atomStart f_atomEntry f_choices f_wayPiece f_wayPlace : Int32} {f_wayNotes : Int64} {f_hasResult f_resultStart f_resultEnd : Int32} {f_resultNotes : Int64} {a_tokenKind a_tokenValue a_text a_pieceKind a_pieceValue a_pieceNext a_pieceSecond a_levelGroup a_levelStart a_levelEntry a_branchStart a_branchEntry : Nat → Int32} {a_placesSeen : Nat → Int64} {a_choicePiece a_choicePlace : Nat → Int32} {a_choiceNotes : Nat → Int64}
/-- a step forward -/
theorem xm_g44 {post : Int32 → SX → Prop} {x1 x2 : Int32} {n t : Nat} {c' q' l' : Int32} {w' : Int64} {ps' : Nat → Int64} {cp' cl' : Nat → Int32} {cn' : Nat → Int64}
    (hadv : ∀ post' : Int32 → SX → Prop, post' 1 (f_tokens, f_faultPlace, f_length, f_pieces, f_patternEntry, f_hasPattern, f_tooLarge, f_level, f_groups, f_atomStart, f_atomEntry, c', q', l', w', f_hasResult, f_resultStart, f_resultEnd, f_resultNotes, a_tokenKind, a_tokenValue, a_text, a_pieceKind, a_pieceValue, a_pieceNext, a_pieceSecond, a_levelGroup, a_levelStart, a_levelEntry, a_branchStart, a_branchEntry, ps', cp', cl', cn') → wpX_advance post' (f_tokens, f_faultPlace, f_length, f_pieces, f_patternEntry, f_hasPattern, f_tooLarge, f_level, f_groups, f_atomStart, f_atomEntry, f_choices, f_wayPiece, f_wayPlace, f_wayNotes, f_hasResult, f_resultStart, f_resultEnd, f_resultNotes, a_tokenKind, a_tokenValue, a_text, a_pieceKind, a_pieceValue, a_pieceNext, a_pieceSecond, a_levelGroup, a_levelStart, a_levelEntry, a_branchStart, a_branchEntry, a_placesSeen, a_choicePiece, a_choicePlace, a_choiceNotes))
    (h : wX_matchesFrom_7 post x1 x2 n (nI (t + 1)) f_tokens f_faultPlace f_length f_pieces f_patternEntry f_hasPattern f_tooLarge f_level f_groups f_atomStart f_atomEntry c' q' l' w' f_hasResult f_resultStart f_resultEnd f_resultNotes a_tokenKind a_tokenValue a_text a_pieceKind a_pieceValue a_pieceNext a_pieceSecond a_levelGroup a_levelStart a_levelEntry a_branchStart a_branchEntry ps' cp' cl' cn') :
    wX_matchesFrom_44 post (wX_matchesFrom_7 post x1 x2 n) x1 x2 (nI t) f_tokens f_faultPlace f_length f_pieces f_patternEntry f_hasPattern f_tooLarge f_level f_groups f_atomStart f_atomEntry f_choices f_wayPiece f_wayPlace f_wayNotes f_hasResult f_resultStart f_resultEnd f_resultNotes a_tokenKind a_tokenValue a_text a_pieceKind a_pieceValue a_pieceNext a_pieceSecond a_levelGroup a_levelStart a_levelEntry a_branchStart a_branchEntry a_placesSeen a_choicePiece a_choicePlace a_choiceNotes :=
  hadv _ (br_f (by decide) (nm_r (nI_1 t) h))
/-- no step: the last choice is taken up, or the search ends -/
theorem xm_f44 {post : Int32 → SX → Prop} {x1 x2 : Int32} {n f t : Nat} {q' l' : Int32} {w' : Int64} {ps' pt : Nat → Int64} {P : Nat} {st : List mt_C} {Q : Option (Nat × Int64) → Prop}
    (h0 : Q none → xm_P0 f_tokens f_faultPlace f_length f_pieces f_patternEntry f_hasPattern f_tooLarge f_level f_groups f_atomStart f_atomEntry f_choices f_wayPiece f_wayPlace f_wayNotes f_hasResult f_resultStart f_resultEnd f_resultNotes a_tokenKind a_tokenValue a_text a_pieceKind a_pieceValue a_pieceNext a_pieceSecond a_levelGroup a_levelStart a_levelEntry a_branchStart a_branchEntry a_placesSeen a_choicePiece a_choicePlace a_choiceNotes post) (h1 : ∀ a w, Q (some (a, w)) → xm_P1 f_tokens f_faultPlace f_length f_pieces f_patternEntry f_hasPattern f_tooLarge f_level f_groups f_atomStart f_atomEntry f_choices f_wayPiece f_wayPlace f_wayNotes f_hasResult f_resultStart f_resultEnd f_resultNotes a_tokenKind a_tokenValue a_text a_pieceKind a_pieceValue a_pieceNext a_pieceSecond a_levelGroup a_levelStart a_levelEntry a_branchStart a_branchEntry a_placesSeen a_choicePiece a_choicePlace a_choiceNotes post x1 a w)
    (hst : xm_Stk a_choicePiece a_choicePlace a_choiceNotes st) (hn : f ≤ n)
    (hadv : ∀ post' : Int32 → SX → Prop, post' 0 (f_tokens, f_faultPlace, f_length, f_pieces, f_patternEntry, f_hasPattern, f_tooLarge, f_level, f_groups, f_atomStart, f_atomEntry, nI st.length, q', l', w', f_hasResult, f_resultStart, f_resultEnd, f_resultNotes, a_tokenKind, a_tokenValue, a_text, a_pieceKind, a_pieceValue, a_pieceNext, a_pieceSecond, a_levelGroup, a_levelStart, a_levelEntry, a_branchStart, a_branchEntry, ps', a_choicePiece, a_choicePlace, a_choiceNotes) → wpX_advance post' (f_tokens, f_faultPlace, f_length, f_pieces, f_patternEntry, f_hasPattern, f_tooLarge, f_level, f_groups, f_atomStart, f_atomEntry, nI st.length, f_wayPiece, f_wayPlace, f_wayNotes, f_hasResult, f_resultStart, f_resultEnd, f_resultNotes, a_tokenKind, a_tokenValue, a_text, a_pieceKind, a_pieceValue, a_pieceNext, a_pieceSecond, a_levelGroup, a_levelStart, a_levelEntry, a_branchStart, a_branchEntry, a_placesSeen, a_choicePiece, a_choicePlace, a_choiceNotes))
    (hag : ∀ p, p < P → ps' p = pt p) (h : xm_WP f_tokens f_faultPlace f_length f_pieces f_patternEntry f_hasPattern f_tooLarge f_level f_groups f_atomStart f_atomEntry f_choices f_wayPiece f_wayPlace f_wayNotes f_hasResult f_resultStart f_resultEnd f_resultNotes a_tokenKind a_tokenValue a_text a_pieceKind a_pieceValue a_pieceNext a_pieceSecond a_levelGroup a_levelStart a_levelEntry a_branchStart a_branchEntry a_placesSeen a_choicePiece a_choicePlace a_choiceNotes P x1 x2 Q f t pt st) :
    wX_matchesFrom_44 post (wX_matchesFrom_7 post x1 x2 n) x1 x2 (nI t) f_tokens f_faultPlace f_length f_pieces f_patternEntry f_hasPattern f_tooLarge f_level f_groups f_atomStart f_atomEntry (nI st.length) f_wayPiece f_wayPlace f_wayNotes f_hasResult f_resultStart f_resultEnd f_resultNotes a_tokenKind a_tokenValue a_text a_pieceKind a_pieceValue a_pieceNext a_pieceSecond a_levelGroup a_levelStart a_levelEntry a_branchStart a_branchEntry a_placesSeen a_choicePiece a_choicePlace a_choiceNotes := by
  refine hadv _ (br_t rfl ?_)
  cases st with
  | nil => exact br_t nI_0 (br_t rfl (h0 h _ _ _ _ _ _ _ _))
  | cons e st =>
    obtain ⟨hl, hw⟩ := h
    obtain ⟨s1, s2, s3, s4⟩ := hst
    have hi : vp_in (nI st.length) 1188 := vp_in_nI hl (by omega)
    have ec : (nI st.length).toNatClampNeg = st.length := nI_clamp (by omega)
    refine br_f (nI_ne0 (n := st.length + 1) (by omega) (by omega)) (nm_r (nI_pred st.length) ⟨hi, nm_r (e' := e.1) (by rw [ec]; exact s1) ⟨hi, nm_r (e' := nI e.2.1) (by rw [ec]; exact s2) ⟨hi, nm_r (e' := e.2.2) (by rw [ec]; exact s3) (br_f (by decide) (nm_r (nI_1 t) ?_))⟩⟩⟩)
    exact hw ps' hag post h0 h1 _ _ _ n s4 hn
end XN
end
section
section XO
variable {f_tokens f_faultPlace f_length f_pieces f_patternEntry f_hasPattern f_tooLarge f_level f_groups f_atomStart f_atomEntry f_choices f_wayPiece f_wayPlace : Int32} {f_wayNotes : Int64} {f_hasResult f_resultStart f_resultEnd : Int32} {f_resultNotes : Int64} {a_tokenKind a_tokenValue a_text a_pieceKind a_pieceValue a_pieceNext a_pieceSecond a_levelGroup a_levelStart a_levelEntry a_branchStart a_branchEntry : Nat → Int32} {a_placesSeen : Nat → Int64} {a_choicePiece a_choicePlace : Nat → Int32} {a_choiceNotes : Nat → Int64}
theorem xm_IF {x1 x2 : Int32} {P len : Nat} (hP : P ≤ 36) (hl : len ≤ 32) : mt_X (fg_q a_pieceKind a_pieceValue a_pieceNext a_pieceSecond) P len (¬ x2 = 0) (xm_ft a_text) xm_nw (xm_W f_tokens f_faultPlace (nI len) f_pieces f_patternEntry f_hasPattern f_tooLarge f_level f_groups f_atomStart f_atomEntry f_choices f_wayPiece f_wayPlace f_wayNotes f_hasResult f_resultStart f_resultEnd f_resultNotes a_tokenKind a_tokenValue a_text a_pieceKind a_pieceValue a_pieceNext a_pieceSecond a_levelGroup a_levelStart a_levelEntry a_branchStart a_branchEntry a_placesSeen a_choicePiece a_choicePlace a_choiceNotes P x1 x2) (xm_WP f_tokens f_faultPlace (nI len) f_pieces f_patternEntry f_hasPattern f_tooLarge f_level f_groups f_atomStart f_atomEntry f_choices f_wayPiece f_wayPlace f_wayNotes f_hasResult f_resultStart f_resultEnd f_resultNotes a_tokenKind a_tokenValue a_text a_pieceKind a_pieceValue a_pieceNext a_pieceSecond a_levelGroup a_levelStart a_levelEntry a_branchStart a_branchEntry a_placesSeen a_choicePiece a_choicePlace a_choiceNotes P x1 x2) := by
  refine ⟨?_, ?_, ?_, ?_, ?_, ?_, ?_, ?_, ?_⟩
  · intro Q f t s st a w ht ha hal hQ s' hs' post h0 h1 cp cl cn n hst hn
    obtain ⟨n, rfl⟩ : ∃ k, n = k + 1 := ⟨n - 1, by omega⟩
    refine br_f (nI_ge (b := 2378) ht (by omega)) (br_t rfl ?_)
    by_cases hx : x2 = 0
    · exact br_t hx (h1 a w hQ _ _ _ _ _ _ _ _)
    · exact br_f hx (br_t (by rw [hal hx]) (h1 a w hQ _ _ _ _ _ _ _ _))
  · intro Q f t s st a w ht ha hall hne hW s' hs' post h0 h1 cp cl cn n hst hn
    obtain ⟨n, rfl⟩ : ∃ k, n = k + 1 := ⟨n - 1, by omega⟩
    have hne' : ¬ nI a = nI len := fun h => hne ((nI_eq (by omega) (by omega)).mp h)
    exact br_f (nI_ge (b := 2378) ht (by omega)) (br_t rfl (br_f hall (br_f hne' (xm_f44 (f_choices := 0) h0 h1 hst (show f ≤ n by omega) (fun post' h => xm_out h) hs' hW))))
  · intro Q f t s st p a w ht ha hp hs hW s' hs' post h0 h1 cp cl cn n hst hn
    rw [← hs' p hp] at hs
    obtain ⟨n, rfl⟩ : ∃ k, n = k + 1 := ⟨n - 1, by omega⟩
    exact br_f (nI_ge (b := 2378) ht (by omega)) (br_f (fg_ne (by omega)) (xm_f44 (f_choices := 0) h0 h1 hst (show f ≤ n by omega) (fun post' h => xm_seen (by omega) (by omega) hs h) hs' hW))
  · intro Q f t s st p a w ht ha hp hs hk hg hW s' hs' post h0 h1 cp cl cn n hst hn
    rw [← hs' p hp] at hs
    obtain ⟨n, rfl⟩ : ∃ k, n = k + 1 := ⟨n - 1, by omega⟩
    refine br_f (nI_ge (b := 2378) ht (by omega)) (br_f (fg_ne (by omega)) ?_)
    rcases hk with hk | hk | hk
    · exact xm_f44 (f_choices := 0) h0 h1 hst (show f ≤ n by omega) (fun post' h => xm_fit0 (by omega) hl ha hs hk (fun h' => hg (Or.inl ⟨hk, h'.1, h'.2⟩)) h) (xm_ag hs') hW
    · exact xm_f44 (f_choices := 0) h0 h1 hst (show f ≤ n by omega) (fun post' h => xm_beg (by omega) hl ha hs hk (fun e => absurd (Or.inr (Or.inl ⟨hk, e⟩)) hg) (fun _ => h)) (xm_ag hs') hW
    · exact xm_f44 (f_choices := 0) h0 h1 hst (show f ≤ n by omega) (fun post' h => xm_end (by omega) hl ha hs hk (fun e => absurd (Or.inr (Or.inr ⟨hk, e⟩)) hg) (fun _ => h)) (xm_ag hs') hW
  · intro Q f t s st p a w ht ha hp hs hk hg hW s' hs' post h0 h1 cp cl cn n hst hn
    rw [← hs' p hp] at hs
    obtain ⟨n, rfl⟩ : ∃ k, n = k + 1 := ⟨n - 1, by omega⟩
    refine br_f (nI_ge (b := 2378) ht (by omega)) (br_f (fg_ne (by omega)) ?_)
    rcases hg with ⟨hk', g1, g2⟩ | ⟨hk', g1⟩ | ⟨hk', g1⟩
    · have e : mt_nx (a_pieceKind p) a = a + 1 := if_pos hk'
      have hW' := hW _ (xm_ag hs') post h0 h1 cp cl cn n hst (by omega)
      have hW2 := (congrArg (fun z => wX_matchesFrom_7 post x1 x2 n (nI (t + 1)) f_tokens f_faultPlace (nI len) f_pieces f_patternEntry f_hasPattern f_tooLarge f_level f_groups f_atomStart f_atomEntry (nI st.length) (a_pieceNext p) (nI z) w f_hasResult f_resultStart f_resultEnd f_resultNotes a_tokenKind a_tokenValue a_text a_pieceKind a_pieceValue a_pieceNext a_pieceSecond a_levelGroup a_levelStart a_levelEntry a_branchStart a_branchEntry (mt_mk s' p a) cp cl cn) e).mp hW'
      exact xm_g44 (fun post' h => xm_fit1 (by omega) hl g1 hs hk' g2 h) hW2
    · have e : mt_nx (a_pieceKind p) a = a := if_neg (by rw [show a_pieceKind p = 1 from hk']; decide)
      have hW' := hW _ (xm_ag hs') post h0 h1 cp cl cn n hst (by omega)
      have hW2 := (congrArg (fun z => wX_matchesFrom_7 post x1 x2 n (nI (t + 1)) f_tokens f_faultPlace (nI len) f_pieces f_patternEntry f_hasPattern f_tooLarge f_level f_groups f_atomStart f_atomEntry (nI st.length) (a_pieceNext p) (nI z) w f_hasResult f_resultStart f_resultEnd f_resultNotes a_tokenKind a_tokenValue a_text a_pieceKind a_pieceValue a_pieceNext a_pieceSecond a_levelGroup a_levelStart a_levelEntry a_branchStart a_branchEntry (mt_mk s' p a) cp cl cn) e).mp hW'
      exact xm_g44 (fun post' h => xm_beg (by omega) hl ha hs hk' (fun _ => h) (fun e' => absurd g1 e')) hW2
    · have e : mt_nx (a_pieceKind p) a = a := if_neg (by rw [show a_pieceKind p = 2 from hk']; decide)
      have hW' := hW _ (xm_ag hs') post h0 h1 cp cl cn n hst (by omega)
      have hW2 := (congrArg (fun z => wX_matchesFrom_7 post x1 x2 n (nI (t + 1)) f_tokens f_faultPlace (nI len) f_pieces f_patternEntry f_hasPattern f_tooLarge f_level f_groups f_atomStart f_atomEntry (nI st.length) (a_pieceNext p) (nI z) w f_hasResult f_resultStart f_resultEnd f_resultNotes a_tokenKind a_tokenValue a_text a_pieceKind a_pieceValue a_pieceNext a_pieceSecond a_levelGroup a_levelStart a_levelEntry a_branchStart a_branchEntry (mt_mk s' p a) cp cl cn) e).mp hW'
      exact xm_g44 (fun post' h => xm_end (by omega) hl ha hs hk' (fun _ => h) (fun e' => absurd g1 e')) hW2
  · intro Q f t s st p a w k ht ha hp hs hk hv hk6 hW s' hs' post h0 h1 cp cl cn n hst hn
    rw [← hs' p hp] at hs
    obtain ⟨n, rfl⟩ : ∃ k, n = k + 1 := ⟨n - 1, by omega⟩
    exact br_f (nI_ge (b := 2378) ht (by omega)) (br_f (fg_ne (by omega)) (xm_g44 (fun post' h => xm_note (by omega) (by omega) hs hk hv h) (hW _ (xm_ag hs') post h0 h1 cp cl cn n hst (by omega))))
  · intro Q f t s st p a w ht ha hp hs hk hc hW s' hs' post h0 h1 cp cl cn n hst hn
    rw [← hs' p hp] at hs
    obtain ⟨n, rfl⟩ : ∃ k, n = k + 1 := ⟨n - 1, by omega⟩
    exact br_f (nI_ge (b := 2378) ht (by omega)) (br_f (fg_ne (by omega)) (xm_g44 (fun post' h => xm_fork (by omega) (by omega) hs hk hc h) (hW _ (xm_ag hs') post h0 h1 _ _ _ n (xm_Stk_p hst) (by omega))))
  · intro Q f t s st q a w _ hc h
    exact ⟨hc, h⟩
  · intro Q f t s hQ
    exact hQ
end XO
end
section
section YM
/-! the reference's search -/
theorem ym_bit {x : Int64} {a : Nat} (h : a < 64) : ((x >>> ((nI a).toInt64 &&& 63)) &&& 1) = 0 ↔ mt_sn x a = false := by
  have e : ((x >>> ((nI a).toInt64 &&& 63)) &&& 1).toBitVec.getLsbD 0 = mt_sn x a := by
    rw [wb_c a h, Int64.toBitVec_and, Int64.toBitVec_shiftRight, BitVec.getLsbD_and]
    show ((x.toBitVec.sshiftRight ((BitVec.ofNat 64 a).smod 64).toNat).getLsbD 0 && _) = _
    rw [wb_sm a h, BitVec.toNat_ofNat, Nat.mod_eq_of_lt (show a < 2 ^ 64 by omega), BitVec.getLsbD_sshiftRight]
    simp [mt_sn, h]
  constructor
  · intro h0
    rw [← e, h0]; rfl
  · intro h0
    rw [h0] at e
    apply Int64.toBitVec_inj.mp
    apply BitVec.eq_of_getLsbD_eq
    intro i hi
    by_cases hz : i = 0
    · rw [hz, e]; rfl
    · have h1 : (1 : Int64).toBitVec = 1#64 := rfl
      have h2 : (0 : Int64).toBitVec = 0#64 := rfl
      rw [Int64.toBitVec_and, BitVec.getLsbD_and, h1, h2]
      simp [hz]
theorem ym_b1 : ∀ a, a < 128 → (nI a).toInt8.toInt32.toInt8.toInt32 = nI a := by decide +kernel
theorem ym_nb {a : Nat} (h : a < 128) : vp_nar .byte (nI a).toInt8.toInt32 = nI a := by rw [vp_nar_byte]; exact ym_b1 a h
theorem ym_b2 : ∀ a, a < 64 → (nI a - 1).toInt8.toInt32.toInt8.toInt32 = nI a - 1 := by decide +kernel
theorem ym_nm {a : Nat} (h : a < 64) : vp_nar .byte (nI a - 1).toInt8.toInt32 = nI a - 1 := by rw [vp_nar_byte]; exact ym_b2 a h
theorem ym_or (a b : Nat) : nI a ||| nI b = nI (a ||| b) := by
  apply Int32.toBitVec_inj.1
  show BitVec.ofNat 32 a ||| BitVec.ofNat 32 b = BitVec.ofNat 32 (a ||| b)
  apply BitVec.eq_of_getLsbD_eq
  intro i hi
  simp [Nat.testBit_or, hi]
theorem ym_t1 {t a : Nat} (ht : t ≤ 160) (ha : a < 64) : (nI t <<< ((6 : Int32) &&& 31)) ||| nI a = nI (64 * t + a) := by
  rw [pk_shlN _ 6 (by decide) (by omega), ym_or]
  congr 1
  rw [Nat.mul_comm t, ← Nat.two_pow_add_eq_or_of_lt (i := 6) ha]
theorem ym_t2 {t a : Nat} (ht : t ≤ 160) (ha : a < 64) : nI (64 * t + a) >>> ((6 : Int32) &&& 31) = nI t := by
  rw [pk_shrN (by omega) _ 6 (by decide)]
  congr 1
  omega
theorem ym_t3 {t a : Nat} (ht : t ≤ 160) (ha : a < 64) : nI (64 * t + a) &&& 63 = nI a := by
  rw [pk_andN (by omega) 6 (by decide)]
  congr 1
  omega
theorem ym_u1 : ∀ o, o < 34 → ∀ k, k < 6 → (((nI o - 1) + 2) <<< ((3 : Int32) &&& 31)) ||| nI (k + 2) = nI (8 * (o + 1) + (k + 2)) := by decide +kernel
theorem ym_u2 : ∀ o, o < 34 → ∀ k, k < 6 → ¬ (0 : Int32) ≤ -(nI (8 * (o + 1) + (k + 2))) := by decide +kernel
theorem ym_u3 : ∀ o, o < 34 → ∀ k, k < 6 → (-(-(nI (8 * (o + 1) + (k + 2))))) &&& 7 = nI (k + 2) := by decide +kernel
theorem ym_u4 : ∀ o, o < 34 → ∀ k, k < 6 → ((-(-(nI (8 * (o + 1) + (k + 2))))) >>> ((3 : Int32) &&& 31)) - 2 = nI o - 1 := by decide +kernel
theorem ym_c {f : Nat → Int32} {i : Nat} {k : Int32} (hi : i < 160) (h : f i = k) : f (nI i).toNatClampNeg = k := by rw [nI_clamp (by omega)]; exact h
theorem ym_n {f : Nat → Int32} {i : Nat} {k k' : Int32} (hi : i < 160) (h : f i = k) (hne : ¬ k = k') : ¬ f (nI i).toNatClampNeg = k' := by rw [ym_c hi h]; exact hne
theorem ym_b0 {s : Nat → Int64} {p a : Nat} (hp : p < 160) (ha : a < 33) (hs : mt_sn (s p) a = false) : (((s (nI p).toNatClampNeg) >>> ((nI a).toInt64 &&& 63)) &&& 1) = 0 := by
  rw [nI_clamp (by omega), ym_bit (by omega)]; exact hs
theorem ym_bn {s : Nat → Int64} {p a : Nat} (hp : p < 160) (ha : a < 33) (hs : mt_sn (s p) a = true) : ¬ (((s (nI p).toNatClampNeg) >>> ((nI a).toInt64 &&& 63)) &&& 1) = 0 := by
  rw [nI_clamp (by omega), ym_bit (by omega), hs]; decide
def ym_e (e : mt_E) : Int32 := if e.1 = true then -(nI (8 * (e.2.2 + 1) + (e.2.1 + 2))) else nI (64 * e.2.1 + e.2.2)
def ym_T (todo : Nat → Int32) : List mt_E → Prop
  | [] => True
  | e :: st => todo st.length = ym_e e ∧ ym_T todo st
theorem ym_T_f {todo todo' : Nat → Int32} : ∀ st : List mt_E, (∀ j, j < st.length → todo' j = todo j) → ym_T todo st → ym_T todo' st
  | [], _, _ => trivial
  | e :: st, h, H => ⟨(h st.length (by simp)).trans H.1, ym_T_f st (fun j hj => h j (by simp only [List.length_cons]; omega)) H.2⟩
theorem ym_T_p {todo : Nat → Int32} {st : List mt_E} {e : mt_E} {x : Int32} (hx : x = ym_e e) (h : ym_T todo st) : ym_T (upd todo st.length x) (e :: st) :=
  ⟨(if_pos rfl).trans hx, ym_T_f st (fun _ hj => if_neg (Nat.ne_of_lt hj)) h⟩
def ym_P0 (g_count g_place g_end g_size g_large g_ready g_depth g_groups g_atom g_atomSize g_length g_found : Int32) (b_kind b_value b_op b_with b_one b_two b_copyOp b_copyWith b_copyOne b_copyTwo b_opened b_branch b_sizes b_jumps b_groupOf b_text : Nat → Int32) (b_met : Nat → Int64) (b_todo b_notes : Nat → Int32) (post : Int32 → SY → Prop) : Prop := ∀ (met : Nat → Int64) (todo no : Nat → Int32), post 0 (g_count, g_place, g_end, g_size, g_large, g_ready, g_depth, g_groups, g_atom, g_atomSize, g_length, g_found, b_kind, b_value, b_op, b_with, b_one, b_two, b_copyOp, b_copyWith, b_copyOne, b_copyTwo, b_opened, b_branch, b_sizes, b_jumps, b_groupOf, b_text, met, todo, no)
def ym_P1 (g_count g_place g_end g_size g_large g_ready g_depth g_groups g_atom g_atomSize g_length g_found : Int32) (b_kind b_value b_op b_with b_one b_two b_copyOp b_copyWith b_copyOne b_copyTwo b_opened b_branch b_sizes b_jumps b_groupOf b_text : Nat → Int32) (b_met : Nat → Int64) (b_todo b_notes : Nat → Int32) (post : Int32 → SY → Prop) (a : Nat) (no : Nat → Int32) : Prop := ∀ (met : Nat → Int64) (todo no' : Nat → Int32), (∀ j, j < 8 → no' j = no j) → post 1 (g_count, g_place, g_end, g_size, g_large, g_ready, g_depth, g_groups, g_atom, g_atomSize, g_length, g_found, b_kind, b_value, b_op, b_with, b_one, b_two, b_copyOp, b_copyWith, b_copyOne, b_copyTwo, b_opened, b_branch, b_sizes, b_jumps, b_groupOf, b_text, met, todo, upd no' 1 (nI a))
theorem ym_ag {s s' : Nat → Int64} {E q a : Nat} (h : ∀ p, p ≤ E → s' p = s p) : ∀ p, p ≤ E → mt_mk s' q a p = mt_mk s q a p := by
  intro p hp
  by_cases e : p = q
  · subst e
    show (if p = p then s' p ||| lN (2 ^ a) else s' p) = (if p = p then s p ||| lN (2 ^ a) else s p)
    rw [h p hp]
  · rw [mt_mk_n e, mt_mk_n e, h p hp]
theorem ym_au {f g : Nat → Int32} {k : Nat} {x : Int32} (h : ∀ j, j < 8 → f j = g j) : ∀ j, j < 8 → upd f k x j = upd g k x j := by
  intro j hj
  unfold upd
  rw [h j hj]
def ym_WO (g_count g_place g_end g_size g_large g_ready g_depth g_groups g_atom g_atomSize g_length g_found : Int32) (b_kind b_value b_op b_with b_one b_two b_copyOp b_copyWith b_copyOne b_copyTwo b_opened b_branch b_sizes b_jumps b_groupOf b_text : Nat → Int32) (b_met : Nat → Int64) (b_todo b_notes : Nat → Int32) (E : Nat) (x2 : Int32) (Q : Option (Nat × (Nat → Int32)) → Prop) (f : Nat) (met : Nat → Int64) (YL : List mt_E) (no : Nat → Int32) : Prop :=
  ∀ (met' : Nat → Int64) (no' : Nat → Int32), (∀ j, j ≤ E → met' j = met j) → (∀ j, j < 8 → no' j = no j) → ∀ (post : Int32 → SY → Prop), (Q none → ym_P0 g_count g_place g_end g_size g_large g_ready g_depth g_groups g_atom g_atomSize g_length g_found b_kind b_value b_op b_with b_one b_two b_copyOp b_copyWith b_copyOne b_copyTwo b_opened b_branch b_sizes b_jumps b_groupOf b_text b_met b_todo b_notes post) → (∀ a no, Q (some (a, no)) → ym_P1 g_count g_place g_end g_size g_large g_ready g_depth g_groups g_atom g_atomSize g_length g_found b_kind b_value b_op b_with b_one b_two b_copyOp b_copyWith b_copyOne b_copyTwo b_opened b_branch b_sizes b_jumps b_groupOf b_text b_met b_todo b_notes post a no) → ∀ (todo : Nat → Int32) (N : Nat), ym_T todo YL → f ≤ N →
    wY_search_64 post x2 g_count g_place g_end g_size g_large g_ready g_depth g_groups g_atom g_atomSize g_length g_found N (nI YL.length) b_kind b_value b_op b_with b_one b_two b_copyOp b_copyWith b_copyOne b_copyTwo b_opened b_branch b_sizes b_jumps b_groupOf b_text met' todo no'
def ym_WI (g_count g_place g_end g_size g_large g_ready g_depth g_groups g_atom g_atomSize g_length g_found : Int32) (b_kind b_value b_op b_with b_one b_two b_copyOp b_copyWith b_copyOne b_copyTwo b_opened b_branch b_sizes b_jumps b_groupOf b_text : Nat → Int32) (b_met : Nat → Int64) (b_todo b_notes : Nat → Int32) (E : Nat) (x2 : Int32) (Q : Option (Nat × (Nat → Int32)) → Prop) (f : Nat) (met : Nat → Int64) (YL : List mt_E) (no : Nat → Int32) (i a : Nat) : Prop :=
  ∀ (met' : Nat → Int64) (no' : Nat → Int32), (∀ j, j ≤ E → met' j = met j) → (∀ j, j < 8 → no' j = no j) → ∀ (post : Int32 → SY → Prop), (Q none → ym_P0 g_count g_place g_end g_size g_large g_ready g_depth g_groups g_atom g_atomSize g_length g_found b_kind b_value b_op b_with b_one b_two b_copyOp b_copyWith b_copyOne b_copyTwo b_opened b_branch b_sizes b_jumps b_groupOf b_text b_met b_todo b_notes post) → (∀ a no, Q (some (a, no)) → ym_P1 g_count g_place g_end g_size g_large g_ready g_depth g_groups g_atom g_atomSize g_length g_found b_kind b_value b_op b_with b_one b_two b_copyOp b_copyWith b_copyOne b_copyTwo b_opened b_branch b_sizes b_jumps b_groupOf b_text b_met b_todo b_notes post a no) → ∀ (todo : Nat → Int32) (n N : Nat), ym_T todo YL → f + 2 ≤ n → f ≤ N →
    wY_search_120 post (wY_search_64 post x2 g_count g_place g_end g_size g_large g_ready g_depth g_groups g_atom g_atomSize g_length g_found N) x2 g_count g_place g_end g_size g_large g_ready g_depth g_groups g_atom g_atomSize g_length g_found n (nI YL.length) (nI i) (nI a) b_kind b_value b_op b_with b_one b_two b_copyOp b_copyWith b_copyOne b_copyTwo b_opened b_branch b_sizes b_jumps b_groupOf b_text met' todo no'
variable {g_count g_place g_end g_size g_large g_ready g_depth g_groups g_atom g_atomSize g_length g_found : Int32} {b_kind b_value b_op b_with b_one b_two b_copyOp b_copyWith b_copyOne b_copyTwo b_opened b_branch b_sizes b_jumps b_groupOf b_text : Nat → Int32} {b_met : Nat → Int64} {b_todo b_notes : Nat → Int32}
theorem ym_fail {post : Int32 → SY → Prop} {x2 x6 : Int32} {Q : Option (Nat × (Nat → Int32)) → Prop} {f n N E : Nat} {met met' : Nat → Int64} {YL : List mt_E} {no no' todo : Nat → Int32} (hm : ∀ j, j ≤ E → met' j = met j) (ho : ∀ j, j < 8 → no' j = no j) (h0 : Q none → ym_P0 g_count g_place g_end g_size g_large g_ready g_depth g_groups g_atom g_atomSize g_length g_found b_kind b_value b_op b_with b_one b_two b_copyOp b_copyWith b_copyOne b_copyTwo b_opened b_branch b_sizes b_jumps b_groupOf b_text b_met b_todo b_notes post) (h1 : ∀ a no, Q (some (a, no)) → ym_P1 g_count g_place g_end g_size g_large g_ready g_depth g_groups g_atom g_atomSize g_length g_found b_kind b_value b_op b_with b_one b_two b_copyOp b_copyWith b_copyOne b_copyTwo b_opened b_branch b_sizes b_jumps b_groupOf b_text b_met b_todo b_notes post a no) (hT : ym_T todo YL) (hn : 1 ≤ n) (hN : f ≤ N)
    (h : ym_WO g_count g_place g_end g_size g_large g_ready g_depth g_groups g_atom g_atomSize g_length g_found b_kind b_value b_op b_with b_one b_two b_copyOp b_copyWith b_copyOne b_copyTwo b_opened b_branch b_sizes b_jumps b_groupOf b_text b_met b_todo b_notes E x2 Q f met YL no) : wY_search_120 post (wY_search_64 post x2 g_count g_place g_end g_size g_large g_ready g_depth g_groups g_atom g_atomSize g_length g_found N) x2 g_count g_place g_end g_size g_large g_ready g_depth g_groups g_atom g_atomSize g_length g_found n (nI YL.length) (-1) x6 b_kind b_value b_op b_with b_one b_two b_copyOp b_copyWith b_copyOne b_copyTwo b_opened b_branch b_sizes b_jumps b_groupOf b_text met' todo no' := by
  obtain ⟨n, rfl⟩ : ∃ k, n = k + 1 := ⟨n - 1, by omega⟩
  exact br_t (by decide) (h met' no' hm ho post h0 h1 todo N hT hN)
/-- behind a mark: a single instruction goes on, or not -/
theorem ym_goon {post : Int32 → SY → Prop} {J64 : Int32 → (Nat → Int32) → (Nat → Int32) → (Nat → Int32) → (Nat → Int32) → (Nat → Int32) → (Nat → Int32) → (Nat → Int32) → (Nat → Int32) → (Nat → Int32) → (Nat → Int32) → (Nat → Int32) → (Nat → Int32) → (Nat → Int32) → (Nat → Int32) → (Nat → Int32) → (Nat → Int32) → (Nat → Int64) → (Nat → Int32) → (Nat → Int32) → Prop}
    {J120 : Int32 → Int32 → Int32 → (Nat → Int32) → (Nat → Int32) → (Nat → Int32) → (Nat → Int32) → (Nat → Int32) → (Nat → Int32) → (Nat → Int32) → (Nat → Int32) → (Nat → Int32) → (Nat → Int32) → (Nat → Int32) → (Nat → Int32) → (Nat → Int32) → (Nat → Int32) → (Nat → Int32) → (Nat → Int32) → (Nat → Int64) → (Nat → Int32) → (Nat → Int32) → Prop}
    {x2 x3 : Int32} {i t a : Nat} {k : Int32} (hi : i < 160) (hk : b_op i = k) (h0 : ¬ k = 0) (h1 : ¬ k = 1) (h2 : ¬ k = 2) (ht : nI i + b_one i = nI t)
    (h : J120 x3 (nI t) (nI a) b_kind b_value b_op b_with b_one b_two b_copyOp b_copyWith b_copyOne b_copyTwo b_opened b_branch b_sizes b_jumps b_groupOf b_text b_met b_todo b_notes) : wY_search_326 post J64 J120 x2 x3 (nI i) (nI a) g_count g_place g_end g_size g_large g_ready g_depth g_groups g_atom g_atomSize g_length g_found b_kind b_value b_op b_with b_one b_two b_copyOp b_copyWith b_copyOne b_copyTwo b_opened b_branch b_sizes b_jumps b_groupOf b_text b_met b_todo b_notes := by
  have hv : vp_in (nI i) 160 := vp_in_nI hi (by omega)
  exact ⟨hv, br_f (ym_n hi hk h0) ⟨hv, br_f (ym_n hi hk h1) ⟨hv, br_f (ym_n hi hk h2) ⟨hv, br_f (ym_n hi hk h0) (br_f (by decide) ⟨hv, nm_r (by rw [ym_c (f := b_one) hi rfl]; exact ht) h⟩)⟩⟩⟩⟩
theorem ym_single {post : Int32 → SY → Prop} {J64 : Int32 → (Nat → Int32) → (Nat → Int32) → (Nat → Int32) → (Nat → Int32) → (Nat → Int32) → (Nat → Int32) → (Nat → Int32) → (Nat → Int32) → (Nat → Int32) → (Nat → Int32) → (Nat → Int32) → (Nat → Int32) → (Nat → Int32) → (Nat → Int32) → (Nat → Int32) → (Nat → Int32) → (Nat → Int64) → (Nat → Int32) → (Nat → Int32) → Prop}
    {J120 : Int32 → Int32 → Int32 → (Nat → Int32) → (Nat → Int32) → (Nat → Int32) → (Nat → Int32) → (Nat → Int32) → (Nat → Int32) → (Nat → Int32) → (Nat → Int32) → (Nat → Int32) → (Nat → Int32) → (Nat → Int32) → (Nat → Int32) → (Nat → Int32) → (Nat → Int32) → (Nat → Int32) → (Nat → Int32) → (Nat → Int64) → (Nat → Int32) → (Nat → Int32) → Prop}
    {x2 x3 : Int32} {i a n : Nat} (hi : i < 159) (hn : n ≤ 32) (ha : a ≤ n) (hk : b_op i = 0 ∨ b_op i = 1 ∨ b_op i = 2)
    (hg : mt_go n (xm_ft b_text) (b_op i) (b_with i) a → b_one i = 1 ∧ J120 x3 (nI (i + 1)) (nI (mt_nx (b_op i) a)) b_kind b_value b_op b_with b_one b_two b_copyOp b_copyWith b_copyOne b_copyTwo b_opened b_branch b_sizes b_jumps b_groupOf b_text b_met b_todo b_notes) (hf : ¬ mt_go n (xm_ft b_text) (b_op i) (b_with i) a → ∀ y : Int32, y = nI a → J120 x3 (-1) y b_kind b_value b_op b_with b_one b_two b_copyOp b_copyWith b_copyOne b_copyTwo b_opened b_branch b_sizes b_jumps b_groupOf b_text b_met b_todo b_notes) : wY_search_266 post J64 J120 x2 x3 (nI i) (nI a) g_count g_place g_end g_size g_large g_ready g_depth g_groups g_atom g_atomSize (nI n) g_found b_kind b_value b_op b_with b_one b_two b_copyOp b_copyWith b_copyOne b_copyTwo b_opened b_branch b_sizes b_jumps b_groupOf b_text b_met b_todo b_notes := by
  have hv : vp_in (nI i) 160 := vp_in_nI (by omega) (by omega)
  have h160 : i < 160 := by omega
  have ho : b_one i = 1 → nI i + b_one (nI i).toNatClampNeg = nI (i + 1) := fun h => by rw [ym_c h160 h, nI_1]
  rcases hk with hk | hk | hk
  · refine ⟨hv, br_f (ym_n h160 hk (by decide)) ⟨hv, br_t (ym_c h160 hk) ⟨hv, br_f (ym_n h160 hk (by decide)) ⟨hv, br_f (ym_n h160 hk (by decide)) ⟨hv, br_t (ym_c h160 hk) ?_⟩⟩⟩⟩⟩
    by_cases e : a < n
    · refine br_f (nI_ge e (by omega)) ⟨hv, vp_in_nI (by omega) (by omega), ?_⟩
      rw [ym_c (f := b_with) h160 rfl, nI_clamp (n := a) (by omega)]
      by_cases e2 : xm_ft b_text (b_with i) a
      · obtain ⟨g1, g2⟩ := hg (Or.inl ⟨hk, e, e2⟩)
        rw [hk, show mt_nx 0 a = a + 1 from rfl] at g2
        exact br_f e2 (nm_r (nI_1 a) (br_f (by decide) ⟨hv, nm_r (ho g1) g2⟩))
      · refine br_t (Classical.byContradiction (fun h => e2 h)) (br_t rfl (hf ?_ _ rfl))
        rw [hk]
        intro h
        rcases h with ⟨_, _, h⟩ | ⟨h, _⟩ | ⟨h, _⟩
        · exact e2 h
        · exact absurd h (by decide)
        · exact absurd h (by decide)
    · refine br_t (nI_le (by omega) (by omega)) (br_t rfl (hf ?_ _ rfl))
      rw [hk]
      intro h
      rcases h with ⟨_, h, _⟩ | ⟨h, _⟩ | ⟨h, _⟩
      · exact e h
      · exact absurd h (by decide)
      · exact absurd h (by decide)
  · refine ⟨hv, br_f (ym_n h160 hk (by decide)) ⟨hv, br_f (ym_n h160 hk (by decide)) ⟨hv, br_t (ym_c h160 hk) ⟨hv, br_t (ym_c h160 hk) (pk_eq a 0 (fun e => ?_) (fun e => ?_))⟩⟩⟩⟩
    · obtain ⟨g1, g2⟩ := hg (Or.inr (Or.inl ⟨hk, e⟩))
      rw [hk, show mt_nx 1 a = a from rfl] at g2
      exact ⟨hv, br_f (ym_n h160 hk (by decide)) (br_f (by decide) ⟨hv, nm_r (ho g1) g2⟩)⟩
    · refine ⟨hv, br_f (ym_n h160 hk (by decide)) ⟨hv, br_f (ym_n h160 hk (by decide)) (br_t rfl (hf ?_ _ rfl))⟩⟩
      rw [hk]
      intro h
      rcases h with ⟨h, _⟩ | ⟨_, h⟩ | ⟨h, _⟩
      · exact absurd h (by decide)
      · exact e h
      · exact absurd h (by decide)
  · refine ⟨hv, br_f (ym_n h160 hk (by decide)) ⟨hv, br_f (ym_n h160 hk (by decide)) ⟨hv, br_f (ym_n h160 hk (by decide)) ⟨hv, br_t (ym_c h160 hk) ⟨hv, br_f (ym_n h160 hk (by decide)) ⟨hv, br_t (ym_c h160 hk) (pk_eq a n (fun e => ?_) (fun e => ?_))⟩⟩⟩⟩⟩⟩
    · obtain ⟨g1, g2⟩ := hg (Or.inr (Or.inr ⟨hk, e⟩))
      rw [hk, show mt_nx 2 a = a from rfl] at g2
      exact ⟨hv, br_f (ym_n h160 hk (by decide)) (br_f (by decide) ⟨hv, nm_r (ho g1) g2⟩)⟩
    · refine ⟨hv, br_f (ym_n h160 hk (by decide)) (br_t rfl (hf ?_ _ rfl))⟩
      rw [hk]
      intro h
      rcases h with ⟨h, _⟩ | ⟨h, _⟩ | ⟨_, h⟩
      · exact absurd h (by decide)
      · exact absurd h (by decide)
      · exact e h
end YM
end
section
section YN
variable {g_count g_place g_end g_size g_large g_ready g_depth g_groups g_atom g_atomSize g_length g_found : Int32} {b_kind b_value b_op b_with b_one b_two b_copyOp b_copyWith b_copyOne b_copyTwo b_opened b_branch b_sizes b_jumps b_groupOf b_text : Nat → Int32} {b_met : Nat → Int64} {b_todo b_notes : Nat → Int32}
theorem ym_IF {x2 : Int32} {E len : Nat} (hE : E < 159) (hl : len ≤ 32) (h6 : b_op E = 6) : mt_Y (fg_q b_op b_with b_one b_two) E len (¬ x2 = 0) (xm_ft b_text) (ym_WI g_count g_place g_end g_size g_large g_ready g_depth g_groups g_atom g_atomSize (nI len) g_found b_kind b_value b_op b_with b_one b_two b_copyOp b_copyWith b_copyOne b_copyTwo b_opened b_branch b_sizes b_jumps b_groupOf b_text b_met b_todo b_notes E x2) (ym_WO g_count g_place g_end g_size g_large g_ready g_depth g_groups g_atom g_atomSize (nI len) g_found b_kind b_value b_op b_with b_one b_two b_copyOp b_copyWith b_copyOne b_copyTwo b_opened b_branch b_sizes b_jumps b_groupOf b_text b_met b_todo b_notes E x2) := by
  refine ⟨?_, ?_, ?_, ?_, ?_, ?_, ?_, ?_, ?_, ?_, ?_⟩
  · intro Q f met YL no i a t hi ht ha h4 hon hW met' no' hm hq post h0 h1 todo n N hT hn hN
    obtain ⟨n, rfl⟩ : ∃ k, n = k + 1 := ⟨n - 1, by omega⟩
    have hv : vp_in (nI i) 160 := vp_in_nI (by omega) (by omega)
    exact br_f (nI_pos (by omega)) ⟨hv, br_f (ym_n (by omega) h4 (by decide)) ⟨hv, br_t (ym_c (by omega) h4) ⟨hv, nm_r (by rw [ym_c (f := b_one) (by omega) rfl]; exact hon) (hW _ _ hm hq post h0 h1 todo n N hT (by omega) (by omega))⟩⟩⟩
  · intro Q f met YL no a ha hal hQ met' no' hm hq post h0 h1 todo n N hT hn hN
    obtain ⟨n, rfl⟩ : ∃ k, n = k + 1 := ⟨n - 1, by omega⟩
    have hv : vp_in (nI E) 160 := vp_in_nI (by omega) (by omega)
    have hr := h1 a no hQ met' todo no' hq
    refine br_f (nI_pos (by omega)) ⟨hv, br_t (ym_c (by omega) h6) ?_⟩
    by_cases hx : x2 = 0
    · exact br_t hx (nm_r (by rw [ym_nb (by omega)]) hr)
    · exact br_f hx (br_t (by rw [hal hx]) (nm_r (by rw [ym_nb (by omega)]) hr))
  · intro Q f met YL no a ha hall hne hW met' no' hm hq post h0 h1 todo n N hT hn hN
    obtain ⟨n, rfl⟩ : ∃ k, n = k + 1 := ⟨n - 1, by omega⟩
    have hv : vp_in (nI E) 160 := vp_in_nI (by omega) (by omega)
    have hne' : ¬ nI a = nI len := fun h => hne ((nI_eq (by omega) (by omega)).mp h)
    exact br_f (nI_pos (by omega)) ⟨hv, br_t (ym_c (by omega) h6) (br_f hall (br_f hne' (ym_fail hm hq h0 h1 hT (by omega) (by omega) hW)))⟩
  · intro Q f met YL no i a hi ha n4 n6 hs hW met' no' hm hq post h0 h1 todo n N hT hn hN
    rw [← hm i (by omega)] at hs
    obtain ⟨n, rfl⟩ : ∃ k, n = k + 1 := ⟨n - 1, by omega⟩
    have hv : vp_in (nI i) 160 := vp_in_nI (by omega) (by omega)
    exact br_f (nI_pos (by omega)) ⟨hv, br_f (ym_n (by omega) rfl n6) ⟨hv, br_f (ym_n (by omega) rfl n4) ⟨hv, br_f (ym_bn (by omega) (by omega) hs) (ym_fail hm hq h0 h1 hT (by omega) (by omega) hW)⟩⟩⟩
  · intro Q f met YL no i a hi ha hk hs hg hW met' no' hm hq post h0 h1 todo n N hT hn hN
    rw [← hm i (by omega)] at hs
    obtain ⟨n, rfl⟩ : ∃ k, n = k + 1 := ⟨n - 1, by omega⟩
    have hv : vp_in (nI i) 160 := vp_in_nI (by omega) (by omega)
    have hk' : b_op i = 0 ∨ b_op i = 1 ∨ b_op i = 2 := hk
    have n6 : ¬ b_op i = 6 := by rcases hk' with h | h | h <;> rw [h] <;> decide
    have n4 : ¬ b_op i = 4 := by rcases hk' with h | h | h <;> rw [h] <;> decide
    have n3 : ¬ b_op i = 3 := by rcases hk' with h | h | h <;> rw [h] <;> decide
    refine br_f (nI_pos (by omega)) ⟨hv, br_f (ym_n (by omega) rfl n6) ⟨hv, br_f (ym_n (by omega) rfl n4) ⟨hv, br_t (ym_b0 (by omega) (by omega) hs) ⟨hv, hv, nm_r (xm_mke (by omega) (by omega)) ⟨hv, br_f (ym_n (by omega) rfl n3) ?_⟩⟩⟩⟩⟩
    exact ym_single (by omega) hl ha hk' (fun h => absurd h hg) (fun _ y _ => ym_fail (ym_ag hm) hq h0 h1 hT (by omega) (by omega) hW)
  · intro Q f met YL no i a hi ha hk hs hg ho hW met' no' hm hq post h0 h1 todo n N hT hn hN
    rw [← hm i (by omega)] at hs
    obtain ⟨n, rfl⟩ : ∃ k, n = k + 1 := ⟨n - 1, by omega⟩
    have hv : vp_in (nI i) 160 := vp_in_nI (by omega) (by omega)
    have hk' : b_op i = 0 ∨ b_op i = 1 ∨ b_op i = 2 := hk
    have n6 : ¬ b_op i = 6 := by rcases hk' with h | h | h <;> rw [h] <;> decide
    have n4 : ¬ b_op i = 4 := by rcases hk' with h | h | h <;> rw [h] <;> decide
    have n3 : ¬ b_op i = 3 := by rcases hk' with h | h | h <;> rw [h] <;> decide
    refine br_f (nI_pos (by omega)) ⟨hv, br_f (ym_n (by omega) rfl n6) ⟨hv, br_f (ym_n (by omega) rfl n4) ⟨hv, br_t (ym_b0 (by omega) (by omega) hs) ⟨hv, hv, nm_r (xm_mke (by omega) (by omega)) ⟨hv, br_f (ym_n (by omega) rfl n3) ?_⟩⟩⟩⟩⟩
    exact ym_single (by omega) hl ha hk' (fun _ => ⟨ho, hW _ _ (ym_ag hm) hq post h0 h1 todo n N hT (by omega) (by omega)⟩) (fun h => absurd hg h)
  · intro Q f met YL no i a k o hi ha h5 hw hk6 hs ho hno ho33 hlen hW met' no' hm hq post h0 h1 todo n N hT hn hN
    rw [← hm i (by omega)] at hs
    obtain ⟨n, rfl⟩ : ∃ k, n = k + 1 := ⟨n - 1, by omega⟩
    have hv : vp_in (nI i) 160 := vp_in_nI (by omega) (by omega)
    have h5' : b_op i = 5 := h5
    have hw' : b_with i = nI (k + 2) := hw
    have ho' : b_one i = 1 := ho
    have h8 : vp_in (nI (k + 2)) 8 := vp_in_nI (by omega) (by omega)
    refine br_f (nI_pos (by omega)) ⟨hv, br_f (ym_n (by omega) h5' (by decide)) ⟨hv, br_f (ym_n (by omega) h5' (by decide)) ⟨hv, br_t (ym_b0 (by omega) (by omega) hs) ⟨hv, hv, nm_r (xm_mke (by omega) (by omega)) ⟨hv, br_f (ym_n (by omega) h5' (by decide)) ⟨hv, br_t (ym_c (by omega) h5') ?_⟩⟩⟩⟩⟩⟩
    rw [ym_c (f := b_with) (by omega) hw', nI_clamp (n := k + 2) (by omega), hq (k + 2) (by omega), hno]
    refine nm_r (nI_1 YL.length) ⟨hv, h8, hv, vp_in_nI (by omega) (by omega), nm_r (e' := upd todo YL.length (ym_e (true, k, o))) ?_ ⟨hv, h8, nm_r (e' := upd no' (k + 2) (nI a)) ?_ ?_⟩⟩
    · rw [nI_clamp (n := YL.length) (by omega), ym_u1 o (by omega) k hk6]; rfl
    · rw [ym_nb (by omega)]
    · exact ym_goon (by omega) h5' (by decide) (by decide) (by decide) (by rw [ho', nI_1]) (hW _ _ (ym_ag hm) (ym_au hq) post h0 h1 _ n N (ym_T_p rfl hT) (by omega) (by omega))
  · intro Q f met YL no i a t1 t2 hi ha h3 hs ht1 hon ht2 htw hlen hW met' no' hm hq post h0 h1 todo n N hT hn hN
    rw [← hm i (by omega)] at hs
    obtain ⟨n, rfl⟩ : ∃ k, n = k + 1 := ⟨n - 1, by omega⟩
    have hv : vp_in (nI i) 160 := vp_in_nI (by omega) (by omega)
    have h3' : b_op i = 3 := h3
    have htw' : nI i + b_two i = nI t2 := htw
    refine br_f (nI_pos (by omega)) ⟨hv, br_f (ym_n (by omega) h3' (by decide)) ⟨hv, br_f (ym_n (by omega) h3' (by decide)) ⟨hv, br_t (ym_b0 (by omega) (by omega) hs) ⟨hv, hv, nm_r (xm_mke (by omega) (by omega)) ⟨hv, br_t (ym_c (by omega) h3') (nm_r (nI_1 YL.length) ⟨hv, vp_in_nI (by omega) (by omega), nm_r (e' := upd todo YL.length (ym_e (false, t2, a))) ?_ ⟨hv, br_f (ym_n (by omega) h3' (by decide)) ?_⟩⟩)⟩⟩⟩⟩⟩
    · rw [nI_clamp (n := YL.length) (by omega), ym_c (f := b_two) (by omega) rfl, htw', ym_t1 (by omega) (by omega)]; rfl
    · exact ym_goon (by omega) h3' (by decide) (by decide) (by decide) hon (hW _ _ (ym_ag hm) hq post h0 h1 _ n N (ym_T_p rfl hT) (by omega) (by omega))
  · intro Q f met YL no k o hk6 ho33 hlen hW met' no' hm hq post h0 h1 todo N hT hN
    obtain ⟨N, rfl⟩ : ∃ k, N = k + 1 := ⟨N - 1, by omega⟩
    obtain ⟨hT1, hT2⟩ := hT
    refine br_f (nI_nle (n := YL.length + 1) (by omega) (by omega)) (nm_r (pk_m1 YL.length) ⟨vp_in_nI (by omega) (by omega), nm_r (e' := -(nI (8 * (o + 1) + (k + 2)))) ?_ (br_f (ym_u2 o (by omega) k hk6) ?_)⟩)
    · rw [nI_clamp (by omega), hT1]; rfl
    · rw [ym_u3 o (by omega) k hk6, ym_u4 o (by omega) k hk6, ym_nm (by omega), nI_clamp (n := k + 2) (by omega)]
      exact ⟨vp_in_nI (by omega) (by omega), nm_e (hW _ _ hm (ym_au hq) post h0 h1 todo N hT2 (by omega))⟩
  · intro Q f met YL no i a hi ha hlen hW met' no' hm hq post h0 h1 todo N hT hN
    obtain ⟨N, rfl⟩ : ∃ k, N = k + 1 := ⟨N - 1, by omega⟩
    obtain ⟨hT1, hT2⟩ := hT
    refine br_f (nI_nle (n := YL.length + 1) (by omega) (by omega)) (nm_r (pk_m1 YL.length) ⟨vp_in_nI (by omega) (by omega), nm_r (e' := nI (64 * i + a)) ?_ (br_t (nI_pos' (by omega)) ?_)⟩)
    · rw [nI_clamp (by omega), hT1]; rfl
    · exact nm_r (ym_t2 (by omega) (by omega)) (nm_r (ym_t3 (by omega) (by omega)) ⟨f + 2, hW _ _ hm hq post h0 h1 todo (f + 2) N hT2 (by omega) (by omega)⟩)
  · intro Q f met no hQ met' no' hm hq post h0 h1 todo N hT hN
    obtain ⟨N, rfl⟩ : ∃ k, N = k + 1 := ⟨N - 1, by omega⟩
    exact br_t (by decide) (h0 hQ _ _ _)
end YN
end
section
section MM
/-! the notes -/
def mm_NX (w : Int64) (v : Nat → Nat) : Prop := ∀ k, k < 6 → ∀ b, b < 6 → w.toBitVec.getLsbD (6 * k + b) = (v k).testBit b
theorem mm_0 : mm_NX 0 (fun _ => 0) := by
  intro k _ b _
  show (0#64).getLsbD _ = (0 : Nat).testBit b
  simp
theorem mm_nw (w : Int64) (v : Nat → Nat) (k a : Nat) (h : mm_NX w v) (hk : k < 6) (ha : a ≤ 32) : mm_NX (xm_nw w k a) (mt_un v k (a + 1)) := by
  intro j hj b hb
  have e1 : (63 : Int64) <<< ((nI (6 * k)).toInt64 &&& 63) = lN (63 * 2 ^ (6 * k)) := wb_shl 63 (by omega)
  have e2 : (nI a + 1).toInt64 <<< ((nI (6 * k)).toInt64 &&& 63) = lN ((a + 1) * 2 ^ (6 * k)) := by
    rw [nI_1, nI_l (by omega), wb_shl (a + 1) (by omega)]
  have e3 : (-1 : Int64).toBitVec = BitVec.allOnes 64 := by decide
  unfold xm_nw
  rw [e1, e2, Int64.toBitVec_or, Int64.toBitVec_and, Int64.toBitVec_xor, BitVec.getLsbD_or, BitVec.getLsbD_and, BitVec.getLsbD_xor, wb_tb, wb_tb, BitVec.getLsbD_ofNat, BitVec.getLsbD_ofNat, e3, BitVec.getLsbD_allOnes, h j hj b hb, Nat.testBit_mul_two_pow, Nat.testBit_mul_two_pow]
  have i64 : 6 * j + b < 64 := by omega
  have t63 : ∀ n, Nat.testBit 63 n = decide (n < 6) := fun n => Nat.testBit_two_pow_sub_one 6 n
  rw [t63]
  by_cases e : j = k
  · subst e
    have u : mt_un v j (a + 1) j = a + 1 := if_pos rfl
    have q1 : 6 * j ≤ 6 * j + b := by omega
    have q2 : 6 * j + b - 6 * j = b := by omega
    rw [u, q2]
    simp [i64, hb]
  · have u : mt_un v k (a + 1) j = v j := if_neg e
    rw [u]
    by_cases l : j < k
    · have q1 : ¬ 6 * k ≤ 6 * j + b := by omega
      simp [i64, q1]
    · have q2 : ¬ 6 * j + b - 6 * k < 6 := by omega
      have q3 : (a + 1).testBit (6 * j + b - 6 * k) = false := by
        apply Nat.testBit_lt_two_pow
        exact Nat.lt_of_lt_of_le (show a + 1 < 2 ^ 6 by omega) (Nat.pow_le_pow_right (by omega) (by omega))
      simp [i64, q2, q3]
theorem mm_get {w : Int64} {v : Nat → Nat} {k : Nat} (h : mm_NX w v) (hk : k < 6) (hv : v k ≤ 33) : (((w.toUInt64 >>> ((nI (6 * k)).toInt64.toUInt64 &&& Int64.toUInt64 63)).toInt64) &&& 63).toInt32 = nI (v k) := by
  obtain ⟨n, hn, rfl⟩ := wb_of w
  have e : n / 2 ^ (6 * k) % 2 ^ 6 = v k := by
    apply Nat.eq_of_testBit_eq
    intro b
    rw [Nat.testBit_mod_two_pow, Nat.testBit_div_two_pow]
    by_cases hb : b < 6
    · have := h k hk b hb
      rw [wb_tb, BitVec.getLsbD_ofNat] at this
      have i64 : 6 * k + b < 64 := by omega
      rw [← this, Nat.add_comm b]
      simp [hb, i64]
    · have q3 : (v k).testBit b = false := by
        apply Nat.testBit_lt_two_pow
        exact Nat.lt_of_lt_of_le (show v k < 2 ^ 6 by omega) (Nat.pow_le_pow_right (by omega) (by omega))
      simp [hb, q3]
  rw [wb_shr hn (by omega), show (63 : Int64) = lN (2 ^ 6 - 1) from rfl, wb_mask (Nat.lt_of_le_of_lt (Nat.div_le_self _ _) hn) (by omega), e, lN_i]
/-! how a search begins -/
def mm_z (n : Nat) (f : Nat → Int64) : Nat → Int64 := fun j => if j < n then 0 else f j
theorem mm_z0 (f : Nat → Int64) : mm_z 0 f = f := by
  funext j; exact if_neg (by omega)
theorem mm_zs (n : Nat) (f : Nat → Int64) : vp_updL (mm_z n f) n 0 = mm_z (n + 1) f := by
  funext j
  unfold vp_updL mm_z
  by_cases h : j = n
  · rw [if_pos h, if_pos (by omega)]
  · rw [if_neg h]
    by_cases h2 : j < n
    · rw [if_pos h2, if_pos (by omega)]
    · rw [if_neg h2, if_neg (by omega)]
theorem mm_zl {n j : Nat} {f : Nat → Int64} (h : j < n) : mm_z n f j = 0 := if_pos h
def mm_w (n : Nat) (f : Nat → Int32) : Nat → Int32 := fun j => if j < n then -1 else f j
theorem mm_w0 (f : Nat → Int32) : mm_w 0 f = f := by
  funext j; exact if_neg (by omega)
theorem mm_ws (n : Nat) (f : Nat → Int32) : upd (mm_w n f) n (-1) = mm_w (n + 1) f := by
  funext j
  unfold upd mm_w
  by_cases h : j = n
  · rw [if_pos h, if_pos (by omega)]
  · rw [if_neg h]
    by_cases h2 : j < n
    · rw [if_pos h2, if_pos (by omega)]
    · rw [if_neg h2, if_neg (by omega)]
theorem mm_m1 : vp_nar .byte (-1) = -1 := by rw [vp_nar_byte]; decide
theorem mm_muz {n : Nat} {f : Nat → Int64} : ∀ p, p ≤ n → mt_mu (mm_z n f) p = 33 * p
  | 0, _ => rfl
  | p + 1, h => by
    show mt_mu _ p + mt_c (mm_z n f p) 33 = _
    rw [mm_muz p (by omega), mm_zl (by omega)]
    have : mt_c 0 33 = 33 := by decide
    omega
section
variable {f_tokens f_faultPlace f_length f_pieces f_patternEntry f_hasPattern f_tooLarge f_level f_groups f_atomStart f_atomEntry f_choices f_wayPiece f_wayPlace : Int32} {f_wayNotes : Int64} {f_hasResult f_resultStart f_resultEnd : Int32} {f_resultNotes : Int64} {a_tokenKind a_tokenValue a_text a_pieceKind a_pieceValue a_pieceNext a_pieceSecond a_levelGroup a_levelStart a_levelEntry a_branchStart a_branchEntry : Nat → Int32} {a_placesSeen : Nat → Int64} {a_choicePiece a_choicePlace : Nat → Int32} {a_choiceNotes : Nat → Int64}
theorem mm_xb {post : SX → Prop} {x1 : Int32} {P : Nat} (hP : P ≤ 36) (h : post (f_tokens, f_faultPlace, f_length, nI P, f_patternEntry, f_hasPattern, f_tooLarge, f_level, f_groups, f_atomStart, f_atomEntry, 0, f_patternEntry, x1, 0, f_hasResult, f_resultStart, f_resultEnd, f_resultNotes, a_tokenKind, a_tokenValue, a_text, a_pieceKind, a_pieceValue, a_pieceNext, a_pieceSecond, a_levelGroup, a_levelStart, a_levelEntry, a_branchStart, a_branchEntry, mm_z P a_placesSeen, a_choicePiece, a_choicePlace, a_choiceNotes)) : ∀ (d i : Nat), i + d = P →
    wX_beginSearch_2 post x1 f_tokens f_faultPlace f_length (nI P) f_patternEntry f_hasPattern f_tooLarge f_level f_groups f_atomStart f_atomEntry f_choices f_wayPiece f_wayPlace f_wayNotes f_hasResult f_resultStart f_resultEnd f_resultNotes (d + 1) (nI i) a_tokenKind a_tokenValue a_text a_pieceKind a_pieceValue a_pieceNext a_pieceSecond a_levelGroup a_levelStart a_levelEntry a_branchStart a_branchEntry (mm_z i a_placesSeen) a_choicePiece a_choicePlace a_choiceNotes := by
  intro d
  induction d with
  | zero =>
    intro i hi
    obtain rfl : i = P := by omega
    exact br_t (nI_le (Nat.le_refl _) (by omega)) h
  | succ d ih =>
    intro i hi
    refine br_f (nI_ge (by omega) (by omega)) ⟨vp_in_nI (by omega) (by omega), nm_r ?_ (nm_r (nI_1 i) (ih (i + 1) (by omega)))⟩
    rw [nI_clamp (by omega), mm_zs]
theorem mm_xbegin {post : SX → Prop} {x1 : Int32} {P : Nat} (hP : P ≤ 36) (h : post (f_tokens, f_faultPlace, f_length, nI P, f_patternEntry, f_hasPattern, f_tooLarge, f_level, f_groups, f_atomStart, f_atomEntry, 0, f_patternEntry, x1, 0, f_hasResult, f_resultStart, f_resultEnd, f_resultNotes, a_tokenKind, a_tokenValue, a_text, a_pieceKind, a_pieceValue, a_pieceNext, a_pieceSecond, a_levelGroup, a_levelStart, a_levelEntry, a_branchStart, a_branchEntry, mm_z P a_placesSeen, a_choicePiece, a_choicePlace, a_choiceNotes)) : wpX_beginSearch post (f_tokens, f_faultPlace, f_length, nI P, f_patternEntry, f_hasPattern, f_tooLarge, f_level, f_groups, f_atomStart, f_atomEntry, f_choices, f_wayPiece, f_wayPlace, f_wayNotes, f_hasResult, f_resultStart, f_resultEnd, f_resultNotes, a_tokenKind, a_tokenValue, a_text, a_pieceKind, a_pieceValue, a_pieceNext, a_pieceSecond, a_levelGroup, a_levelStart, a_levelEntry, a_branchStart, a_branchEntry, a_placesSeen, a_choicePiece, a_choicePlace, a_choiceNotes) x1 := by
  refine ⟨P + 1, ?_⟩
  have := mm_xb (x1 := x1) (f_choices := f_choices) (f_wayPiece := f_wayPiece) (f_wayPlace := f_wayPlace) (f_wayNotes := f_wayNotes) hP h P 0 (by omega)
  rw [mm_z0, nI_0] at this
  exact this
end
section
variable {g_count g_place g_end g_size g_large g_ready g_depth g_groups g_atom g_atomSize g_length g_found : Int32} {b_kind b_value b_op b_with b_one b_two b_copyOp b_copyWith b_copyOne b_copyTwo b_opened b_branch b_sizes b_jumps b_groupOf b_text : Nat → Int32} {b_met : Nat → Int64} {b_todo b_notes : Nat → Int32}
theorem mm_y25 {post : Int32 → SY → Prop} {x2 : Int32} {s0 : Nat} (hs : s0 ≤ 32) (h : ∃ n, wY_search_64 post x2 g_count g_place g_end g_size g_large g_ready g_depth g_groups g_atom g_atomSize g_length g_found n 1 b_kind b_value b_op b_with b_one b_two b_copyOp b_copyWith b_copyOne b_copyTwo b_opened b_branch b_sizes b_jumps b_groupOf b_text b_met (upd b_todo 0 (nI s0)) (upd (mm_w 8 b_notes) 0 (nI s0))) : ∀ (d i : Nat), i + d = 8 →
    wY_search_25 post (nI s0) x2 g_count g_place g_end g_size g_large g_ready g_depth g_groups g_atom g_atomSize g_length g_found (d + 1) (nI i) b_kind b_value b_op b_with b_one b_two b_copyOp b_copyWith b_copyOne b_copyTwo b_opened b_branch b_sizes b_jumps b_groupOf b_text b_met b_todo (mm_w i b_notes) := by
  intro d
  induction d with
  | zero =>
    intro i hi
    obtain rfl : i = 8 := by omega
    exact br_t (nI_le (Nat.le_refl _) (by omega)) (nm_r (by rw [ym_nb (by omega)]) (nm_r (show (0 : Int32) + 1 = 1 from rfl) (nm_e h)))
  | succ d ih =>
    intro i hi
    refine br_f (nI_ge (b := 8) (by omega) (by omega)) ⟨vp_in_nI (by omega) (by omega), nm_r ?_ (nm_r (nI_1 i) (ih (i + 1) (by omega)))⟩
    rw [nI_clamp (by omega), mm_m1, mm_ws]
theorem mm_y2 {post : Int32 → SY → Prop} {x2 : Int32} {s0 e : Nat} (hs : s0 ≤ 32) (he : e ≤ 160) (h : ∃ n, wY_search_64 post x2 g_count g_place (nI e) g_size g_large g_ready g_depth g_groups g_atom g_atomSize g_length g_found n 1 b_kind b_value b_op b_with b_one b_two b_copyOp b_copyWith b_copyOne b_copyTwo b_opened b_branch b_sizes b_jumps b_groupOf b_text (mm_z e b_met) (upd b_todo 0 (nI s0)) (upd (mm_w 8 b_notes) 0 (nI s0))) : ∀ (d i : Nat), i + d = e →
    wY_search_2 post (nI s0) x2 g_count g_place (nI e) g_size g_large g_ready g_depth g_groups g_atom g_atomSize g_length g_found (d + 1) (nI i) b_kind b_value b_op b_with b_one b_two b_copyOp b_copyWith b_copyOne b_copyTwo b_opened b_branch b_sizes b_jumps b_groupOf b_text (mm_z i b_met) b_todo b_notes := by
  intro d
  induction d with
  | zero =>
    intro i hi
    obtain rfl : i = e := by omega
    refine br_t (nI_le (Nat.le_refl _) (by omega)) ⟨9, ?_⟩
    have := mm_y25 hs h 8 0 (by omega)
    rw [mm_w0, nI_0] at this
    exact this
  | succ d ih =>
    intro i hi
    refine br_f (nI_ge (by omega) (by omega)) ⟨vp_in_nI (by omega) (by omega), nm_r ?_ (nm_r (nI_1 i) (ih (i + 1) (by omega)))⟩
    rw [nI_clamp (by omega), mm_zs]
theorem mm_ybegin {post : Int32 → SY → Prop} {x2 : Int32} {s0 e : Nat} (hs : s0 ≤ 32) (he : e ≤ 160) (h : ∃ n, wY_search_64 post x2 g_count g_place (nI e) g_size g_large g_ready g_depth g_groups g_atom g_atomSize g_length g_found n 1 b_kind b_value b_op b_with b_one b_two b_copyOp b_copyWith b_copyOne b_copyTwo b_opened b_branch b_sizes b_jumps b_groupOf b_text (mm_z e b_met) (upd b_todo 0 (nI s0)) (upd (mm_w 8 b_notes) 0 (nI s0))) : wpY_search post (g_count, g_place, nI e, g_size, g_large, g_ready, g_depth, g_groups, g_atom, g_atomSize, g_length, g_found, b_kind, b_value, b_op, b_with, b_one, b_two, b_copyOp, b_copyWith, b_copyOne, b_copyTwo, b_opened, b_branch, b_sizes, b_jumps, b_groupOf, b_text, b_met, b_todo, b_notes) (nI s0) x2 := by
  refine ⟨e + 1, ?_⟩
  have := mm_y2 hs he h e 0 (by omega)
  rw [mm_z0, nI_0] at this
  exact this
end
end MM
end
section
section MN
variable {f_tokens f_faultPlace f_length f_pieces f_patternEntry f_hasPattern f_tooLarge f_level f_groups f_atomStart f_atomEntry f_choices f_wayPiece f_wayPlace : Int32} {f_wayNotes : Int64} {f_hasResult f_resultStart f_resultEnd : Int32} {f_resultNotes : Int64} {a_tokenKind a_tokenValue a_text a_pieceKind a_pieceValue a_pieceNext a_pieceSecond a_levelGroup a_levelStart a_levelEntry a_branchStart a_branchEntry : Nat → Int32} {a_placesSeen : Nat → Int64} {a_choicePiece a_choicePlace : Nat → Int32} {a_choiceNotes : Nat → Int64}
variable {g_count g_place g_end g_size g_large g_ready g_depth g_groups g_atom g_atomSize g_length g_found : Int32} {b_kind b_value b_op b_with b_one b_two b_copyOp b_copyWith b_copyOne b_copyTwo b_opened b_branch b_sizes b_jumps b_groupOf b_text : Nat → Int32} {b_met : Nat → Int64} {b_todo b_notes : Nat → Int32}
theorem mm_mu0 : ∀ p, mt_mu (fun _ => 0) p = 33 * p
  | 0 => rfl
  | p + 1 => by
    show mt_mu _ p + mt_c 0 33 = _
    rw [mm_mu0 p]
    have : mt_c 0 33 = 33 := by decide
    omega
/-- a search on both sides: one outcome, whatever lies in the arrays that it works with -/
theorem mm_match {P E len s0 : Nat} {x2 : Int32} (hF : fg_F (fg_q b_op b_with b_one b_two) (fg_q a_pieceKind a_pieceValue a_pieceNext a_pieceSecond) 0 E 0 P f_patternEntry) (hE : E ≤ 72) (hP : P ≤ 36) (h6 : b_op E = 6) (hl : len ≤ 32) (hs : s0 ≤ len) :
    ∃ oX oY, mt_OR mm_NX len s0 oX oY ∧
      (∀ (f_choices f_wayPiece f_wayPlace : Int32) (f_wayNotes : Int64) (a_placesSeen : Nat → Int64) (a_choicePiece a_choicePlace : Nat → Int32) (a_choiceNotes : Nat → Int64) (post : Int32 → SX → Prop), (oX = none → xm_P0 f_tokens f_faultPlace (nI len) (nI P) f_patternEntry f_hasPattern f_tooLarge f_level f_groups f_atomStart f_atomEntry f_choices f_wayPiece f_wayPlace f_wayNotes f_hasResult f_resultStart f_resultEnd f_resultNotes a_tokenKind a_tokenValue a_text a_pieceKind a_pieceValue a_pieceNext a_pieceSecond a_levelGroup a_levelStart a_levelEntry a_branchStart a_branchEntry a_placesSeen a_choicePiece a_choicePlace a_choiceNotes post) → (∀ a w, oX = some (a, w) → xm_P1 f_tokens f_faultPlace (nI len) (nI P) f_patternEntry f_hasPattern f_tooLarge f_level f_groups f_atomStart f_atomEntry f_choices f_wayPiece f_wayPlace f_wayNotes f_hasResult f_resultStart f_resultEnd f_resultNotes a_tokenKind a_tokenValue a_text a_pieceKind a_pieceValue a_pieceNext a_pieceSecond a_levelGroup a_levelStart a_levelEntry a_branchStart a_branchEntry a_placesSeen a_choicePiece a_choicePlace a_choiceNotes post (nI s0) a w) → wpX_matchesFrom post (f_tokens, f_faultPlace, nI len, nI P, f_patternEntry, f_hasPattern, f_tooLarge, f_level, f_groups, f_atomStart, f_atomEntry, f_choices, f_wayPiece, f_wayPlace, f_wayNotes, f_hasResult, f_resultStart, f_resultEnd, f_resultNotes, a_tokenKind, a_tokenValue, a_text, a_pieceKind, a_pieceValue, a_pieceNext, a_pieceSecond, a_levelGroup, a_levelStart, a_levelEntry, a_branchStart, a_branchEntry, a_placesSeen, a_choicePiece, a_choicePlace, a_choiceNotes) (nI s0) x2) ∧
      (∀ (b_met : Nat → Int64) (b_todo b_notes : Nat → Int32) (post : Int32 → SY → Prop), (oY = none → ym_P0 g_count g_place (nI (E + 1)) g_size g_large g_ready g_depth g_groups g_atom g_atomSize (nI len) g_found b_kind b_value b_op b_with b_one b_two b_copyOp b_copyWith b_copyOne b_copyTwo b_opened b_branch b_sizes b_jumps b_groupOf a_text b_met b_todo b_notes post) → (∀ a no, oY = some (a, no) → ym_P1 g_count g_place (nI (E + 1)) g_size g_large g_ready g_depth g_groups g_atom g_atomSize (nI len) g_found b_kind b_value b_op b_with b_one b_two b_copyOp b_copyWith b_copyOne b_copyTwo b_opened b_branch b_sizes b_jumps b_groupOf a_text b_met b_todo b_notes post a no) → wpY_search post (g_count, g_place, nI (E + 1), g_size, g_large, g_ready, g_depth, g_groups, g_atom, g_atomSize, nI len, g_found, b_kind, b_value, b_op, b_with, b_one, b_two, b_copyOp, b_copyWith, b_copyOne, b_copyTwo, b_opened, b_branch, b_sizes, b_jumps, b_groupOf, a_text, b_met, b_todo, b_notes) (nI s0) x2) := by
  obtain ⟨g1, g2, g3, g4, g5, r, ch, l, pr, sb, u, ad, pa, ra, rb, ca, cb, H⟩ := hF
  have hX := xm_IF (f_tokens := f_tokens) (f_faultPlace := f_faultPlace) (f_pieces := nI P) (f_patternEntry := f_patternEntry) (f_hasPattern := f_hasPattern) (f_tooLarge := f_tooLarge) (f_level := f_level) (f_groups := f_groups) (f_atomStart := f_atomStart) (f_atomEntry := f_atomEntry) (f_choices := 0) (f_wayPiece := 0) (f_wayPlace := 0) (f_wayNotes := 0) (f_hasResult := f_hasResult) (f_resultStart := f_resultStart) (f_resultEnd := f_resultEnd) (f_resultNotes := f_resultNotes) (a_tokenKind := a_tokenKind) (a_tokenValue := a_tokenValue) (a_text := a_text) (a_pieceKind := a_pieceKind) (a_pieceValue := a_pieceValue) (a_pieceNext := a_pieceNext) (a_pieceSecond := a_pieceSecond) (a_levelGroup := a_levelGroup) (a_levelStart := a_levelStart) (a_levelEntry := a_levelEntry) (a_branchStart := a_branchStart) (a_branchEntry := a_branchEntry) (a_placesSeen := fun _ => 0) (a_choicePiece := fun _ => 0) (a_choicePlace := fun _ => 0) (a_choiceNotes := fun _ => 0) (x1 := nI s0) (x2 := x2) hP hl
  have hY := ym_IF (g_count := g_count) (g_place := g_place) (g_end := nI (E + 1)) (g_size := g_size) (g_large := g_large) (g_ready := g_ready) (g_depth := g_depth) (g_groups := g_groups) (g_atom := g_atom) (g_atomSize := g_atomSize) (g_found := g_found) (b_kind := b_kind) (b_value := b_value) (b_op := b_op) (b_with := b_with) (b_one := b_one) (b_two := b_two) (b_copyOp := b_copyOp) (b_copyWith := b_copyWith) (b_copyOne := b_copyOne) (b_copyTwo := b_copyTwo) (b_opened := b_opened) (b_branch := b_branch) (b_sizes := b_sizes) (b_jumps := b_jumps) (b_groupOf := b_groupOf) (b_text := a_text) (b_met := fun _ => 0) (b_todo := fun _ => 0) (b_notes := fun _ => 0) (x2 := x2) (show E < 159 by omega) hl h6
  have hmu : mt_mu (fun _ => 0) P = 33 * P := mm_mu0 P
  have hjm := mt_jm_le (fg_q b_op b_with b_one b_two) E 0
  have sn0 : ∀ a, mt_sn 0 a = false := fun a => by
    show (0#64).getLsbD a = false
    simp
  have hI : mt_I (fg_q b_op b_with b_one b_two) P E len s0 mm_NX r ch l pr sb pa 0 (fun _ => 0) [] (fun _ => 0) [] (upd (fun _ => -1) 0 (nI s0)) (fun _ => 0) := by
    refine ⟨?_, ?_, ?_, rfl, trivial, ?_, ?_, if_pos rfl, ?_, ?_, ?_⟩
    · intro j p a j1 _ _ p1 _ _
      rfl
    · intro p a p1 _ _ h
      dsimp only at h
      rw [sn0] at h; cases h
    · intro j a j1 _ _ h
      dsimp only at h
      rw [sn0] at h; cases h
    · intro e he; cases he
    · intro k hk
      have e1 : upd (fun _ => -1) 0 (nI s0) (k + 2) = -1 := if_neg (by omega)
      rw [e1]
      exact ⟨show (-1 : Int32) = nI 0 - 1 by decide, show 0 ≤ 33 by omega⟩
    · rw [hmu]; simp only [List.length_nil]; omega
    · rw [hmu]; simp only [List.length_nil]; omega
    · rw [hmu]; simp only [List.length_nil]; omega
  obtain ⟨oX, oY, o1, o2, o3⟩ := (mt_sim (s0 := s0) hX hY H rb cb hE hP hl mm_nw (100 * (2 * mt_mu (fun _ => 0) P + ([] : List mt_C).length + mt_U []) + mt_jm (fg_q b_op b_with b_one b_two) E 0 + 2)).1 0 (fun _ => 0) [] (fun _ => 0) [] (upd (fun _ => -1) 0 (nI s0)) (fun _ => 0) 0 s0 0 _ _ (Nat.le_refl _) (Nat.le_refl _) (Nat.le_refl _) hI (Nat.zero_le _) ca (Nat.le_refl _) hs mm_0
  refine ⟨oX, oY, o1, fun f_choices f_wayPiece f_wayPlace f_wayNotes a_placesSeen a_choicePiece a_choicePlace a_choiceNotes post h0 h1 => ?_, fun b_met b_todo b_notes post h0 h1 => ?_⟩
  · have := o2 (fun o => o = oX) rfl (mm_z P a_placesSeen) (fun p hp => mm_zl hp) post (fun h => h0 h.symm) (fun a w h => h1 a w h.symm) a_choicePiece a_choicePlace a_choiceNotes _ trivial (Nat.le_refl _)
    rw [ra] at this
    exact mm_xbegin hP ⟨_, this⟩
  · have hT : ym_T (upd b_todo 0 (nI s0)) [(false, 0, s0)] := by
      refine ⟨?_, trivial⟩
      show upd b_todo 0 (nI s0) 0 = nI (64 * 0 + s0)
      rw [show 64 * 0 + s0 = s0 by omega]
      exact if_pos rfl
    have hno : ∀ j, j < 8 → upd (mm_w 8 b_notes) 0 (nI s0) j = upd (fun _ => -1) 0 (nI s0) j := fun j hj => by
      unfold upd
      rw [show mm_w 8 b_notes j = -1 from if_pos hj]
    have := hY.2.2.2.2.2.2.2.2.2.1 (fun o => o = oY) _ (fun _ => 0) [] (upd (fun _ => -1) 0 (nI s0)) 0 s0 (Nat.zero_le _) hs (by simp) (o3 (fun o => o = oY) rfl) (mm_z (E + 1) b_met) (upd (mm_w 8 b_notes) 0 (nI s0)) (fun j hj => mm_zl (by omega)) hno post (fun h => h0 h.symm) (fun a no h => h1 a no h.symm) (upd b_todo 0 (nI s0)) _ hT (Nat.le_refl _)
    exact mm_ybegin (by omega) (by omega) ⟨_, this⟩
end MN
end
section
section RL
def rl_tok (k v v' : Int32) : Prop := ∃ kk, kk ≤ 15 ∧ k = nI kk ∧ (kk = 0 → ∃ c, c ≤ 3 ∧ v = nI c ∧ v' = nI c) ∧ (kk = 2 → ∃ c, 1 ≤ c ∧ c ≤ 15 ∧ v = nI c ∧ v' = nI c) ∧ (kk = 14 → ∃ lo hi, v = nI (8 * lo + hi) ∧ v' = nI (8 * lo + hi) ∧ lo ≤ hi ∧ 1 ≤ hi ∧ hi ≤ 4)
def rl_B (f : Nat → Int32) : Prop := ∀ j, vp_nar .byte (f j) = f j
def rl_S (f : Nat → Int32) : Prop := ∀ j, vp_nar .short (f j) = f j
def rl_R (f_tokens f_faultPlace f_length f_pieces f_patternEntry f_hasPattern f_tooLarge f_level f_groups f_atomStart f_atomEntry f_choices f_wayPiece f_wayPlace : Int32) (f_wayNotes : Int64) (f_hasResult f_resultStart f_resultEnd : Int32) (f_resultNotes : Int64) (a_tokenKind a_tokenValue a_text a_pieceKind a_pieceValue a_pieceNext a_pieceSecond a_levelGroup a_levelStart a_levelEntry a_branchStart a_branchEntry : Nat → Int32) (a_placesSeen : Nat → Int64) (a_choicePiece a_choicePlace : Nat → Int32) (a_choiceNotes : Nat → Int64) (g_count g_place g_end g_size g_large g_ready g_depth g_groups g_atom g_atomSize g_length g_found : Int32) (b_kind b_value b_op b_with b_one b_two b_copyOp b_copyWith b_copyOne b_copyTwo b_opened b_branch b_sizes b_jumps b_groupOf b_text : Nat → Int32) (b_met : Nat → Int64) (b_todo b_notes : Nat → Int32) : Prop :=
  ∃ c n : Nat, c ≤ 24 ∧ f_tokens = nI c ∧ g_count = nI c ∧ b_kind = a_tokenKind ∧ (∀ j, j < c → rl_tok (a_tokenKind j) (a_tokenValue j) (b_value j)) ∧ g_place = f_faultPlace ∧
    n ≤ 32 ∧ f_length = nI n ∧ g_length = nI n ∧ b_text = a_text ∧
    g_ready = f_hasPattern ∧ (f_hasPattern = 0 ∨ (f_hasPattern = 1 ∧ ∃ P E : Nat, P ≤ 36 ∧ E ≤ 72 ∧ f_pieces = nI P ∧ g_end = nI (E + 1) ∧ b_op E = 6 ∧ fg_F (fg_q b_op b_with b_one b_two) (fg_q a_pieceKind a_pieceValue a_pieceNext a_pieceSecond) 0 E 0 P f_patternEntry)) ∧
    g_found = f_hasResult ∧ (f_hasResult = 0 ∨ (f_hasResult = 1 ∧ ∃ (s a : Nat) (v : Nat → Nat), s ≤ a ∧ a ≤ 32 ∧ f_resultStart = nI s ∧ f_resultEnd = nI a ∧ b_notes 0 = nI s ∧ b_notes 1 = nI a ∧ mm_NX f_resultNotes v ∧ mt_NO b_notes v)) ∧
    rl_B b_op ∧ rl_B b_with ∧ rl_S b_one ∧ rl_S b_two
def i_Rel (_ : Nat) (u : SX) (v : SY) : Prop := match u with
  | (f_tokens, f_faultPlace, f_length, f_pieces, f_patternEntry, f_hasPattern, f_tooLarge, f_level, f_groups, f_atomStart, f_atomEntry, f_choices, f_wayPiece, f_wayPlace, f_wayNotes, f_hasResult, f_resultStart, f_resultEnd, f_resultNotes, a_tokenKind, a_tokenValue, a_text, a_pieceKind, a_pieceValue, a_pieceNext, a_pieceSecond, a_levelGroup, a_levelStart, a_levelEntry, a_branchStart, a_branchEntry, a_placesSeen, a_choicePiece, a_choicePlace, a_choiceNotes) => match v with
    | (g_count, g_place, g_end, g_size, g_large, g_ready, g_depth, g_groups, g_atom, g_atomSize, g_length, g_found, b_kind, b_value, b_op, b_with, b_one, b_two, b_copyOp, b_copyWith, b_copyOne, b_copyTwo, b_opened, b_branch, b_sizes, b_jumps, b_groupOf, b_text, b_met, b_todo, b_notes) => rl_R f_tokens f_faultPlace f_length f_pieces f_patternEntry f_hasPattern f_tooLarge f_level f_groups f_atomStart f_atomEntry f_choices f_wayPiece f_wayPlace f_wayNotes f_hasResult f_resultStart f_resultEnd f_resultNotes a_tokenKind a_tokenValue a_text a_pieceKind a_pieceValue a_pieceNext a_pieceSecond a_levelGroup a_levelStart a_levelEntry a_branchStart a_branchEntry a_placesSeen a_choicePiece a_choicePlace a_choiceNotes g_count g_place g_end g_size g_large g_ready g_depth g_groups g_atom g_atomSize g_length g_found b_kind b_value b_op b_with b_one b_two b_copyOp b_copyWith b_copyOne b_copyTwo b_opened b_branch b_sizes b_jumps b_groupOf b_text b_met b_todo b_notes
theorem i_up {k : Nat} {u : SX} {v : SY} (h : i_Rel k u v) : i_Rel (k + 3) u v := h
theorem rl_B0 : rl_B (fun _ => 0) := fun _ => by show vp_nar .byte 0 = 0; rw [vp_nar_byte]; decide
theorem rl_S0 : rl_S (fun _ => 0) := fun _ => by show vp_nar .short 0 = 0; rw [vp_nar_short]; decide
theorem i_vc0 : wpX_init (fun u => wpY_init (fun v => i_Rel 0 u v)) :=
  ⟨0, 0, by omega, rfl, rfl, rfl, fun j hj => by omega, rfl, by omega, rfl, rfl, rfl, rfl, Or.inl rfl, rfl, Or.inl rfl, rl_B0, rl_B0, rl_S0, rl_S0⟩
/-! token -/
theorem tk_shr {n : Nat} (h : n < 2 ^ 31) : nI n >>> ((3 : Int32) &&& 31) = nI (n / 8) := pk_shrN h _ 3 (by decide)
theorem tk_and {n : Nat} (h : n < 2 ^ 31) : nI n &&& 7 = nI (n % 8) := pk_andN (by omega) 3 (by decide)
theorem tk_x14 {post : Int32 → Prop} {n : Nat} (h : n < 2 ^ 31) (h1 : n / 8 ≤ n % 8 → 1 ≤ n % 8 → n % 8 ≤ 4 → post 1) (h0 : ¬ (n / 8 ≤ n % 8 ∧ 1 ≤ n % 8 ∧ n % 8 ≤ 4) → post 0) : wpX_isValueOf post 14 (nI n) := by
  refine br_f (by decide) (br_f (by decide) (br_t rfl ?_))
  unfold wpX_leastTimes wpX_mostTimes
  rw [tk_shr h, tk_and h]
  exact br_f (nI_pos h) (pk_lt (n % 8) (n / 8) (fun e => h0 (by omega)) (fun e1 => pk_lt (n % 8) 1 (fun e => h0 (by omega)) (fun e2 => pk_lt 4 (n % 8) (fun e => h0 (by omega)) (fun e3 => h1 e1 e2 e3))))
theorem tk_y14 {A B : Prop} {n : Nat} (h : n < 2 ^ 31) (h1 : n / 8 ≤ n % 8 → 1 ≤ n % 8 → n % 8 ≤ 4 → B) (h0 : ¬ (n / 8 ≤ n % 8 ∧ 1 ≤ n % 8 ∧ n % 8 ≤ 4) → A) :
    (nI n < 0 → A) ∧ (¬ nI n < 0 → (((36 : Int32) < nI n → A) ∧ (¬ (36 : Int32) < nI n → (¬ (8 : Int32) = 0 ∧ (((4 : Int32) < (nI n - nI n / 8 * 8) → A) ∧ (¬ (4 : Int32) < (nI n - nI n / 8 * 8) → (¬ (8 : Int32) = 0 ∧ (((nI n - nI n / 8 * 8) < 1 → A) ∧ (¬ (nI n - nI n / 8 * 8) < 1 → (¬ (8 : Int32) = 0 ∧ (¬ (8 : Int32) = 0 ∧ (((nI n / 8) ≤ (nI n - nI n / 8 * 8) → B) ∧ (¬ (nI n / 8) ≤ (nI n - nI n / 8 * 8) → A))))))))))))) := by
  have e1 : nI n - nI n / 8 * 8 = nI (n % 8) := pk_rem h (d := 8) (by omega) (by omega)
  have e2 : nI n / 8 = nI (n / 8) := pk_div h (d := 8) (by omega) (by omega)
  have z : ¬ (8 : Int32) = 0 := by decide
  rw [e1, e2]
  exact br_f (nI_pos h) (pk_lt 36 n (fun e => h0 (by omega)) (fun e0 => ⟨z, pk_lt 4 (n % 8) (fun e => h0 (by omega)) (fun e1 => ⟨z, pk_lt (n % 8) 1 (fun e => h0 (by omega)) (fun e2 => ⟨z, z, pk_le (n / 8) (n % 8) (fun e => h1 e e2 e1) (fun e => h0 (by omega))⟩)⟩)⟩))
section
variable {g_count g_place g_end g_size g_large g_ready g_depth g_groups g_atom g_atomSize g_length g_found : Int32} {b_kind b_value b_op b_with b_one b_two b_copyOp b_copyWith b_copyOne b_copyTwo b_opened b_branch b_sizes b_jumps b_groupOf b_text : Nat → Int32} {b_met : Nat → Int64} {b_todo b_notes : Nat → Int32}
/-- is the value one of the kind's? both sides say the same -/
theorem tk_val (kk : Nat) (hk : kk ≤ 15) (v : Int32) (hc : ¬ g_count = 24) :
    ((∀ post : Int32 → Prop, post 1 → wpX_isValueOf post (nI kk) v) ∧ (∀ post : Int32 → SY → Prop, wY_token_97 post (nI kk) v g_count g_place g_end g_size g_large g_ready g_depth g_groups g_atom g_atomSize g_length g_found b_kind b_value b_op b_with b_one b_two b_copyOp b_copyWith b_copyOne b_copyTwo b_opened b_branch b_sizes b_jumps b_groupOf b_text b_met b_todo b_notes → wpY_token post (g_count, g_place, g_end, g_size, g_large, g_ready, g_depth, g_groups, g_atom, g_atomSize, g_length, g_found, b_kind, b_value, b_op, b_with, b_one, b_two, b_copyOp, b_copyWith, b_copyOne, b_copyTwo, b_opened, b_branch, b_sizes, b_jumps, b_groupOf, b_text, b_met, b_todo, b_notes) (nI kk) v) ∧ rl_tok (nI kk) v (vp_nar .byte v.toInt8.toInt32)) ∨
    ((∀ post : Int32 → Prop, post 0 → wpX_isValueOf post (nI kk) v) ∧ (∀ post : Int32 → SY → Prop, post 0 (g_count, g_place, g_end, g_size, g_large, g_ready, g_depth, g_groups, g_atom, g_atomSize, g_length, g_found, b_kind, b_value, b_op, b_with, b_one, b_two, b_copyOp, b_copyWith, b_copyOne, b_copyTwo, b_opened, b_branch, b_sizes, b_jumps, b_groupOf, b_text, b_met, b_todo, b_notes) → wpY_token post (g_count, g_place, g_end, g_size, g_large, g_ready, g_depth, g_groups, g_atom, g_atomSize, g_length, g_found, b_kind, b_value, b_op, b_with, b_one, b_two, b_copyOp, b_copyWith, b_copyOne, b_copyTwo, b_opened, b_branch, b_sizes, b_jumps, b_groupOf, b_text, b_met, b_todo, b_notes) (nI kk) v)) := by
  have k0 : ¬ nI kk < 0 := nI_pos (by omega)
  have k15 : ¬ (15 : Int32) < nI kk := nI_nlt (a := 15) (by omega) (by omega)
  by_cases h0 : kk = 0
  · subst h0
    by_cases hv : v < 0
    · exact Or.inr ⟨fun post h => br_t rfl (br_t hv h), fun post h => br_f k0 (br_f k15 (br_f hc (br_t rfl (br_t hv h))))⟩
    · by_cases hv3 : 3 < v
      · exact Or.inr ⟨fun post h => br_t rfl (br_f hv (br_t hv3 h)), fun post h => br_f k0 (br_f k15 (br_f hc (br_t rfl (br_f hv (br_t hv3 h)))))⟩
      · obtain ⟨j, hj, rfl⟩ := nI_of hv
        have hj3 : j ≤ 3 := by
          rw [show (3 : Int32) = nI 3 from rfl, nI_ltI (by omega) hj] at hv3; omega
        refine Or.inl ⟨fun post h => br_t rfl (br_f hv (br_f hv3 h)), fun post h => br_f k0 (br_f k15 (br_f hc (br_t rfl (br_f hv (br_f hv3 (br_f (show ¬ (0 : Int32) = 2 by decide) (br_f (show ¬ (0 : Int32) = 14 by decide) h))))))), 0, by omega, rfl, fun _ => ⟨j, hj3, rfl, ym_nb (by omega)⟩, fun h => by omega, fun h => by omega⟩
  · have n0 : ¬ nI kk = 0 := nI_ne0 (by omega) (by omega)
    by_cases h2 : kk = 2
    · subst h2
      by_cases hv : v < 1
      · exact Or.inr ⟨fun post h => br_f n0 (br_t rfl (br_t hv h)), fun post h => br_f k0 (br_f k15 (br_f hc (br_f n0 (br_t rfl (br_t hv h)))))⟩
      · by_cases hv3 : 15 < v
        · exact Or.inr ⟨fun post h => br_f n0 (br_t rfl (br_f hv (br_t hv3 h))), fun post h => br_f k0 (br_f k15 (br_f hc (br_f n0 (br_t rfl (br_f hv (br_f (Int32.not_le.mpr hv3) h))))))⟩
        · have hv0 : ¬ v < 0 := fun h => hv (Int32.lt_of_lt_of_le h (by decide))
          obtain ⟨j, hj, rfl⟩ := nI_of hv0
          have hj3 : j ≤ 15 := by
            rw [show (15 : Int32) = nI 15 from rfl, nI_ltI (by omega) hj] at hv3; omega
          have hj1 : 1 ≤ j := by
            rw [show (1 : Int32) = nI 1 from rfl, nI_ltI hj (by omega)] at hv; omega
          refine Or.inl ⟨fun post h => br_f n0 (br_t rfl (br_f hv (br_f hv3 h))), fun post h => br_f k0 (br_f k15 (br_f hc (br_f n0 (br_t rfl (br_f hv (br_t (Int32.not_lt.mp hv3) (br_f (show ¬ (2 : Int32) = 14 by decide) h))))))), 2, by omega, rfl, fun h => by omega, fun _ => ⟨j, hj1, hj3, rfl, ym_nb (by omega)⟩, fun h => by omega⟩
    · have n2 : ¬ nI kk = 2 := fun h => h2 ((nI_eq (b := 2) (by omega) (by omega)).mp h)
      by_cases h14 : kk = 14
      · subst h14
        by_cases hv : v < 0
        · refine Or.inr ⟨fun post h => br_f n0 (br_f n2 (br_t rfl ?_)), fun post h => br_f k0 (br_f k15 (br_f hc (br_f n0 (br_f n2 (br_t rfl (br_t hv h))))))⟩
          unfold wpX_leastTimes wpX_mostTimes
          exact br_t hv h
        · obtain ⟨j, hj, rfl⟩ := nI_of hv
          by_cases ok : j / 8 ≤ j % 8 ∧ 1 ≤ j % 8 ∧ j % 8 ≤ 4
          · refine Or.inl ⟨fun post h => tk_x14 hj (fun _ _ _ => h) (fun e => absurd ok e), fun post h => br_f k0 (br_f k15 (br_f hc (br_f n0 (br_f n2 (br_t rfl (tk_y14 hj (fun _ _ _ => h) (fun e => absurd ok e))))))), 14, by omega, rfl, fun h => by omega, fun h => by omega, fun _ => ⟨j / 8, j % 8, ?_, ?_, by omega⟩⟩
            · congr 1; omega
            · rw [ym_nb (by omega)]; congr 1; omega
          · exact Or.inr ⟨fun post h => tk_x14 hj (fun e1 e2 e3 => absurd ⟨e1, e2, e3⟩ ok) (fun _ => h), fun post h => br_f k0 (br_f k15 (br_f hc (br_f n0 (br_f n2 (br_t rfl (tk_y14 hj (fun e1 e2 e3 => absurd ⟨e1, e2, e3⟩ ok) (fun _ => h)))))))⟩
      · have n14 : ¬ nI kk = 14 := fun h => h14 ((nI_eq (b := 14) (by omega) (by omega)).mp h)
        exact Or.inl ⟨fun post h => br_f n0 (br_f n2 (br_f n14 h)), fun post h => br_f k0 (br_f k15 (br_f hc (br_f n0 (br_f n2 (br_f n14 h))))), kk, hk, rfl, fun h => by omega, fun h => by omega, fun h => by omega⟩
end
end RL
end
section
section EZ
theorem rl_us {f : Nat → Int32} {k : Nat} {x : Int32} : upd f k x k = x := if_pos rfl
theorem rl_un {f : Nat → Int32} {k j : Nat} {x : Int32} (h : j ≠ k) : upd f k x j = f j := if_neg h
theorem i_vc_token {k : Nat} {u : SX} {v : SY} (I : i_Rel k u v) (hk : k + 3 ≤ 1536) (v1 : Int32) (v2 : Int32) : wpX_token (fun r u' => wpY_token (fun r' v' => r' = r ∧ i_Rel (k + 3) u' v') v v1 v2) u v1 v2 := by
  obtain ⟨f_tokens, f_faultPlace, f_length, f_pieces, f_patternEntry, f_hasPattern, f_tooLarge, f_level, f_groups, f_atomStart, f_atomEntry, f_choices, f_wayPiece, f_wayPlace, f_wayNotes, f_hasResult, f_resultStart, f_resultEnd, f_resultNotes, a_tokenKind, a_tokenValue, a_text, a_pieceKind, a_pieceValue, a_pieceNext, a_pieceSecond, a_levelGroup, a_levelStart, a_levelEntry, a_branchStart, a_branchEntry, a_placesSeen, a_choicePiece, a_choicePlace, a_choiceNotes⟩ := u
  obtain ⟨g_count, g_place, g_end, g_size, g_large, g_ready, g_depth, g_groups, g_atom, g_atomSize, g_length, g_found, b_kind, b_value, b_op, b_with, b_one, b_two, b_copyOp, b_copyWith, b_copyOne, b_copyTwo, b_opened, b_branch, b_sizes, b_jumps, b_groupOf, b_text, b_met, b_todo, b_notes⟩ := v
  have I0 := I
  obtain ⟨c, n, hc, rfl, rfl, rfl, htok, rfl, hn, rfl, rfl, rfl, rfl, hpat, rfl, hres, hB1, hB2, hS1, hS2⟩ := I
  by_cases h24 : c = 24
  · subst h24
    refine br_t (by decide) ?_
    by_cases h0 : v1 < 0
    · exact br_t h0 ⟨rfl, I0⟩
    · by_cases h15 : 15 < v1
      · exact br_f h0 (br_t h15 ⟨rfl, I0⟩)
      · exact br_f h0 (br_f h15 (br_t rfl ⟨rfl, I0⟩))
  · have n24 : ¬ (24 : Int32) ≤ nI c := nI_ge (b := 24) (by omega) (by omega)
    have e24 : ¬ nI c = 24 := fun h => h24 ((nI_eq (b := 24) (by omega) (by omega)).mp h)
    by_cases h0 : v1 < 0
    · exact br_f n24 (br_t h0 (br_t h0 ⟨rfl, I0⟩))
    · by_cases h15 : 15 < v1
      · exact br_f n24 (br_f h0 (br_t h15 (br_f h0 (br_t h15 ⟨rfl, I0⟩))))
      · obtain ⟨kk, hkk, rfl⟩ := nI_of h0
        have hk15 : kk ≤ 15 := by
          rw [show (15 : Int32) = nI 15 from rfl, nI_ltI (by omega) hkk] at h15; omega
        rcases tk_val (g_count := nI c) (g_place := g_place) (g_end := g_end) (g_size := g_size) (g_large := g_large) (g_ready := g_ready) (g_depth := g_depth) (g_groups := g_groups) (g_atom := g_atom) (g_atomSize := g_atomSize) (g_length := nI n) (g_found := g_found) (b_kind := b_kind) (b_value := b_value) (b_op := b_op) (b_with := b_with) (b_one := b_one) (b_two := b_two) (b_copyOp := b_copyOp) (b_copyWith := b_copyWith) (b_copyOne := b_copyOne) (b_copyTwo := b_copyTwo) (b_opened := b_opened) (b_branch := b_branch) (b_sizes := b_sizes) (b_jumps := b_jumps) (b_groupOf := b_groupOf) (b_text := b_text) (b_met := b_met) (b_todo := b_todo) (b_notes := b_notes) kk hk15 v2 e24 with ⟨hX, hY, ht⟩ | ⟨hX, hY⟩
        · have hv : vp_in (nI c) 24 := vp_in_nI (by omega) (by omega)
          have ec : (nI c).toNatClampNeg = c := nI_clamp (by omega)
          refine br_f n24 (br_f h0 (br_f h15 (hX _ (br_f (by decide) ⟨hv, nm_r (by rw [ec]) ⟨hv, nm_r (by rw [ec]) (nm_r (nI_1 c) ?_)⟩⟩))))
          refine hY _ ?_
          refine ⟨hv, nm_r (by rw [ec, ym_nb (by omega)]) (nm_r (nI_1 c) ⟨hv, nm_r (by rw [ec]) ⟨rfl, ?_⟩⟩)⟩
          refine ⟨c + 1, n, by omega, rfl, rfl, rfl, ?_, rfl, hn, rfl, rfl, rfl, rfl, hpat, rfl, hres, hB1, hB2, hS1, hS2⟩
          intro j hj
          by_cases e : j = c
          · rw [e, rl_us, rl_us, rl_us]; exact ht
          · rw [rl_un e, rl_un e, rl_un e]; exact htok j (by omega)
        · refine br_f n24 (br_f h0 (br_f h15 (hX _ (br_t rfl ?_))))
          refine hY _ ?_
          exact ⟨rfl, I0⟩
theorem i_vc_wipe {k : Nat} {u : SX} {v : SY} (I : i_Rel k u v) (hk : k + 3 ≤ 1536) : wpX_wipe (fun r u' => wpY_wipe (fun r' v' => r' = r ∧ i_Rel (k + 3) u' v') v) u := by
  obtain ⟨f_tokens, f_faultPlace, f_length, f_pieces, f_patternEntry, f_hasPattern, f_tooLarge, f_level, f_groups, f_atomStart, f_atomEntry, f_choices, f_wayPiece, f_wayPlace, f_wayNotes, f_hasResult, f_resultStart, f_resultEnd, f_resultNotes, a_tokenKind, a_tokenValue, a_text, a_pieceKind, a_pieceValue, a_pieceNext, a_pieceSecond, a_levelGroup, a_levelStart, a_levelEntry, a_branchStart, a_branchEntry, a_placesSeen, a_choicePiece, a_choicePlace, a_choiceNotes⟩ := u
  obtain ⟨g_count, g_place, g_end, g_size, g_large, g_ready, g_depth, g_groups, g_atom, g_atomSize, g_length, g_found, b_kind, b_value, b_op, b_with, b_one, b_two, b_copyOp, b_copyWith, b_copyOne, b_copyTwo, b_opened, b_branch, b_sizes, b_jumps, b_groupOf, b_text, b_met, b_todo, b_notes⟩ := v
  obtain ⟨c, n, hc, rfl, rfl, rfl, htok, rfl, hn, rfl, rfl, rfl, rfl, hpat, rfl, hres, hB1, hB2, hS1, hS2⟩ := I
  exact ⟨rfl, 0, n, by omega, rfl, rfl, rfl, fun j hj => by omega, rfl, hn, rfl, rfl, rfl, rfl, hpat, rfl, hres, hB1, hB2, hS1, hS2⟩
theorem i_vc_place {k : Nat} {u : SX} {v : SY} (I : i_Rel k u v) (hk : k + 3 ≤ 1536) : wpX_place (fun r => wpY_place (fun r' => r' = r ∧ i_Rel (k + 3) u v) v) u := by
  obtain ⟨f_tokens, f_faultPlace, f_length, f_pieces, f_patternEntry, f_hasPattern, f_tooLarge, f_level, f_groups, f_atomStart, f_atomEntry, f_choices, f_wayPiece, f_wayPlace, f_wayNotes, f_hasResult, f_resultStart, f_resultEnd, f_resultNotes, a_tokenKind, a_tokenValue, a_text, a_pieceKind, a_pieceValue, a_pieceNext, a_pieceSecond, a_levelGroup, a_levelStart, a_levelEntry, a_branchStart, a_branchEntry, a_placesSeen, a_choicePiece, a_choicePlace, a_choiceNotes⟩ := u
  obtain ⟨g_count, g_place, g_end, g_size, g_large, g_ready, g_depth, g_groups, g_atom, g_atomSize, g_length, g_found, b_kind, b_value, b_op, b_with, b_one, b_two, b_copyOp, b_copyWith, b_copyOne, b_copyTwo, b_opened, b_branch, b_sizes, b_jumps, b_groupOf, b_text, b_met, b_todo, b_notes⟩ := v
  have I0 := I
  obtain ⟨c, n, hc, rfl, rfl, rfl, htok, rfl, hn, rfl, rfl, rfl, rfl, hpat, rfl, hres, hB1, hB2, hS1, hS2⟩ := I
  exact ⟨rfl, I0⟩
theorem i_vc_type {k : Nat} {u : SX} {v : SY} (I : i_Rel k u v) (hk : k + 3 ≤ 1536) (v1 : Int32) : wpX_type (fun r u' => wpY_type (fun r' v' => r' = r ∧ i_Rel (k + 3) u' v') v v1) u v1 := by
  obtain ⟨f_tokens, f_faultPlace, f_length, f_pieces, f_patternEntry, f_hasPattern, f_tooLarge, f_level, f_groups, f_atomStart, f_atomEntry, f_choices, f_wayPiece, f_wayPlace, f_wayNotes, f_hasResult, f_resultStart, f_resultEnd, f_resultNotes, a_tokenKind, a_tokenValue, a_text, a_pieceKind, a_pieceValue, a_pieceNext, a_pieceSecond, a_levelGroup, a_levelStart, a_levelEntry, a_branchStart, a_branchEntry, a_placesSeen, a_choicePiece, a_choicePlace, a_choiceNotes⟩ := u
  obtain ⟨g_count, g_place, g_end, g_size, g_large, g_ready, g_depth, g_groups, g_atom, g_atomSize, g_length, g_found, b_kind, b_value, b_op, b_with, b_one, b_two, b_copyOp, b_copyWith, b_copyOne, b_copyTwo, b_opened, b_branch, b_sizes, b_jumps, b_groupOf, b_text, b_met, b_todo, b_notes⟩ := v
  have I0 := I
  obtain ⟨c, n, hc, rfl, rfl, rfl, htok, rfl, hn, rfl, rfl, rfl, rfl, hpat, rfl, hres, hB1, hB2, hS1, hS2⟩ := I
  by_cases h0 : v1 < 0
  · exact br_t h0 (br_t h0 ⟨rfl, I0⟩)
  · by_cases h3 : 3 < v1
    · exact br_f h0 (br_t h3 (br_f h0 (br_t h3 ⟨rfl, I0⟩)))
    · obtain ⟨j, hj, rfl⟩ := nI_of h0
      have hj3 : j ≤ 3 := by
        rw [show (3 : Int32) = nI 3 from rfl, nI_ltI (by omega) hj] at h3; omega
      by_cases h32 : n = 32
      · subst h32
        exact br_f h0 (br_f h3 (br_f (by decide) (br_f h0 (br_f h3 (br_t rfl ⟨rfl, I0⟩)))))
      · have n32 : ¬ nI n = 32 := fun h => h32 ((nI_eq (b := 32) (by omega) (by omega)).mp h)
        have hv : vp_in (nI n) 32 := vp_in_nI (by omega) (by omega)
        have en : (nI n).toNatClampNeg = n := nI_clamp (by omega)
        refine br_f h0 (br_f h3 (br_t (nI_lt (b := 32) (by omega) (by omega)) ⟨hv, nm_r (by rw [en]) (nm_r (nI_1 n) (br_f h0 (br_f h3 (br_f n32 (nm_r (nI_1 n) ⟨hv, nm_r (by rw [en, ym_nb (by omega)]) ⟨rfl, ?_⟩⟩)))))⟩))
        exact ⟨c, n + 1, hc, rfl, rfl, rfl, htok, rfl, by omega, rfl, rfl, rfl, rfl, hpat, rfl, hres, hB1, hB2, hS1, hS2⟩
theorem i_vc_cut {k : Nat} {u : SX} {v : SY} (I : i_Rel k u v) (hk : k + 3 ≤ 1536) (v1 : Int32) : wpX_cut (fun r u' => wpY_cut (fun r' v' => r' = r ∧ i_Rel (k + 3) u' v') v v1) u v1 := by
  obtain ⟨f_tokens, f_faultPlace, f_length, f_pieces, f_patternEntry, f_hasPattern, f_tooLarge, f_level, f_groups, f_atomStart, f_atomEntry, f_choices, f_wayPiece, f_wayPlace, f_wayNotes, f_hasResult, f_resultStart, f_resultEnd, f_resultNotes, a_tokenKind, a_tokenValue, a_text, a_pieceKind, a_pieceValue, a_pieceNext, a_pieceSecond, a_levelGroup, a_levelStart, a_levelEntry, a_branchStart, a_branchEntry, a_placesSeen, a_choicePiece, a_choicePlace, a_choiceNotes⟩ := u
  obtain ⟨g_count, g_place, g_end, g_size, g_large, g_ready, g_depth, g_groups, g_atom, g_atomSize, g_length, g_found, b_kind, b_value, b_op, b_with, b_one, b_two, b_copyOp, b_copyWith, b_copyOne, b_copyTwo, b_opened, b_branch, b_sizes, b_jumps, b_groupOf, b_text, b_met, b_todo, b_notes⟩ := v
  have I0 := I
  obtain ⟨c, n, hc, rfl, rfl, rfl, htok, rfl, hn, rfl, rfl, rfl, rfl, hpat, rfl, hres, hB1, hB2, hS1, hS2⟩ := I
  by_cases h1 : 1 ≤ v1
  · have h0 : ¬ v1 < 0 := fun h => absurd (Int32.lt_of_lt_of_le h (Int32.le_trans (by decide) h1)) (Int32.lt_irrefl)
    obtain ⟨j, hj, rfl⟩ := nI_of h0
    by_cases hnj : n ≤ j
    · have h := nI_le hnj hj
      refine br_t h1 (br_t h (nm_e (br_t h1 (br_t h (nm_e ⟨rfl, ?_⟩)))))
      have e : nI n - nI n = nI 0 := by rw [pk_sub (Nat.le_refl _), Nat.sub_self]
      exact ⟨c, 0, hc, rfl, rfl, rfl, htok, rfl, by omega, e, e, rfl, rfl, hpat, rfl, hres, hB1, hB2, hS1, hS2⟩
    · have h := nI_ge (show j < n by omega) (by omega)
      refine br_t h1 (br_f h (nm_e (br_t h1 (br_f h (nm_e ⟨rfl, ?_⟩)))))
      have e : nI n - nI j = nI (n - j) := pk_sub (by omega)
      exact ⟨c, n - j, hc, rfl, rfl, rfl, htok, rfl, by omega, e, e, rfl, rfl, hpat, rfl, hres, hB1, hB2, hS1, hS2⟩
  · refine br_f h1 (br_f h1 (nm_r (show nI n - 0 = nI n from Int32.sub_zero _) ⟨rfl, I0⟩))
theorem gr_nn : ∀ g, 1 ≤ g → g ≤ 3 → (2 * (nI g - 1) + 0 = nI (2 * (g - 1)) ∧ 2 * (nI g - 1) + 1 = nI (2 * (g - 1) + 1) ∧ 2 * nI g = nI (2 * (g - 1) + 2) ∧ 2 * nI g + 1 = nI (2 * (g - 1) + 1 + 2)) := by
  intro g h1 h3
  have : g = 1 ∨ g = 2 ∨ g = 3 := by omega
  rcases this with h | h | h <;> subst h <;> decide
theorem i_vc_group {k : Nat} {u : SX} {v : SY} (I : i_Rel k u v) (hk : k + 3 ≤ 1536) (v1 : Int32) (v2 : Int32) : wpX_group (fun r => wpY_group (fun r' => r' = r ∧ i_Rel (k + 3) u v) v v1 (lw_bz v2)) u v1 (lw_bz v2) := by
  obtain ⟨f_tokens, f_faultPlace, f_length, f_pieces, f_patternEntry, f_hasPattern, f_tooLarge, f_level, f_groups, f_atomStart, f_atomEntry, f_choices, f_wayPiece, f_wayPlace, f_wayNotes, f_hasResult, f_resultStart, f_resultEnd, f_resultNotes, a_tokenKind, a_tokenValue, a_text, a_pieceKind, a_pieceValue, a_pieceNext, a_pieceSecond, a_levelGroup, a_levelStart, a_levelEntry, a_branchStart, a_branchEntry, a_placesSeen, a_choicePiece, a_choicePlace, a_choiceNotes⟩ := u
  obtain ⟨g_count, g_place, g_end, g_size, g_large, g_ready, g_depth, g_groups, g_atom, g_atomSize, g_length, g_found, b_kind, b_value, b_op, b_with, b_one, b_two, b_copyOp, b_copyWith, b_copyOne, b_copyTwo, b_opened, b_branch, b_sizes, b_jumps, b_groupOf, b_text, b_met, b_todo, b_notes⟩ := v
  have I0 := I
  obtain ⟨c, n, hc, rfl, rfl, rfl, htok, rfl, hn, rfl, rfl, rfl, rfl, hpat, rfl, hres, hB1, hB2, hS1, hS2⟩ := I
  rcases hres with rfl | ⟨rfl, s, a, w, hsa, ha, rfl, rfl, hn0, hn1, hNX, hNO⟩
  · exact br_t rfl (br_t rfl ⟨rfl, I0⟩)
  · have h10 : ¬ (1 : Int32) = 0 := by decide
    by_cases h0 : v1 < 0
    · exact br_f h10 (br_t h0 (br_f h10 (br_t h0 ⟨rfl, I0⟩)))
    · by_cases h3 : v1 ≤ 3
      · obtain ⟨g, hg, rfl⟩ := nI_of h0
        have hg3 : g ≤ 3 := by
          rw [show (3 : Int32) = nI 3 from rfl, nI_leI hg (by omega)] at h3; omega
        by_cases hg0 : g = 0
        · subst hg0
          refine br_f h10 (br_f h0 (br_t h3 (br_t rfl (br_c (fun hz => ?_) (fun hz => ?_)))))
          · refine br_f h10 (br_f h0 (br_t h3 (br_t hz ⟨vp_in_iff.mpr (by decide), ?_, I0⟩)))
            exact hn0
          · refine br_f h10 (br_f h0 (br_t h3 (br_f hz ⟨vp_in_iff.mpr (by decide), ?_, I0⟩)))
            exact hn1
        · obtain ⟨e1, e2, e3, e4⟩ := gr_nn g (by omega) hg3
          have ng : ¬ nI g = 0 := nI_ne0 (by omega) (by omega)
          refine br_f h10 (br_f h0 (br_t h3 (br_f ng (br_c (fun hz => ?_) (fun hz => ?_)))))
          · have hv := (hNO (2 * (g - 1)) (by omega))
            rw [e1]
            refine nm_r (show 6 * nI (2 * (g - 1)) = nI (6 * (2 * (g - 1))) from pk_mul 6 _) (br_f h10 (br_f h0 (br_t h3 (br_t hz ?_))))
            rw [e3, mm_get hNX (by omega) hv.2, nI_clamp (by omega)]
            exact ⟨vp_in_nI (by omega) (by omega), hv.1, I0⟩
          · have hv := (hNO (2 * (g - 1) + 1) (by omega))
            rw [e2]
            refine nm_r (show 6 * nI (2 * (g - 1) + 1) = nI (6 * (2 * (g - 1) + 1)) from pk_mul 6 _) (br_f h10 (br_f h0 (br_t h3 (br_f hz ?_))))
            rw [e4, mm_get hNX (by omega) hv.2, nI_clamp (by omega)]
            exact ⟨vp_in_nI (by omega) (by omega), hv.1, I0⟩
      · exact br_f h10 (br_f h0 (br_f h3 (br_f h10 (br_f h0 (br_f h3 ⟨rfl, I0⟩)))))
end EZ
end
section
section FD
variable {f_tokens f_faultPlace f_length f_pieces f_patternEntry f_hasPattern f_tooLarge f_level f_groups f_atomStart f_atomEntry f_choices f_wayPiece f_wayPlace : Int32} {f_wayNotes : Int64} {f_hasResult f_resultStart f_resultEnd : Int32} {f_resultNotes : Int64} {a_tokenKind a_tokenValue a_text a_pieceKind a_pieceValue a_pieceNext a_pieceSecond a_levelGroup a_levelStart a_levelEntry a_branchStart a_branchEntry : Nat → Int32} {a_placesSeen : Nat → Int64} {a_choicePiece a_choicePlace : Nat → Int32} {a_choiceNotes : Nat → Int64}
variable {g_count g_place g_end g_size g_large g_ready g_depth g_groups g_atom g_atomSize g_length g_found : Int32} {b_kind b_value b_op b_with b_one b_two b_copyOp b_copyWith b_copyOne b_copyTwo b_opened b_branch b_sizes b_jumps b_groupOf b_text : Nat → Int32} {b_met : Nat → Int64} {b_todo b_notes : Nat → Int32}
/-- the two outcomes of a search, apart -/
theorem fd_m {P E n s0 : Nat} (x2 : Int32) (hF : fg_F (fg_q b_op b_with b_one b_two) (fg_q a_pieceKind a_pieceValue a_pieceNext a_pieceSecond) 0 E 0 P f_patternEntry) (hE : E ≤ 72) (hP : P ≤ 36) (h6 : b_op E = 6) (hl : n ≤ 32) (hs : s0 ≤ n) :
    ((∀ (f_choices f_wayPiece f_wayPlace : Int32) (f_wayNotes : Int64) (a_placesSeen : Nat → Int64) (a_choicePiece a_choicePlace : Nat → Int32) (a_choiceNotes : Nat → Int64) (post : Int32 → SX → Prop), xm_P0 f_tokens f_faultPlace (nI n) (nI P) f_patternEntry f_hasPattern f_tooLarge f_level f_groups f_atomStart f_atomEntry f_choices f_wayPiece f_wayPlace f_wayNotes f_hasResult f_resultStart f_resultEnd f_resultNotes a_tokenKind a_tokenValue a_text a_pieceKind a_pieceValue a_pieceNext a_pieceSecond a_levelGroup a_levelStart a_levelEntry a_branchStart a_branchEntry a_placesSeen a_choicePiece a_choicePlace a_choiceNotes post → wpX_matchesFrom post (f_tokens, f_faultPlace, nI n, nI P, f_patternEntry, f_hasPattern, f_tooLarge, f_level, f_groups, f_atomStart, f_atomEntry, f_choices, f_wayPiece, f_wayPlace, f_wayNotes, f_hasResult, f_resultStart, f_resultEnd, f_resultNotes, a_tokenKind, a_tokenValue, a_text, a_pieceKind, a_pieceValue, a_pieceNext, a_pieceSecond, a_levelGroup, a_levelStart, a_levelEntry, a_branchStart, a_branchEntry, a_placesSeen, a_choicePiece, a_choicePlace, a_choiceNotes) (nI s0) x2) ∧
      (∀ (b_met : Nat → Int64) (b_todo b_notes : Nat → Int32) (post : Int32 → SY → Prop), ym_P0 g_count g_place (nI (E + 1)) g_size g_large g_ready g_depth g_groups g_atom g_atomSize (nI n) g_found b_kind b_value b_op b_with b_one b_two b_copyOp b_copyWith b_copyOne b_copyTwo b_opened b_branch b_sizes b_jumps b_groupOf a_text b_met b_todo b_notes post → wpY_search post (g_count, g_place, nI (E + 1), g_size, g_large, g_ready, g_depth, g_groups, g_atom, g_atomSize, nI n, g_found, b_kind, b_value, b_op, b_with, b_one, b_two, b_copyOp, b_copyWith, b_copyOne, b_copyTwo, b_opened, b_branch, b_sizes, b_jumps, b_groupOf, a_text, b_met, b_todo, b_notes) (nI s0) x2)) ∨
    (∃ (a : Nat) (w : Int64) (no : Nat → Int32) (v : Nat → Nat), s0 ≤ a ∧ a ≤ n ∧ mm_NX w v ∧ mt_NO no v ∧ no 0 = nI s0 ∧
      (∀ (f_choices f_wayPiece f_wayPlace : Int32) (f_wayNotes : Int64) (a_placesSeen : Nat → Int64) (a_choicePiece a_choicePlace : Nat → Int32) (a_choiceNotes : Nat → Int64) (post : Int32 → SX → Prop), xm_P1 f_tokens f_faultPlace (nI n) (nI P) f_patternEntry f_hasPattern f_tooLarge f_level f_groups f_atomStart f_atomEntry f_choices f_wayPiece f_wayPlace f_wayNotes f_hasResult f_resultStart f_resultEnd f_resultNotes a_tokenKind a_tokenValue a_text a_pieceKind a_pieceValue a_pieceNext a_pieceSecond a_levelGroup a_levelStart a_levelEntry a_branchStart a_branchEntry a_placesSeen a_choicePiece a_choicePlace a_choiceNotes post (nI s0) a w → wpX_matchesFrom post (f_tokens, f_faultPlace, nI n, nI P, f_patternEntry, f_hasPattern, f_tooLarge, f_level, f_groups, f_atomStart, f_atomEntry, f_choices, f_wayPiece, f_wayPlace, f_wayNotes, f_hasResult, f_resultStart, f_resultEnd, f_resultNotes, a_tokenKind, a_tokenValue, a_text, a_pieceKind, a_pieceValue, a_pieceNext, a_pieceSecond, a_levelGroup, a_levelStart, a_levelEntry, a_branchStart, a_branchEntry, a_placesSeen, a_choicePiece, a_choicePlace, a_choiceNotes) (nI s0) x2) ∧
      (∀ (b_met : Nat → Int64) (b_todo b_notes : Nat → Int32) (post : Int32 → SY → Prop), ym_P1 g_count g_place (nI (E + 1)) g_size g_large g_ready g_depth g_groups g_atom g_atomSize (nI n) g_found b_kind b_value b_op b_with b_one b_two b_copyOp b_copyWith b_copyOne b_copyTwo b_opened b_branch b_sizes b_jumps b_groupOf a_text b_met b_todo b_notes post a no → wpY_search post (g_count, g_place, nI (E + 1), g_size, g_large, g_ready, g_depth, g_groups, g_atom, g_atomSize, nI n, g_found, b_kind, b_value, b_op, b_with, b_one, b_two, b_copyOp, b_copyWith, b_copyOne, b_copyTwo, b_opened, b_branch, b_sizes, b_jumps, b_groupOf, a_text, b_met, b_todo, b_notes) (nI s0) x2)) := by
  obtain ⟨oX, oY, o1, o2, o3⟩ := mm_match (f_tokens := f_tokens) (f_faultPlace := f_faultPlace) (f_hasPattern := f_hasPattern) (f_tooLarge := f_tooLarge) (f_level := f_level) (f_groups := f_groups) (f_atomStart := f_atomStart) (f_atomEntry := f_atomEntry) (f_hasResult := f_hasResult) (f_resultStart := f_resultStart) (f_resultEnd := f_resultEnd) (f_resultNotes := f_resultNotes) (a_tokenKind := a_tokenKind) (a_tokenValue := a_tokenValue) (a_text := a_text) (a_levelGroup := a_levelGroup) (a_levelStart := a_levelStart) (a_levelEntry := a_levelEntry) (a_branchStart := a_branchStart) (a_branchEntry := a_branchEntry) (g_count := g_count) (g_place := g_place) (g_size := g_size) (g_large := g_large) (g_ready := g_ready) (g_depth := g_depth) (g_groups := g_groups) (g_atom := g_atom) (g_atomSize := g_atomSize) (g_found := g_found) (b_kind := b_kind) (b_value := b_value) (b_copyOp := b_copyOp) (b_copyWith := b_copyWith) (b_copyOne := b_copyOne) (b_copyTwo := b_copyTwo) (b_opened := b_opened) (b_branch := b_branch) (b_sizes := b_sizes) (b_jumps := b_jumps) (b_groupOf := b_groupOf) (x2 := x2) hF hE hP h6 hl hs
  rcases o1 with ⟨e1, e2⟩ | ⟨a, w, no, v, e1, e2, q1, q2, q3, q4, q5⟩
  · refine Or.inl ⟨fun c q l w ps cp cl cn post h => o2 c q l w ps cp cl cn post (fun _ => h) (fun a w h' => by rw [e1] at h'; cases h'), fun met todo no post h => o3 met todo no post (fun _ => h) (fun a w h' => by rw [e2] at h'; cases h')⟩
  · refine Or.inr ⟨a, w, no, v, q1, q2, q3, q4, q5, fun c q l w' ps cp cl cn post h => o2 c q l w' ps cp cl cn post (fun h' => by rw [e1] at h'; cases h') (fun a' w'' h' => ?_), fun met todo no' post h => o3 met todo no' post (fun h' => by rw [e2] at h'; cases h') (fun a' no'' h' => ?_)⟩
    · rw [e1] at h'
      injection h' with h'
      injection h' with h1 h2
      subst h1 h2
      exact h
    · rw [e2] at h'
      injection h' with h'
      injection h' with h1 h2
      subst h1 h2
      exact h
theorem fd_nb0 : narrow .boolean (.int (0 : Int32)) = .int 0 := rfl
theorem fd_nb1 : narrow .boolean (.int (1 : Int32)) = .int 1 := rfl
theorem fd_fb0 : fits .boolean (.int (0 : Int32)) = true := by first | rfl | decide
theorem fd_fb1 : fits .boolean (.int (1 : Int32)) = true := by first | rfl | decide
/-- find's loop -/
theorem fd_loop {P E n : Nat} (hF : fg_F (fg_q b_op b_with b_one b_two) (fg_q a_pieceKind a_pieceValue a_pieceNext a_pieceSecond) 0 E 0 P f_patternEntry) (hE : E ≤ 72) (hP : P ≤ 36) (h6 : b_op E = 6) (hl : n ≤ 32) : ∀ (d s : Nat), s + d = n + 1 →
    ((∀ (f_choices f_wayPiece f_wayPlace : Int32) (f_wayNotes : Int64) (a_placesSeen : Nat → Int64) (a_choicePiece a_choicePlace : Nat → Int32) (a_choiceNotes : Nat → Int64) (post : Int32 → SX → Prop), xm_P0 f_tokens f_faultPlace (nI n) (nI P) f_patternEntry f_hasPattern f_tooLarge f_level f_groups f_atomStart f_atomEntry f_choices f_wayPiece f_wayPlace f_wayNotes 0 f_resultStart f_resultEnd f_resultNotes a_tokenKind a_tokenValue a_text a_pieceKind a_pieceValue a_pieceNext a_pieceSecond a_levelGroup a_levelStart a_levelEntry a_branchStart a_branchEntry a_placesSeen a_choicePiece a_choicePlace a_choiceNotes post → wX_find_20 post (d + 2) (nI s) f_tokens f_faultPlace (nI n) (nI P) f_patternEntry f_hasPattern f_tooLarge f_level f_groups f_atomStart f_atomEntry f_choices f_wayPiece f_wayPlace f_wayNotes 0 f_resultStart f_resultEnd f_resultNotes a_tokenKind a_tokenValue a_text a_pieceKind a_pieceValue a_pieceNext a_pieceSecond a_levelGroup a_levelStart a_levelEntry a_branchStart a_branchEntry a_placesSeen a_choicePiece a_choicePlace a_choiceNotes) ∧
      (∀ (b_met : Nat → Int64) (b_todo b_notes : Nat → Int32) (post : Int32 → SY → Prop), ym_P0 g_count g_place (nI (E + 1)) g_size g_large g_ready g_depth g_groups g_atom g_atomSize (nI n) 0 b_kind b_value b_op b_with b_one b_two b_copyOp b_copyWith b_copyOne b_copyTwo b_opened b_branch b_sizes b_jumps b_groupOf a_text b_met b_todo b_notes post → wY_find_28 post (d + 2) (nI s) g_count g_place (nI (E + 1)) g_size g_large g_ready g_depth g_groups g_atom g_atomSize (nI n) 0 b_kind b_value b_op b_with b_one b_two b_copyOp b_copyWith b_copyOne b_copyTwo b_opened b_branch b_sizes b_jumps b_groupOf a_text b_met b_todo b_notes)) ∨
    (∃ (s1 a : Nat) (w : Int64) (no : Nat → Int32) (v : Nat → Nat), s ≤ s1 ∧ s1 ≤ a ∧ a ≤ n ∧ mm_NX w v ∧ mt_NO no v ∧ no 0 = nI s1 ∧
      (∀ (f_choices f_wayPiece f_wayPlace : Int32) (f_wayNotes : Int64) (a_placesSeen : Nat → Int64) (a_choicePiece a_choicePlace : Nat → Int32) (a_choiceNotes : Nat → Int64) (post : Int32 → SX → Prop), xm_P1 f_tokens f_faultPlace (nI n) (nI P) f_patternEntry f_hasPattern f_tooLarge f_level f_groups f_atomStart f_atomEntry f_choices f_wayPiece f_wayPlace f_wayNotes 0 f_resultStart f_resultEnd f_resultNotes a_tokenKind a_tokenValue a_text a_pieceKind a_pieceValue a_pieceNext a_pieceSecond a_levelGroup a_levelStart a_levelEntry a_branchStart a_branchEntry a_placesSeen a_choicePiece a_choicePlace a_choiceNotes post (nI s1) a w → wX_find_20 post (d + 2) (nI s) f_tokens f_faultPlace (nI n) (nI P) f_patternEntry f_hasPattern f_tooLarge f_level f_groups f_atomStart f_atomEntry f_choices f_wayPiece f_wayPlace f_wayNotes 0 f_resultStart f_resultEnd f_resultNotes a_tokenKind a_tokenValue a_text a_pieceKind a_pieceValue a_pieceNext a_pieceSecond a_levelGroup a_levelStart a_levelEntry a_branchStart a_branchEntry a_placesSeen a_choicePiece a_choicePlace a_choiceNotes) ∧
      (∀ (b_met : Nat → Int64) (b_todo b_notes : Nat → Int32) (post : Int32 → SY → Prop), ym_P1 g_count g_place (nI (E + 1)) g_size g_large g_ready g_depth g_groups g_atom g_atomSize (nI n) 1 b_kind b_value b_op b_with b_one b_two b_copyOp b_copyWith b_copyOne b_copyTwo b_opened b_branch b_sizes b_jumps b_groupOf a_text b_met b_todo b_notes post a no → wY_find_28 post (d + 2) (nI s) g_count g_place (nI (E + 1)) g_size g_large g_ready g_depth g_groups g_atom g_atomSize (nI n) 0 b_kind b_value b_op b_with b_one b_two b_copyOp b_copyWith b_copyOne b_copyTwo b_opened b_branch b_sizes b_jumps b_groupOf a_text b_met b_todo b_notes)) := by
  intro d
  induction d with
  | zero =>
    intro s hs
    have h : nI n < nI s := nI_lt (by omega) (by omega)
    exact Or.inl ⟨fun c q l w ps cp cl cn post hp => br_t h (hp c q l w ps cp cl cn), fun met todo no post hp => br_t h ⟨rfl, hp met todo no⟩⟩
  | succ d ih =>
    intro s hs
    have h : ¬ nI n < nI s := nI_nlt (by omega) (by omega)
    rcases fd_m (f_tokens := f_tokens) (f_faultPlace := f_faultPlace) (f_hasPattern := f_hasPattern) (f_tooLarge := f_tooLarge) (f_level := f_level) (f_groups := f_groups) (f_atomStart := f_atomStart) (f_atomEntry := f_atomEntry) (f_hasResult := 0) (f_resultStart := f_resultStart) (f_resultEnd := f_resultEnd) (f_resultNotes := f_resultNotes) (a_tokenKind := a_tokenKind) (a_tokenValue := a_tokenValue) (a_text := a_text) (a_levelGroup := a_levelGroup) (a_levelStart := a_levelStart) (a_levelEntry := a_levelEntry) (a_branchStart := a_branchStart) (a_branchEntry := a_branchEntry) (g_count := g_count) (g_place := g_place) (g_size := g_size) (g_large := g_large) (g_ready := g_ready) (g_depth := g_depth) (g_groups := g_groups) (g_atom := g_atom) (g_atomSize := g_atomSize) (g_found := 0) (b_kind := b_kind) (b_value := b_value) (b_copyOp := b_copyOp) (b_copyWith := b_copyWith) (b_copyOne := b_copyOne) (b_copyTwo := b_copyTwo) (b_opened := b_opened) (b_branch := b_branch) (b_sizes := b_sizes) (b_jumps := b_jumps) (b_groupOf := b_groupOf) 0 hF hE hP h6 hl (show s ≤ n by omega) with ⟨mX, mY⟩ | ⟨a, w, no, v, q1, q2, q3, q4, q5, mX, mY⟩
    · rcases ih (s + 1) (by omega) with ⟨iX, iY⟩ | ⟨s1, a, w, no, v, q1, q2, q3, q4, q5, q6, iX, iY⟩
      · refine Or.inl ⟨fun c q l w ps cp cl cn post hp => br_f h ?_, fun met todo no post hp => br_f h (br_t rfl ?_)⟩
        · refine mX c q l w ps cp cl cn _ (fun c q l w ps cp cl cn => ?_)
          exact br_t rfl (nm_r (nI_1 s) (iX c q l w ps cp cl cn post hp))
        · refine mY met todo no _ (fun met todo no => ?_)
          exact ⟨fd_nb0, fd_fb0, nm_r (nI_1 s) (iY met todo no post hp)⟩
      · refine Or.inr ⟨s1, a, w, no, v, by omega, q2, q3, q4, q5, q6, fun c q l w ps cp cl cn post hp => br_f h ?_, fun met todo no post hp => br_f h (br_t rfl ?_)⟩
        · refine mX c q l w ps cp cl cn _ (fun c q l w ps cp cl cn => ?_)
          exact br_t rfl (nm_r (nI_1 s) (iX c q l w ps cp cl cn post hp))
        · refine mY met todo no _ (fun met todo no => ?_)
          exact ⟨fd_nb0, fd_fb0, nm_r (nI_1 s) (iY met todo no post hp)⟩
    · refine Or.inr ⟨s, a, w, no, v, Nat.le_refl _, q1, q2, q3, q4, q5, fun c q l w ps cp cl cn post hp => br_f h ?_, fun met todo no post hp => br_f h (br_t rfl ?_)⟩
      · refine mX c q l w ps cp cl cn _ (fun c q l w ps cp cl cn => ?_)
        exact br_f (by decide) (hp c q l w ps cp cl cn)
      · refine mY met todo no _ (fun met todo no hno => ?_)
        refine ⟨fd_nb1, fd_fb1, nm_r (nI_1 s) ?_⟩
        by_cases e : n < s + 1
        · exact br_t (nI_lt e (by omega)) ⟨fd_nb1, hp met todo no hno⟩
        · exact br_f (nI_nlt (by omega) (by omega)) (br_f (by decide) ⟨fd_nb1, hp met todo no hno⟩)
end FD
end
section
section FE
variable {f_tokens f_faultPlace f_length f_pieces f_patternEntry f_hasPattern f_tooLarge f_level f_groups f_atomStart f_atomEntry f_choices f_wayPiece f_wayPlace : Int32} {f_wayNotes : Int64} {f_hasResult f_resultStart f_resultEnd : Int32} {f_resultNotes : Int64} {a_tokenKind a_tokenValue a_text a_pieceKind a_pieceValue a_pieceNext a_pieceSecond a_levelGroup a_levelStart a_levelEntry a_branchStart a_branchEntry : Nat → Int32} {a_placesSeen : Nat → Int64} {a_choicePiece a_choicePlace : Nat → Int32} {a_choiceNotes : Nat → Int64}
variable {g_count g_place g_end g_size g_large g_ready g_depth g_groups g_atom g_atomSize g_length g_found : Int32} {b_kind b_value b_op b_with b_one b_two b_copyOp b_copyWith b_copyOne b_copyTwo b_opened b_branch b_sizes b_jumps b_groupOf b_text : Nat → Int32} {b_met : Nat → Int64} {b_todo b_notes : Nat → Int32}
def fd_pat (hp pc pe ge : Int32) (K V N S O W F G : Nat → Int32) : Prop := hp = 0 ∨ (hp = 1 ∧ ∃ P E : Nat, P ≤ 36 ∧ E ≤ 72 ∧ pc = nI P ∧ ge = nI (E + 1) ∧ O E = 6 ∧ fg_F (fg_q O W F G) (fg_q K V N S) 0 E 0 P pe)
theorem fd_find {n : Nat} (v1 : Int32) (hl : n ≤ 32) (hpat : fd_pat f_hasPattern f_pieces f_patternEntry g_end a_pieceKind a_pieceValue a_pieceNext a_pieceSecond b_op b_with b_one b_two) :
    ((∀ (f_choices f_wayPiece f_wayPlace : Int32) (f_wayNotes : Int64) (a_placesSeen : Nat → Int64) (a_choicePiece a_choicePlace : Nat → Int32) (a_choiceNotes : Nat → Int64) (post : Int32 → SX → Prop), xm_P0 f_tokens f_faultPlace (nI n) f_pieces f_patternEntry f_hasPattern f_tooLarge f_level f_groups f_atomStart f_atomEntry f_choices f_wayPiece f_wayPlace f_wayNotes 0 f_resultStart f_resultEnd f_resultNotes a_tokenKind a_tokenValue a_text a_pieceKind a_pieceValue a_pieceNext a_pieceSecond a_levelGroup a_levelStart a_levelEntry a_branchStart a_branchEntry a_placesSeen a_choicePiece a_choicePlace a_choiceNotes post → wpX_find post (f_tokens, f_faultPlace, nI n, f_pieces, f_patternEntry, f_hasPattern, f_tooLarge, f_level, f_groups, f_atomStart, f_atomEntry, f_choices, f_wayPiece, f_wayPlace, f_wayNotes, f_hasResult, f_resultStart, f_resultEnd, f_resultNotes, a_tokenKind, a_tokenValue, a_text, a_pieceKind, a_pieceValue, a_pieceNext, a_pieceSecond, a_levelGroup, a_levelStart, a_levelEntry, a_branchStart, a_branchEntry, a_placesSeen, a_choicePiece, a_choicePlace, a_choiceNotes) v1) ∧
      (∀ (b_met : Nat → Int64) (b_todo b_notes : Nat → Int32) (post : Int32 → SY → Prop), ym_P0 g_count g_place g_end g_size g_large f_hasPattern g_depth g_groups g_atom g_atomSize (nI n) 0 b_kind b_value b_op b_with b_one b_two b_copyOp b_copyWith b_copyOne b_copyTwo b_opened b_branch b_sizes b_jumps b_groupOf a_text b_met b_todo b_notes post → wpY_find post (g_count, g_place, g_end, g_size, g_large, f_hasPattern, g_depth, g_groups, g_atom, g_atomSize, nI n, g_found, b_kind, b_value, b_op, b_with, b_one, b_two, b_copyOp, b_copyWith, b_copyOne, b_copyTwo, b_opened, b_branch, b_sizes, b_jumps, b_groupOf, a_text, b_met, b_todo, b_notes) v1)) ∨
    (∃ (fr s1 a : Nat) (w : Int64) (no : Nat → Int32) (v : Nat → Nat), v1 = nI fr ∧ fr ≤ s1 ∧ s1 ≤ a ∧ a ≤ n ∧ mm_NX w v ∧ mt_NO no v ∧ no 0 = nI s1 ∧
      (∀ (f_choices f_wayPiece f_wayPlace : Int32) (f_wayNotes : Int64) (a_placesSeen : Nat → Int64) (a_choicePiece a_choicePlace : Nat → Int32) (a_choiceNotes : Nat → Int64) (post : Int32 → SX → Prop), xm_P1 f_tokens f_faultPlace (nI n) f_pieces f_patternEntry f_hasPattern f_tooLarge f_level f_groups f_atomStart f_atomEntry f_choices f_wayPiece f_wayPlace f_wayNotes 0 f_resultStart f_resultEnd f_resultNotes a_tokenKind a_tokenValue a_text a_pieceKind a_pieceValue a_pieceNext a_pieceSecond a_levelGroup a_levelStart a_levelEntry a_branchStart a_branchEntry a_placesSeen a_choicePiece a_choicePlace a_choiceNotes post (nI s1) a w → wpX_find post (f_tokens, f_faultPlace, nI n, f_pieces, f_patternEntry, f_hasPattern, f_tooLarge, f_level, f_groups, f_atomStart, f_atomEntry, f_choices, f_wayPiece, f_wayPlace, f_wayNotes, f_hasResult, f_resultStart, f_resultEnd, f_resultNotes, a_tokenKind, a_tokenValue, a_text, a_pieceKind, a_pieceValue, a_pieceNext, a_pieceSecond, a_levelGroup, a_levelStart, a_levelEntry, a_branchStart, a_branchEntry, a_placesSeen, a_choicePiece, a_choicePlace, a_choiceNotes) v1) ∧
      (∀ (b_met : Nat → Int64) (b_todo b_notes : Nat → Int32) (post : Int32 → SY → Prop), ym_P1 g_count g_place g_end g_size g_large f_hasPattern g_depth g_groups g_atom g_atomSize (nI n) 1 b_kind b_value b_op b_with b_one b_two b_copyOp b_copyWith b_copyOne b_copyTwo b_opened b_branch b_sizes b_jumps b_groupOf a_text b_met b_todo b_notes post a no → wpY_find post (g_count, g_place, g_end, g_size, g_large, f_hasPattern, g_depth, g_groups, g_atom, g_atomSize, nI n, g_found, b_kind, b_value, b_op, b_with, b_one, b_two, b_copyOp, b_copyWith, b_copyOne, b_copyTwo, b_opened, b_branch, b_sizes, b_jumps, b_groupOf, a_text, b_met, b_todo, b_notes) v1)) := by
  have h10 : ¬ (1 : Int32) = 0 := by decide
  rcases hpat with rfl | ⟨rfl, P, E, hP, hE, rfl, rfl, h6, hF⟩
  · exact Or.inl ⟨fun c q l w ps cp cl cn post hp => br_t rfl (hp c q l w ps cp cl cn), fun met todo no post hp => br_t rfl (hp met todo no)⟩
  · by_cases h0 : v1 < 0
    · exact Or.inl ⟨fun c q l w ps cp cl cn post hp => br_f h10 (br_f (Int32.not_le.mpr h0) (hp c q l w ps cp cl cn)), fun met todo no post hp => br_f h10 (br_t h0 (hp met todo no))⟩
    · have h0' : 0 ≤ v1 := Int32.not_lt.mp h0
      obtain ⟨fr, hfr, rfl⟩ := nI_of h0
      by_cases hn : fr ≤ n
      · have hle : nI fr ≤ nI n := nI_le hn (by omega)
        rcases fd_loop (f_tokens := f_tokens) (f_faultPlace := f_faultPlace) (f_hasPattern := 1) (f_tooLarge := f_tooLarge) (f_level := f_level) (f_groups := f_groups) (f_atomStart := f_atomStart) (f_atomEntry := f_atomEntry) (f_resultStart := f_resultStart) (f_resultEnd := f_resultEnd) (f_resultNotes := f_resultNotes) (a_tokenKind := a_tokenKind) (a_tokenValue := a_tokenValue) (a_text := a_text) (a_levelGroup := a_levelGroup) (a_levelStart := a_levelStart) (a_levelEntry := a_levelEntry) (a_branchStart := a_branchStart) (a_branchEntry := a_branchEntry) (g_count := g_count) (g_place := g_place) (g_size := g_size) (g_large := g_large) (g_ready := 1) (g_depth := g_depth) (g_groups := g_groups) (g_atom := g_atom) (g_atomSize := g_atomSize) (b_kind := b_kind) (b_value := b_value) (b_copyOp := b_copyOp) (b_copyWith := b_copyWith) (b_copyOne := b_copyOne) (b_copyTwo := b_copyTwo) (b_opened := b_opened) (b_branch := b_branch) (b_sizes := b_sizes) (b_jumps := b_jumps) (b_groupOf := b_groupOf) hF hE hP h6 hl (n + 1 - fr) fr (by omega) with ⟨iX, iY⟩ | ⟨s1, a, w, no, v, q1, q2, q3, q4, q5, q6, iX, iY⟩
        · exact Or.inl ⟨fun c q l w ps cp cl cn post hp => br_f h10 (br_t h0' ⟨_, iX c q l w ps cp cl cn post hp⟩), fun met todo no post hp => br_f h10 (br_f h0 (br_t hle ⟨_, iY met todo no post hp⟩))⟩
        · exact Or.inr ⟨fr, s1, a, w, no, v, rfl, q1, q2, q3, q4, q5, q6, fun c q l w ps cp cl cn post hp => br_f h10 (br_t h0' ⟨_, iX c q l w ps cp cl cn post hp⟩), fun met todo no post hp => br_f h10 (br_f h0 (br_t hle ⟨_, iY met todo no post hp⟩))⟩
      · have hlt : nI n < nI fr := nI_lt (by omega) hfr
        exact Or.inl ⟨fun c q l w ps cp cl cn post hp => br_f h10 (br_t h0' ⟨1, br_t hlt (hp c q l w ps cp cl cn)⟩), fun met todo no post hp => br_f h10 (br_f h0 (br_f (nI_ge (by omega) hfr) (hp met todo no)))⟩
/-- count's loop -/
theorem fd_count {n : Nat} (hl : n ≤ 32) (hpat : fd_pat f_hasPattern f_pieces f_patternEntry g_end a_pieceKind a_pieceValue a_pieceNext a_pieceSecond b_op b_with b_one b_two) : ∀ (d fr t cnt : Nat) (hr rs re : Int32) (rn : Int64) (fo : Int32), 34 ≤ fr + d → fr ≤ 34 → t ≤ fr → 
    ∃ r : Int32, (∀ (f_choices f_wayPiece f_wayPlace : Int32) (f_wayNotes : Int64) (a_placesSeen : Nat → Int64) (a_choicePiece a_choicePlace : Nat → Int32) (a_choiceNotes : Nat → Int64) (post : Int32 → SX → Prop),
        (∀ (f_resultStart f_resultEnd : Int32) (f_resultNotes : Int64) (f_choices f_wayPiece f_wayPlace : Int32) (f_wayNotes : Int64) (a_placesSeen : Nat → Int64) (a_choicePiece a_choicePlace : Nat → Int32) (a_choiceNotes : Nat → Int64), post r (f_tokens, f_faultPlace, nI n, f_pieces, f_patternEntry, f_hasPattern, f_tooLarge, f_level, f_groups, f_atomStart, f_atomEntry, f_choices, f_wayPiece, f_wayPlace, f_wayNotes, 0, f_resultStart, f_resultEnd, f_resultNotes, a_tokenKind, a_tokenValue, a_text, a_pieceKind, a_pieceValue, a_pieceNext, a_pieceSecond, a_levelGroup, a_levelStart, a_levelEntry, a_branchStart, a_branchEntry, a_placesSeen, a_choicePiece, a_choicePlace, a_choiceNotes)) → wX_count_6 post (d + 1) (nI cnt) (nI fr) (nI t) f_tokens f_faultPlace (nI n) f_pieces f_patternEntry f_hasPattern f_tooLarge f_level f_groups f_atomStart f_atomEntry f_choices f_wayPiece f_wayPlace f_wayNotes hr rs re rn a_tokenKind a_tokenValue a_text a_pieceKind a_pieceValue a_pieceNext a_pieceSecond a_levelGroup a_levelStart a_levelEntry a_branchStart a_branchEntry a_placesSeen a_choicePiece a_choicePlace a_choiceNotes) ∧
      (∀ (b_met : Nat → Int64) (b_todo b_notes : Nat → Int32) (post : Int32 → SY → Prop),
        (∀ (b_met : Nat → Int64) (b_todo b_notes : Nat → Int32), post r (g_count, g_place, g_end, g_size, g_large, f_hasPattern, g_depth, g_groups, g_atom, g_atomSize, nI n, 0, b_kind, b_value, b_op, b_with, b_one, b_two, b_copyOp, b_copyWith, b_copyOne, b_copyTwo, b_opened, b_branch, b_sizes, b_jumps, b_groupOf, a_text, b_met, b_todo, b_notes)) → wY_count_4 post (d + 1) (nI cnt) (nI fr) g_count g_place g_end g_size g_large f_hasPattern g_depth g_groups g_atom g_atomSize (nI n) fo b_kind b_value b_op b_with b_one b_two b_copyOp b_copyWith b_copyOne b_copyTwo b_opened b_branch b_sizes b_jumps b_groupOf a_text b_met b_todo b_notes) := by
  intro d
  induction d with
  | zero =>
    intro fr t cnt hr rs re rn fo hfr hfr2 ht
    rcases fd_find (f_tokens := f_tokens) (f_faultPlace := f_faultPlace) (f_tooLarge := f_tooLarge) (f_level := f_level) (f_groups := f_groups) (f_atomStart := f_atomStart) (f_atomEntry := f_atomEntry) (f_hasResult := hr) (f_resultStart := rs) (f_resultEnd := re) (f_resultNotes := rn) (a_tokenKind := a_tokenKind) (a_tokenValue := a_tokenValue) (a_text := a_text) (a_levelGroup := a_levelGroup) (a_levelStart := a_levelStart) (a_levelEntry := a_levelEntry) (a_branchStart := a_branchStart) (a_branchEntry := a_branchEntry) (g_count := g_count) (g_place := g_place) (g_size := g_size) (g_large := g_large) (g_depth := g_depth) (g_groups := g_groups) (g_atom := g_atom) (g_atomSize := g_atomSize) (g_found := fo) (b_kind := b_kind) (b_value := b_value) (b_copyOp := b_copyOp) (b_copyWith := b_copyWith) (b_copyOne := b_copyOne) (b_copyTwo := b_copyTwo) (b_opened := b_opened) (b_branch := b_branch) (b_sizes := b_sizes) (b_jumps := b_jumps) (b_groupOf := b_groupOf) (nI fr) hl hpat with ⟨iX, iY⟩ | ⟨fr', s1, a, w, no, v, q0, q1, q2, q3, _⟩
    · refine ⟨nI cnt, fun c q l w ps cp cl cn post hp => ?_, fun met todo no post hp => ?_⟩
      · by_cases e : 32 < t
        · exact br_t (nI_lt (a := 32) e (by omega)) (hp _ _ _ _ _ _ _ _ _ _ _)
        · refine br_f (nI_nlt (b := t) (a := 32) (by omega) (by omega)) ?_
          refine iX c q l w ps cp cl cn _ (fun c q l w ps cp cl cn => ?_)
          exact br_t rfl (hp _ _ _ _ _ _ _ _ _ _ _)
      · rw [wY_count_4]
        refine iY met todo no _ (fun met todo no => ?_)
        exact br_t rfl (hp _ _ _)
    · have : fr = fr' := fg_ij q0 (by omega) (by omega)
      omega
  | succ d ih =>
    intro fr t cnt hr rs re rn fo hfr hfr2 ht
    rcases fd_find (f_tokens := f_tokens) (f_faultPlace := f_faultPlace) (f_tooLarge := f_tooLarge) (f_level := f_level) (f_groups := f_groups) (f_atomStart := f_atomStart) (f_atomEntry := f_atomEntry) (f_hasResult := hr) (f_resultStart := rs) (f_resultEnd := re) (f_resultNotes := rn) (a_tokenKind := a_tokenKind) (a_tokenValue := a_tokenValue) (a_text := a_text) (a_levelGroup := a_levelGroup) (a_levelStart := a_levelStart) (a_levelEntry := a_levelEntry) (a_branchStart := a_branchStart) (a_branchEntry := a_branchEntry) (g_count := g_count) (g_place := g_place) (g_size := g_size) (g_large := g_large) (g_depth := g_depth) (g_groups := g_groups) (g_atom := g_atom) (g_atomSize := g_atomSize) (g_found := fo) (b_kind := b_kind) (b_value := b_value) (b_copyOp := b_copyOp) (b_copyWith := b_copyWith) (b_copyOne := b_copyOne) (b_copyTwo := b_copyTwo) (b_opened := b_opened) (b_branch := b_branch) (b_sizes := b_sizes) (b_jumps := b_jumps) (b_groupOf := b_groupOf) (nI fr) hl hpat with ⟨iX, iY⟩ | ⟨fr', s1, a, w, no, v, q0, q1, q2, q3, q4, q5, q6, iX, iY⟩
    · refine ⟨nI cnt, fun c q l w ps cp cl cn post hp => ?_, fun met todo no post hp => ?_⟩
      · by_cases e : 32 < t
        · exact br_t (nI_lt (a := 32) e (by omega)) (hp _ _ _ _ _ _ _ _ _ _ _)
        · refine br_f (nI_nlt (b := t) (a := 32) (by omega) (by omega)) ?_
          refine iX c q l w ps cp cl cn _ (fun c q l w ps cp cl cn => ?_)
          exact br_t rfl (hp _ _ _ _ _ _ _ _ _ _ _)
      · rw [wY_count_4]
        refine iY met todo no _ (fun met todo no => ?_)
        exact br_t rfl (hp _ _ _)
    · obtain rfl : fr = fr' := fg_ij q0 (by omega) (by omega)
      have h10 : ¬ (1 : Int32) = 0 := by decide
      have e32 : ¬ (32 : Int32) < nI t := nI_nlt (b := t) (a := 32) (by omega) (by omega)
      have nz : ∀ no' : Nat → Int32, (∀ j, j < 8 → no' j = no j) → upd no' 1 (nI a) 1 = nI a ∧ upd no' 1 (nI a) 0 = nI s1 := fun no' hno => ⟨if_pos rfl, (if_neg (by omega)).trans ((hno 0 (by omega)).trans q6)⟩
      by_cases ea : a ≤ s1
      · have hle : nI a ≤ nI s1 := nI_le ea (by omega)
        obtain ⟨r, rX, rY⟩ := ih (a + 1) (t + 1) (cnt + 1) 1 (nI s1) (nI a) w 1 (by omega) (by omega) (by omega)
        refine ⟨r, fun c q l w ps cp cl cn post hp => br_f e32 ?_, fun met todo no post hp => ?_⟩
        · refine iX c q l w ps cp cl cn _ (fun c q l w ps cp cl cn => ?_)
          exact br_f h10 (nm_r (nI_1 cnt) (br_t hle (nm_r (nI_1 a) (nm_r (nI_1 t) (rX c q l w ps cp cl cn post hp)))))
        · rw [wY_count_4]
          refine iY met todo no _ (fun met todo no hno => ?_)
          obtain ⟨z1, z2⟩ := nz no hno
          refine br_f h10 (nm_r (nI_1 cnt) ?_)
          rw [z1, z2]
          exact br_t hle (nm_r (nI_1 a) (rY met todo _ post hp))
      · have hle : ¬ nI a ≤ nI s1 := nI_ge (by omega) (by omega)
        obtain ⟨r, rX, rY⟩ := ih a (t + 1) (cnt + 1) 1 (nI s1) (nI a) w 1 (by omega) (by omega) (by omega)
        refine ⟨r, fun c q l w ps cp cl cn post hp => br_f e32 ?_, fun met todo no post hp => ?_⟩
        · refine iX c q l w ps cp cl cn _ (fun c q l w ps cp cl cn => ?_)
          exact br_f h10 (nm_r (nI_1 cnt) (br_f hle (nm_r (nI_1 t) (rX c q l w ps cp cl cn post hp))))
        · rw [wY_count_4]
          refine iY met todo no _ (fun met todo no hno => ?_)
          obtain ⟨z1, z2⟩ := nz no hno
          refine br_f h10 (nm_r (nI_1 cnt) ?_)
          rw [z1, z2]
          exact br_f hle (nm_e (rY met todo _ post hp))
/-- starts' loop -/
theorem fd_starts {n : Nat} (hl : n ≤ 32) (hpat : fd_pat f_hasPattern f_pieces f_patternEntry g_end a_pieceKind a_pieceValue a_pieceNext a_pieceSecond b_op b_with b_one b_two) : ∀ (d s : Nat) (b hr rs re : Int32) (rn : Int64), s + d = 33 →
    ∃ r : Int32, (∀ (f_choices f_wayPiece f_wayPlace : Int32) (f_wayNotes : Int64) (a_placesSeen : Nat → Int64) (a_choicePiece a_choicePlace : Nat → Int32) (a_choiceNotes : Nat → Int64) (post : Int32 → SX → Prop),
        (∀ (f_resultStart f_resultEnd : Int32) (f_resultNotes : Int64) (f_choices f_wayPiece f_wayPlace : Int32) (f_wayNotes : Int64) (a_placesSeen : Nat → Int64) (a_choicePiece a_choicePlace : Nat → Int32) (a_choiceNotes : Nat → Int64), post r (f_tokens, f_faultPlace, nI n, f_pieces, f_patternEntry, f_hasPattern, f_tooLarge, f_level, f_groups, f_atomStart, f_atomEntry, f_choices, f_wayPiece, f_wayPlace, f_wayNotes, 0, f_resultStart, f_resultEnd, f_resultNotes, a_tokenKind, a_tokenValue, a_text, a_pieceKind, a_pieceValue, a_pieceNext, a_pieceSecond, a_levelGroup, a_levelStart, a_levelEntry, a_branchStart, a_branchEntry, a_placesSeen, a_choicePiece, a_choicePlace, a_choiceNotes)) → wX_starts_4 post (d + 1) b (nI s) f_tokens f_faultPlace (nI n) f_pieces f_patternEntry f_hasPattern f_tooLarge f_level f_groups f_atomStart f_atomEntry f_choices f_wayPiece f_wayPlace f_wayNotes hr rs re rn a_tokenKind a_tokenValue a_text a_pieceKind a_pieceValue a_pieceNext a_pieceSecond a_levelGroup a_levelStart a_levelEntry a_branchStart a_branchEntry a_placesSeen a_choicePiece a_choicePlace a_choiceNotes) ∧
      (∀ (b_met : Nat → Int64) (b_todo b_notes : Nat → Int32) (post : Int32 → SY → Prop),
        (∀ (b_met : Nat → Int64) (b_todo b_notes : Nat → Int32), post r (g_count, g_place, g_end, g_size, g_large, f_hasPattern, g_depth, g_groups, g_atom, g_atomSize, nI n, 0, b_kind, b_value, b_op, b_with, b_one, b_two, b_copyOp, b_copyWith, b_copyOne, b_copyTwo, b_opened, b_branch, b_sizes, b_jumps, b_groupOf, a_text, b_met, b_todo, b_notes)) → wY_starts_4 post (d + 1) b (nI s) g_count g_place g_end g_size g_large f_hasPattern g_depth g_groups g_atom g_atomSize (nI n) g_found b_kind b_value b_op b_with b_one b_two b_copyOp b_copyWith b_copyOne b_copyTwo b_opened b_branch b_sizes b_jumps b_groupOf a_text b_met b_todo b_notes) := by
  intro d
  have h10 : ¬ (1 : Int32) = 0 := by decide
  induction d with
  | zero =>
    intro s b hr rs re rn hs
    refine ⟨b, fun c q l w ps cp cl cn post hp => br_t (nI_le (a := 32) (by omega) (by omega)) (hp _ _ _ _ _ _ _ _ _ _ _), fun met todo no post hp => ?_⟩
    exact br_t (nI_lt (by omega) (by omega)) (hp _ _ _)
  | succ d ih =>
    intro s b hr rs re rn hs
    by_cases e32 : 32 ≤ s
    · refine ⟨b, fun c q l w ps cp cl cn post hp => br_t (nI_le (a := 32) (by omega) (by omega)) (hp _ _ _ _ _ _ _ _ _ _ _), fun met todo no post hp => ?_⟩
      by_cases en : n < s
      · exact br_t (nI_lt (by omega) (by omega)) (hp _ _ _)
      · exact br_f (nI_nlt (by omega) (by omega)) (br_t (nI_le (a := 32) (by omega) (by omega)) (hp _ _ _))
    · have n32 : ¬ (32 : Int32) ≤ nI s := nI_ge (b := 32) (by omega) (by omega)
      by_cases en : n < s
      · have hlt : nI n < nI s := nI_lt en (by omega)
        exact ⟨b, fun c q l w ps cp cl cn post hp => br_f n32 (br_t hlt (hp _ _ _ _ _ _ _ _ _ _ _)), fun met todo no post hp => br_t hlt (hp _ _ _)⟩
      · have hlt : ¬ nI n < nI s := nI_nlt (by omega) (by omega)
        have hpat' := hpat
        rcases hpat with rfl | ⟨rfl, P, E, hP, hE, rfl, rfl, h6, hF⟩
        · exact ⟨b, fun c q l w ps cp cl cn post hp => br_f n32 (br_f hlt (br_t rfl (hp _ _ _ _ _ _ _ _ _ _ _))), fun met todo no post hp => br_f hlt (br_f n32 (br_t rfl (hp _ _ _)))⟩
        · rcases fd_m (f_tokens := f_tokens) (f_faultPlace := f_faultPlace) (f_hasPattern := 1) (f_tooLarge := f_tooLarge) (f_level := f_level) (f_groups := f_groups) (f_atomStart := f_atomStart) (f_atomEntry := f_atomEntry) (f_hasResult := hr) (f_resultStart := rs) (f_resultEnd := re) (f_resultNotes := rn) (a_tokenKind := a_tokenKind) (a_tokenValue := a_tokenValue) (a_text := a_text) (a_levelGroup := a_levelGroup) (a_levelStart := a_levelStart) (a_levelEntry := a_levelEntry) (a_branchStart := a_branchStart) (a_branchEntry := a_branchEntry) (g_count := g_count) (g_place := g_place) (g_size := g_size) (g_large := g_large) (g_ready := 1) (g_depth := g_depth) (g_groups := g_groups) (g_atom := g_atom) (g_atomSize := g_atomSize) (g_found := g_found) (b_kind := b_kind) (b_value := b_value) (b_copyOp := b_copyOp) (b_copyWith := b_copyWith) (b_copyOne := b_copyOne) (b_copyTwo := b_copyTwo) (b_opened := b_opened) (b_branch := b_branch) (b_sizes := b_sizes) (b_jumps := b_jumps) (b_groupOf := b_groupOf) 0 hF hE hP h6 hl (show s ≤ n by omega) with ⟨mX, mY⟩ | ⟨a, w, no, v, q1, q2, q3, q4, q5, mX, mY⟩
          · obtain ⟨r, rX, rY⟩ := ih (s + 1) b hr rs re rn (by omega)
            refine ⟨r, fun c q l w ps cp cl cn post hp => br_f n32 (br_f hlt (br_f h10 ?_)), fun met todo no post hp => br_f hlt (br_f n32 (br_f h10 ?_))⟩
            · refine mX c q l w ps cp cl cn _ (fun c q l w ps cp cl cn => ?_)
              exact br_t rfl (nm_r (nI_1 s) (rX c q l w ps cp cl cn post hp))
            · refine mY met todo no _ (fun met todo no => ?_)
              exact br_t rfl (nm_r (nI_1 s) (rY met todo no post hp))
          · obtain ⟨r, rX, rY⟩ := ih (s + 1) (b ||| ((1 : Int32) <<< (nI s &&& 31))) 1 (nI s) (nI a) w (by omega)
            refine ⟨r, fun c q l w ps cp cl cn post hp => br_f n32 (br_f hlt (br_f h10 ?_)), fun met todo no post hp => br_f hlt (br_f n32 (br_f h10 ?_))⟩
            · refine mX c q l w ps cp cl cn _ (fun c q l w ps cp cl cn => ?_)
              exact br_f h10 (nm_e (nm_r (nI_1 s) (rX c q l w ps cp cl cn post hp)))
            · refine mY met todo no _ (fun met todo no hno => ?_)
              exact br_f h10 (nm_e (nm_r (nI_1 s) (rY met todo _ post hp)))
end FE
end
section
section FV
theorem fv_no {no no' : Nat → Int32} {v : Nat → Nat} {a : Nat} (h : mt_NO no v) (hno : ∀ j, j < 8 → no' j = no j) : mt_NO (upd no' 1 (nI a)) v := by
  intro k hk
  have e : upd no' 1 (nI a) (k + 2) = no (k + 2) := (if_neg (by omega)).trans (hno (k + 2) (by omega))
  rw [e]; exact h k hk
theorem i_vc_find {k : Nat} {u : SX} {v : SY} (I : i_Rel k u v) (hk : k + 3 ≤ 1536) (v1 : Int32) : wpX_find (fun r u' => wpY_find (fun r' v' => r' = r ∧ i_Rel (k + 3) u' v') v v1) u v1 := by
  obtain ⟨f_tokens, f_faultPlace, f_length, f_pieces, f_patternEntry, f_hasPattern, f_tooLarge, f_level, f_groups, f_atomStart, f_atomEntry, f_choices, f_wayPiece, f_wayPlace, f_wayNotes, f_hasResult, f_resultStart, f_resultEnd, f_resultNotes, a_tokenKind, a_tokenValue, a_text, a_pieceKind, a_pieceValue, a_pieceNext, a_pieceSecond, a_levelGroup, a_levelStart, a_levelEntry, a_branchStart, a_branchEntry, a_placesSeen, a_choicePiece, a_choicePlace, a_choiceNotes⟩ := u
  obtain ⟨g_count, g_place, g_end, g_size, g_large, g_ready, g_depth, g_groups, g_atom, g_atomSize, g_length, g_found, b_kind, b_value, b_op, b_with, b_one, b_two, b_copyOp, b_copyWith, b_copyOne, b_copyTwo, b_opened, b_branch, b_sizes, b_jumps, b_groupOf, b_text, b_met, b_todo, b_notes⟩ := v
  have I0 := I
  obtain ⟨c, n, hc, rfl, rfl, rfl, htok, rfl, hn, rfl, rfl, rfl, rfl, hpat, rfl, hres, hB1, hB2, hS1, hS2⟩ := I
  rcases fd_find (f_tokens := nI c) (f_faultPlace := g_place) (f_pieces := f_pieces) (f_patternEntry := f_patternEntry) (f_hasPattern := g_ready) (f_tooLarge := f_tooLarge) (f_level := f_level) (f_groups := f_groups) (f_atomStart := f_atomStart) (f_atomEntry := f_atomEntry) (f_hasResult := g_found) (f_resultStart := f_resultStart) (f_resultEnd := f_resultEnd) (f_resultNotes := f_resultNotes) (a_tokenKind := b_kind) (a_tokenValue := a_tokenValue) (a_text := b_text) (a_pieceKind := a_pieceKind) (a_pieceValue := a_pieceValue) (a_pieceNext := a_pieceNext) (a_pieceSecond := a_pieceSecond) (a_levelGroup := a_levelGroup) (a_levelStart := a_levelStart) (a_levelEntry := a_levelEntry) (a_branchStart := a_branchStart) (a_branchEntry := a_branchEntry) (g_count := nI c) (g_place := g_place) (g_end := g_end) (g_size := g_size) (g_large := g_large) (g_depth := g_depth) (g_groups := g_groups) (g_atom := g_atom) (g_atomSize := g_atomSize) (g_found := g_found) (b_kind := b_kind) (b_value := b_value) (b_op := b_op) (b_with := b_with) (b_one := b_one) (b_two := b_two) (b_copyOp := b_copyOp) (b_copyWith := b_copyWith) (b_copyOne := b_copyOne) (b_copyTwo := b_copyTwo) (b_opened := b_opened) (b_branch := b_branch) (b_sizes := b_sizes) (b_jumps := b_jumps) (b_groupOf := b_groupOf) v1 hn hpat with ⟨iX, iY⟩ | ⟨fr, s1, a, w, no, v, q0, q1, q2, q3, q4, q5, q6, iX, iY⟩
  · refine iX _ _ _ _ _ _ _ _ _ (fun q1 q2 q3 q4 q5 q6 q7 q8 => ?_)
    refine iY _ _ _ _ (fun met todo no => ?_)
    exact ⟨rfl, c, n, hc, rfl, rfl, rfl, htok, rfl, hn, rfl, rfl, rfl, rfl, hpat, rfl, Or.inl rfl, hB1, hB2, hS1, hS2⟩
  · refine iX _ _ _ _ _ _ _ _ _ (fun z1 z2 z3 z4 z5 z6 z7 z8 => ?_)
    refine iY _ _ _ _ (fun met todo no' hno => ?_)
    exact ⟨rfl, c, n, hc, rfl, rfl, rfl, htok, rfl, hn, rfl, rfl, rfl, rfl, hpat, rfl, Or.inr ⟨rfl, s1, a, v, q2, by omega, rfl, rfl, (if_neg (by omega)).trans ((hno 0 (by omega)).trans q6), if_pos rfl, q4, fv_no q5 hno⟩, hB1, hB2, hS1, hS2⟩
theorem i_vc_whole {k : Nat} {u : SX} {v : SY} (I : i_Rel k u v) (hk : k + 3 ≤ 1536) : wpX_whole (fun r u' => wpY_whole (fun r' v' => r' = r ∧ i_Rel (k + 3) u' v') v) u := by
  obtain ⟨f_tokens, f_faultPlace, f_length, f_pieces, f_patternEntry, f_hasPattern, f_tooLarge, f_level, f_groups, f_atomStart, f_atomEntry, f_choices, f_wayPiece, f_wayPlace, f_wayNotes, f_hasResult, f_resultStart, f_resultEnd, f_resultNotes, a_tokenKind, a_tokenValue, a_text, a_pieceKind, a_pieceValue, a_pieceNext, a_pieceSecond, a_levelGroup, a_levelStart, a_levelEntry, a_branchStart, a_branchEntry, a_placesSeen, a_choicePiece, a_choicePlace, a_choiceNotes⟩ := u
  obtain ⟨g_count, g_place, g_end, g_size, g_large, g_ready, g_depth, g_groups, g_atom, g_atomSize, g_length, g_found, b_kind, b_value, b_op, b_with, b_one, b_two, b_copyOp, b_copyWith, b_copyOne, b_copyTwo, b_opened, b_branch, b_sizes, b_jumps, b_groupOf, b_text, b_met, b_todo, b_notes⟩ := v
  have I0 := I
  obtain ⟨c, n, hc, rfl, rfl, rfl, htok, rfl, hn, rfl, rfl, rfl, rfl, hpat, rfl, hres, hB1, hB2, hS1, hS2⟩ := I
  rcases hpat with rfl | ⟨rfl, P, E, hP, hE, rfl, rfl, h6, hF⟩
  · exact br_t rfl (br_t rfl ⟨rfl, c, n, hc, rfl, rfl, rfl, htok, rfl, hn, rfl, rfl, rfl, rfl, Or.inl rfl, rfl, Or.inl rfl, hB1, hB2, hS1, hS2⟩)
  · have h10 : ¬ (1 : Int32) = 0 := by decide
    have hpat : fd_pat 1 (nI P) f_patternEntry (nI (E + 1)) a_pieceKind a_pieceValue a_pieceNext a_pieceSecond b_op b_with b_one b_two := Or.inr ⟨rfl, P, E, hP, hE, rfl, rfl, h6, hF⟩
    rcases fd_m (f_tokens := nI c) (f_faultPlace := g_place) (f_patternEntry := f_patternEntry) (f_hasPattern := 1) (f_tooLarge := f_tooLarge) (f_level := f_level) (f_groups := f_groups) (f_atomStart := f_atomStart) (f_atomEntry := f_atomEntry) (f_hasResult := 0) (f_resultStart := f_resultStart) (f_resultEnd := f_resultEnd) (f_resultNotes := f_resultNotes) (a_tokenKind := b_kind) (a_tokenValue := a_tokenValue) (a_text := b_text) (a_pieceKind := a_pieceKind) (a_pieceValue := a_pieceValue) (a_pieceNext := a_pieceNext) (a_pieceSecond := a_pieceSecond) (a_levelGroup := a_levelGroup) (a_levelStart := a_levelStart) (a_levelEntry := a_levelEntry) (a_branchStart := a_branchStart) (a_branchEntry := a_branchEntry) (g_count := nI c) (g_place := g_place) (g_size := g_size) (g_large := g_large) (g_ready := 1) (g_depth := g_depth) (g_groups := g_groups) (g_atom := g_atom) (g_atomSize := g_atomSize) (g_found := g_found) (b_kind := b_kind) (b_value := b_value) (b_op := b_op) (b_with := b_with) (b_one := b_one) (b_two := b_two) (b_copyOp := b_copyOp) (b_copyWith := b_copyWith) (b_copyOne := b_copyOne) (b_copyTwo := b_copyTwo) (b_opened := b_opened) (b_branch := b_branch) (b_sizes := b_sizes) (b_jumps := b_jumps) (b_groupOf := b_groupOf) (s0 := 0) 1 hF hE hP h6 hn (Nat.zero_le _) with ⟨mX, mY⟩ | ⟨a, w, no, v, q1, q2, q3, q4, q5, mX, mY⟩
    · refine br_f h10 (mX _ _ _ _ _ _ _ _ _ (fun q1 q2 q3 q4 q5 q6 q7 q8 => br_t rfl ?_))
      refine br_f h10 ?_
      refine mY _ _ _ _ (fun met todo no => br_t rfl ?_)
      exact ⟨rfl, c, n, hc, rfl, rfl, rfl, htok, rfl, hn, rfl, rfl, rfl, rfl, hpat, rfl, Or.inl rfl, hB1, hB2, hS1, hS2⟩
    · refine br_f h10 (mX _ _ _ _ _ _ _ _ _ (fun z1 z2 z3 z4 z5 z6 z7 z8 => br_f h10 ?_))
      refine br_f h10 ?_
      refine mY _ _ _ _ (fun met todo no' hno => br_f h10 ?_)
      exact ⟨rfl, c, n, hc, rfl, rfl, rfl, htok, rfl, hn, rfl, rfl, rfl, rfl, hpat, rfl, Or.inr ⟨rfl, 0, a, v, q1, by omega, rfl, rfl, (if_neg (by omega)).trans ((hno 0 (by omega)).trans q5), if_pos rfl, q3, fv_no q4 hno⟩, hB1, hB2, hS1, hS2⟩
theorem i_vc_count {k : Nat} {u : SX} {v : SY} (I : i_Rel k u v) (hk : k + 3 ≤ 1536) : wpX_count (fun r u' => wpY_count (fun r' v' => r' = r ∧ i_Rel (k + 3) u' v') v) u := by
  obtain ⟨f_tokens, f_faultPlace, f_length, f_pieces, f_patternEntry, f_hasPattern, f_tooLarge, f_level, f_groups, f_atomStart, f_atomEntry, f_choices, f_wayPiece, f_wayPlace, f_wayNotes, f_hasResult, f_resultStart, f_resultEnd, f_resultNotes, a_tokenKind, a_tokenValue, a_text, a_pieceKind, a_pieceValue, a_pieceNext, a_pieceSecond, a_levelGroup, a_levelStart, a_levelEntry, a_branchStart, a_branchEntry, a_placesSeen, a_choicePiece, a_choicePlace, a_choiceNotes⟩ := u
  obtain ⟨g_count, g_place, g_end, g_size, g_large, g_ready, g_depth, g_groups, g_atom, g_atomSize, g_length, g_found, b_kind, b_value, b_op, b_with, b_one, b_two, b_copyOp, b_copyWith, b_copyOne, b_copyTwo, b_opened, b_branch, b_sizes, b_jumps, b_groupOf, b_text, b_met, b_todo, b_notes⟩ := v
  have I0 := I
  obtain ⟨c, n, hc, rfl, rfl, rfl, htok, rfl, hn, rfl, rfl, rfl, rfl, hpat, rfl, hres, hB1, hB2, hS1, hS2⟩ := I
  obtain ⟨r, rX, rY⟩ := fd_count (f_tokens := nI c) (f_faultPlace := g_place) (f_pieces := f_pieces) (f_patternEntry := f_patternEntry) (f_hasPattern := g_ready) (f_tooLarge := f_tooLarge) (f_level := f_level) (f_groups := f_groups) (f_atomStart := f_atomStart) (f_atomEntry := f_atomEntry) (a_tokenKind := b_kind) (a_tokenValue := a_tokenValue) (a_text := b_text) (a_pieceKind := a_pieceKind) (a_pieceValue := a_pieceValue) (a_pieceNext := a_pieceNext) (a_pieceSecond := a_pieceSecond) (a_levelGroup := a_levelGroup) (a_levelStart := a_levelStart) (a_levelEntry := a_levelEntry) (a_branchStart := a_branchStart) (a_branchEntry := a_branchEntry) (g_count := nI c) (g_place := g_place) (g_end := g_end) (g_size := g_size) (g_large := g_large) (g_depth := g_depth) (g_groups := g_groups) (g_atom := g_atom) (g_atomSize := g_atomSize) (b_kind := b_kind) (b_value := b_value) (b_op := b_op) (b_with := b_with) (b_one := b_one) (b_two := b_two) (b_copyOp := b_copyOp) (b_copyWith := b_copyWith) (b_copyOne := b_copyOne) (b_copyTwo := b_copyTwo) (b_opened := b_opened) (b_branch := b_branch) (b_sizes := b_sizes) (b_jumps := b_jumps) (b_groupOf := b_groupOf) hn hpat 34 0 0 0 g_found f_resultStart f_resultEnd f_resultNotes g_found (by omega) (by omega) (by omega)
  refine ⟨_, rX _ _ _ _ _ _ _ _ _ (fun z1 z2 z3 z4 z5 z6 z7 z8 z9 z10 z11 => ?_)⟩
  refine ⟨_, rY _ _ _ _ (fun met todo no => ?_)⟩
  exact ⟨rfl, c, n, hc, rfl, rfl, rfl, htok, rfl, hn, rfl, rfl, rfl, rfl, hpat, rfl, Or.inl rfl, hB1, hB2, hS1, hS2⟩
theorem i_vc_starts {k : Nat} {u : SX} {v : SY} (I : i_Rel k u v) (hk : k + 3 ≤ 1536) : wpX_starts (fun r u' => wpY_starts (fun r' v' => r' = r ∧ i_Rel (k + 3) u' v') v) u := by
  obtain ⟨f_tokens, f_faultPlace, f_length, f_pieces, f_patternEntry, f_hasPattern, f_tooLarge, f_level, f_groups, f_atomStart, f_atomEntry, f_choices, f_wayPiece, f_wayPlace, f_wayNotes, f_hasResult, f_resultStart, f_resultEnd, f_resultNotes, a_tokenKind, a_tokenValue, a_text, a_pieceKind, a_pieceValue, a_pieceNext, a_pieceSecond, a_levelGroup, a_levelStart, a_levelEntry, a_branchStart, a_branchEntry, a_placesSeen, a_choicePiece, a_choicePlace, a_choiceNotes⟩ := u
  obtain ⟨g_count, g_place, g_end, g_size, g_large, g_ready, g_depth, g_groups, g_atom, g_atomSize, g_length, g_found, b_kind, b_value, b_op, b_with, b_one, b_two, b_copyOp, b_copyWith, b_copyOne, b_copyTwo, b_opened, b_branch, b_sizes, b_jumps, b_groupOf, b_text, b_met, b_todo, b_notes⟩ := v
  have I0 := I
  obtain ⟨c, n, hc, rfl, rfl, rfl, htok, rfl, hn, rfl, rfl, rfl, rfl, hpat, rfl, hres, hB1, hB2, hS1, hS2⟩ := I
  obtain ⟨r, rX, rY⟩ := fd_starts (f_tokens := nI c) (f_faultPlace := g_place) (f_pieces := f_pieces) (f_patternEntry := f_patternEntry) (f_hasPattern := g_ready) (f_tooLarge := f_tooLarge) (f_level := f_level) (f_groups := f_groups) (f_atomStart := f_atomStart) (f_atomEntry := f_atomEntry) (a_tokenKind := b_kind) (a_tokenValue := a_tokenValue) (a_text := b_text) (a_pieceKind := a_pieceKind) (a_pieceValue := a_pieceValue) (a_pieceNext := a_pieceNext) (a_pieceSecond := a_pieceSecond) (a_levelGroup := a_levelGroup) (a_levelStart := a_levelStart) (a_levelEntry := a_levelEntry) (a_branchStart := a_branchStart) (a_branchEntry := a_branchEntry) (g_count := nI c) (g_place := g_place) (g_end := g_end) (g_size := g_size) (g_large := g_large) (g_depth := g_depth) (g_groups := g_groups) (g_atom := g_atom) (g_atomSize := g_atomSize) (g_found := g_found) (b_kind := b_kind) (b_value := b_value) (b_op := b_op) (b_with := b_with) (b_one := b_one) (b_two := b_two) (b_copyOp := b_copyOp) (b_copyWith := b_copyWith) (b_copyOne := b_copyOne) (b_copyTwo := b_copyTwo) (b_opened := b_opened) (b_branch := b_branch) (b_sizes := b_sizes) (b_jumps := b_jumps) (b_groupOf := b_groupOf) hn hpat 33 0 0 g_found f_resultStart f_resultEnd f_resultNotes (by omega)
  refine ⟨_, rX _ _ _ _ _ _ _ _ _ (fun z1 z2 z3 z4 z5 z6 z7 z8 z9 z10 z11 => ?_)⟩
  refine ⟨_, rY _ _ _ _ (fun met todo no => ?_)⟩
  exact ⟨rfl, c, n, hc, rfl, rfl, rfl, htok, rfl, hn, rfl, rfl, rfl, rfl, hpat, rfl, Or.inl rfl, hB1, hB2, hS1, hS2⟩
end FV
end
section
section XB
/-! the component's building steps -/
def cx_lo (f : Nat → Int32) (s e : Nat) (t : Int32) : Nat → Int32 := fun p => if s ≤ p ∧ p < e then fg_mo t (f p) else f p
theorem cx_lo_0 {f : Nat → Int32} {s e : Nat} {t : Int32} (h : e ≤ s) : cx_lo f s e t = f := by
  funext p; exact if_neg (by omega)
theorem cx_lo_in {f : Nat → Int32} {s e p : Nat} {t : Int32} (h1 : s ≤ p) (h2 : p < e) : cx_lo f s e t p = fg_mo t (f p) := if_pos ⟨h1, h2⟩
theorem cx_lo_out {f : Nat → Int32} {s e p : Nat} {t : Int32} (h : ¬ (s ≤ p ∧ p < e)) : cx_lo f s e t p = f p := if_neg h
theorem cx_lo_i {f : Nat → Int32} {s i : Nat} {t : Int32} : cx_lo f s i t i = f i := if_neg (by omega)
theorem cx_lo_u {f : Nat → Int32} {s i : Nat} {t : Int32} (hs : s ≤ i) (h : f i = -1) : upd (cx_lo f s i t) i t = cx_lo f s (i + 1) t := by
  funext p
  unfold upd cx_lo
  by_cases e : p = i
  · subst e
    rw [if_pos rfl, if_pos (by omega), h, fg_mo_m]
  · rw [if_neg e]
    by_cases e2 : s ≤ p ∧ p < i
    · rw [if_pos e2, if_pos (by omega)]
    · rw [if_neg e2, if_neg (by omega)]
theorem cx_lo_n {f : Nat → Int32} {s i : Nat} {t : Int32} (h : ¬ f i = -1) : cx_lo f s i t = cx_lo f s (i + 1) t := by
  funext p
  unfold cx_lo
  by_cases e : p = i
  · subst e
    rw [if_neg (by omega)]
    by_cases e2 : s ≤ p ∧ p < p + 1
    · rw [if_pos e2, fg_mo, if_neg h]
    · rw [if_neg e2]
  · by_cases e2 : s ≤ p ∧ p < i
    · rw [if_pos e2, if_pos (by omega)]
    · rw [if_neg e2, if_neg (by omega)]
variable {f_tokens f_faultPlace f_length f_pieces f_patternEntry f_hasPattern f_tooLarge f_level f_groups f_atomStart f_atomEntry f_choices f_wayPiece f_wayPlace : Int32} {f_wayNotes : Int64} {f_hasResult f_resultStart f_resultEnd : Int32} {f_resultNotes : Int64} {a_tokenKind a_tokenValue a_text a_pieceKind a_pieceValue a_pieceNext a_pieceSecond a_levelGroup a_levelStart a_levelEntry a_branchStart a_branchEntry : Nat → Int32} {a_placesSeen : Nat → Int64} {a_choicePiece a_choicePlace : Nat → Int32} {a_choiceNotes : Nat → Int64}
theorem cx_lo3 {post : SX → Prop} {s e : Nat} {t : Int32} (he : e ≤ 36) (h : post (f_tokens, f_faultPlace, f_length, f_pieces, f_patternEntry, f_hasPattern, f_tooLarge, f_level, f_groups, f_atomStart, f_atomEntry, f_choices, f_wayPiece, f_wayPlace, f_wayNotes, f_hasResult, f_resultStart, f_resultEnd, f_resultNotes, a_tokenKind, a_tokenValue, a_text, a_pieceKind, a_pieceValue, cx_lo a_pieceNext s e t, cx_lo a_pieceSecond s e t, a_levelGroup, a_levelStart, a_levelEntry, a_branchStart, a_branchEntry, a_placesSeen, a_choicePiece, a_choicePlace, a_choiceNotes)) : ∀ (d i : Nat), i + d = e → s ≤ i →
    wX_leadOutTo_3 post (nI e) t f_tokens f_faultPlace f_length f_pieces f_patternEntry f_hasPattern f_tooLarge f_level f_groups f_atomStart f_atomEntry f_choices f_wayPiece f_wayPlace f_wayNotes f_hasResult f_resultStart f_resultEnd f_resultNotes (d + 1) (nI i) a_tokenKind a_tokenValue a_text a_pieceKind a_pieceValue (cx_lo a_pieceNext s i t) (cx_lo a_pieceSecond s i t) a_levelGroup a_levelStart a_levelEntry a_branchStart a_branchEntry a_placesSeen a_choicePiece a_choicePlace a_choiceNotes := by
  intro d
  induction d with
  | zero =>
    intro i hi hs
    obtain rfl : i = e := by omega
    exact br_t (nI_le (Nat.le_refl _) (by omega)) h
  | succ d ih =>
    intro i hi hs
    have hv : vp_in (nI i) 36 := vp_in_nI (by omega) (by omega)
    have ec : (nI i).toNatClampNeg = i := nI_clamp (by omega)
    have I := ih (i + 1) (by omega) (by omega)
    refine br_f (nI_ge (by omega) (by omega)) ⟨hv, ?_⟩
    rw [ec, cx_lo_i]
    have second : wX_leadOutTo_28 post (wX_leadOutTo_3 post (nI e) t f_tokens f_faultPlace f_length f_pieces f_patternEntry f_hasPattern f_tooLarge f_level f_groups f_atomStart f_atomEntry f_choices f_wayPiece f_wayPlace f_wayNotes f_hasResult f_resultStart f_resultEnd f_resultNotes (d + 1)) (nI e) t (nI i) f_tokens f_faultPlace f_length f_pieces f_patternEntry f_hasPattern f_tooLarge f_level f_groups f_atomStart f_atomEntry f_choices f_wayPiece f_wayPlace f_wayNotes f_hasResult f_resultStart f_resultEnd f_resultNotes a_tokenKind a_tokenValue a_text a_pieceKind a_pieceValue (cx_lo a_pieceNext s (i + 1) t) (cx_lo a_pieceSecond s i t) a_levelGroup a_levelStart a_levelEntry a_branchStart a_branchEntry a_placesSeen a_choicePiece a_choicePlace a_choiceNotes := by
      refine ⟨hv, ?_⟩
      rw [ec, cx_lo_i]
      by_cases e1 : a_pieceSecond i = -1
      · exact br_t e1 ⟨hv, nm_r (cx_lo_u hs e1) (nm_r (nI_1 i) I)⟩
      · rw [cx_lo_n (s := s) (t := t) e1]
        exact br_f e1 (nm_r (nI_1 i) I)
    by_cases e1 : a_pieceNext i = -1
    · exact br_t e1 ⟨hv, nm_r (cx_lo_u hs e1) second⟩
    · rw [cx_lo_n (s := s) (t := t) e1]
      exact br_f e1 second
theorem cx_lead {post : SX → Prop} {s e : Nat} {t : Int32} (he : e ≤ 36) (hs : s ≤ 36) (h : post (f_tokens, f_faultPlace, f_length, f_pieces, f_patternEntry, f_hasPattern, f_tooLarge, f_level, f_groups, f_atomStart, f_atomEntry, f_choices, f_wayPiece, f_wayPlace, f_wayNotes, f_hasResult, f_resultStart, f_resultEnd, f_resultNotes, a_tokenKind, a_tokenValue, a_text, a_pieceKind, a_pieceValue, cx_lo a_pieceNext s e t, cx_lo a_pieceSecond s e t, a_levelGroup, a_levelStart, a_levelEntry, a_branchStart, a_branchEntry, a_placesSeen, a_choicePiece, a_choicePlace, a_choiceNotes)) : wpX_leadOutTo post (f_tokens, f_faultPlace, f_length, f_pieces, f_patternEntry, f_hasPattern, f_tooLarge, f_level, f_groups, f_atomStart, f_atomEntry, f_choices, f_wayPiece, f_wayPlace, f_wayNotes, f_hasResult, f_resultStart, f_resultEnd, f_resultNotes, a_tokenKind, a_tokenValue, a_text, a_pieceKind, a_pieceValue, a_pieceNext, a_pieceSecond, a_levelGroup, a_levelStart, a_levelEntry, a_branchStart, a_branchEntry, a_placesSeen, a_choicePiece, a_choicePlace, a_choiceNotes) (nI s) (nI e) t := by
  by_cases hse : s ≤ e
  · refine ⟨e - s + 1, ?_⟩
    have := cx_lo3 he h (e - s) s (by omega) (Nat.le_refl _)
    rw [cx_lo_0 (Nat.le_refl _), cx_lo_0 (Nat.le_refl _)] at this
    exact this
  · rw [cx_lo_0 (by omega), cx_lo_0 (by omega)] at h
    exact ⟨1, br_t (nI_le (by omega) (by omega)) h⟩
theorem cx_add {post : Int32 → SX → Prop} {pc : Nat} {k v n s : Int32} (hp : pc < 36) (h : post (nI pc) (f_tokens, f_faultPlace, f_length, nI (pc + 1), f_patternEntry, f_hasPattern, f_tooLarge, f_level, f_groups, f_atomStart, f_atomEntry, f_choices, f_wayPiece, f_wayPlace, f_wayNotes, f_hasResult, f_resultStart, f_resultEnd, f_resultNotes, a_tokenKind, a_tokenValue, a_text, upd a_pieceKind pc k, upd a_pieceValue pc v, upd a_pieceNext pc n, upd a_pieceSecond pc s, a_levelGroup, a_levelStart, a_levelEntry, a_branchStart, a_branchEntry, a_placesSeen, a_choicePiece, a_choicePlace, a_choiceNotes)) : wpX_addPiece post (f_tokens, f_faultPlace, f_length, nI pc, f_patternEntry, f_hasPattern, f_tooLarge, f_level, f_groups, f_atomStart, f_atomEntry, f_choices, f_wayPiece, f_wayPlace, f_wayNotes, f_hasResult, f_resultStart, f_resultEnd, f_resultNotes, a_tokenKind, a_tokenValue, a_text, a_pieceKind, a_pieceValue, a_pieceNext, a_pieceSecond, a_levelGroup, a_levelStart, a_levelEntry, a_branchStart, a_branchEntry, a_placesSeen, a_choicePiece, a_choicePlace, a_choiceNotes) k v n s := by
  have hv : vp_in (nI pc) 36 := vp_in_nI (by omega) (by omega)
  have ec : (nI pc).toNatClampNeg = pc := nI_clamp (by omega)
  refine br_t (nI_lt (b := 36) hp (by omega)) ⟨hv, nm_r (by rw [ec]) ⟨hv, nm_r (by rw [ec]) ⟨hv, nm_r (by rw [ec]) ⟨hv, nm_r (by rw [ec]) (nm_r (nI_1 pc) ?_)⟩⟩⟩⟩
  rw [nI_pred]; exact h
theorem cx_add0 {post : Int32 → SX → Prop} {pc : Nat} {k v n s : Int32} (hp : 36 ≤ pc) (hp2 : pc < 100) (h : post (-1) (f_tokens, f_faultPlace, f_length, nI pc, f_patternEntry, f_hasPattern, 1, f_level, f_groups, f_atomStart, f_atomEntry, f_choices, f_wayPiece, f_wayPlace, f_wayNotes, f_hasResult, f_resultStart, f_resultEnd, f_resultNotes, a_tokenKind, a_tokenValue, a_text, a_pieceKind, a_pieceValue, a_pieceNext, a_pieceSecond, a_levelGroup, a_levelStart, a_levelEntry, a_branchStart, a_branchEntry, a_placesSeen, a_choicePiece, a_choicePlace, a_choiceNotes)) : wpX_addPiece post (f_tokens, f_faultPlace, f_length, nI pc, f_patternEntry, f_hasPattern, f_tooLarge, f_level, f_groups, f_atomStart, f_atomEntry, f_choices, f_wayPiece, f_wayPlace, f_wayNotes, f_hasResult, f_resultStart, f_resultEnd, f_resultNotes, a_tokenKind, a_tokenValue, a_text, a_pieceKind, a_pieceValue, a_pieceNext, a_pieceSecond, a_levelGroup, a_levelStart, a_levelEntry, a_branchStart, a_branchEntry, a_placesSeen, a_choicePiece, a_choicePlace, a_choiceNotes) k v n s :=
  br_f (nI_nlt (b := 36) hp (by omega)) h
theorem cx_begin {post : SX → Prop} {lv : Nat} {g : Int32} (hl : lv < 25) (h : post (f_tokens, f_faultPlace, f_length, f_pieces, f_patternEntry, f_hasPattern, f_tooLarge, nI lv, f_groups, f_atomStart, f_atomEntry, f_choices, f_wayPiece, f_wayPlace, f_wayNotes, f_hasResult, f_resultStart, f_resultEnd, f_resultNotes, a_tokenKind, a_tokenValue, a_text, a_pieceKind, a_pieceValue, a_pieceNext, a_pieceSecond, upd a_levelGroup lv g, upd a_levelStart lv f_pieces, upd a_levelEntry lv (-2), upd a_branchStart lv f_pieces, upd a_branchEntry lv (-1), a_placesSeen, a_choicePiece, a_choicePlace, a_choiceNotes)) : wpX_beginLevel post (f_tokens, f_faultPlace, f_length, f_pieces, f_patternEntry, f_hasPattern, f_tooLarge, nI lv, f_groups, f_atomStart, f_atomEntry, f_choices, f_wayPiece, f_wayPlace, f_wayNotes, f_hasResult, f_resultStart, f_resultEnd, f_resultNotes, a_tokenKind, a_tokenValue, a_text, a_pieceKind, a_pieceValue, a_pieceNext, a_pieceSecond, a_levelGroup, a_levelStart, a_levelEntry, a_branchStart, a_branchEntry, a_placesSeen, a_choicePiece, a_choicePlace, a_choiceNotes) g := by
  have hv : vp_in (nI lv) 25 := vp_in_nI hl (by omega)
  have ec : (nI lv).toNatClampNeg = lv := nI_clamp (by omega)
  exact ⟨hv, nm_r (by rw [ec]) ⟨hv, nm_r (by rw [ec]) ⟨hv, nm_r (by rw [ec]) ⟨hv, nm_r (by rw [ec]) ⟨hv, nm_r (by rw [ec]) h⟩⟩⟩⟩⟩
/-- an atom joins its branch -/
theorem cx_join {post : SX → Prop} {lv b a : Nat} (hl : lv < 25) (hb : a_branchStart lv = nI b) (hb2 : b ≤ 36) (ha : f_atomEntry = -1 ∨ (f_atomStart = nI a ∧ a ≤ 36)) (hr : a_branchEntry lv = -1 → a ≤ b)
    (h : post (f_tokens, f_faultPlace, f_length, f_pieces, f_patternEntry, f_hasPattern, f_tooLarge, nI lv, f_groups, f_atomStart, (-1), f_choices, f_wayPiece, f_wayPlace, f_wayNotes, f_hasResult, f_resultStart, f_resultEnd, f_resultNotes, a_tokenKind, a_tokenValue, a_text, a_pieceKind, a_pieceValue, cx_lo a_pieceNext b (if f_atomEntry = -1 then b else a) f_atomEntry, cx_lo a_pieceSecond b (if f_atomEntry = -1 then b else a) f_atomEntry, a_levelGroup, a_levelStart, a_levelEntry, a_branchStart, upd a_branchEntry lv (fg_mo f_atomEntry (a_branchEntry lv)), a_placesSeen, a_choicePiece, a_choicePlace, a_choiceNotes)) : wpX_joinAtom post (f_tokens, f_faultPlace, f_length, f_pieces, f_patternEntry, f_hasPattern, f_tooLarge, nI lv, f_groups, f_atomStart, f_atomEntry, f_choices, f_wayPiece, f_wayPlace, f_wayNotes, f_hasResult, f_resultStart, f_resultEnd, f_resultNotes, a_tokenKind, a_tokenValue, a_text, a_pieceKind, a_pieceValue, a_pieceNext, a_pieceSecond, a_levelGroup, a_levelStart, a_levelEntry, a_branchStart, a_branchEntry, a_placesSeen, a_choicePiece, a_choicePlace, a_choiceNotes) := by
  have hv : vp_in (nI lv) 25 := vp_in_nI hl (by omega)
  have ec : (nI lv).toNatClampNeg = lv := nI_clamp (by omega)
  by_cases e : f_atomEntry = -1
  · rw [if_pos e, cx_lo_0 (Nat.le_refl _), cx_lo_0 (Nat.le_refl _)] at h
    have e2 : upd a_branchEntry lv (fg_mo f_atomEntry (a_branchEntry lv)) = a_branchEntry := by
      rw [e, fg_mo_id]
      funext j
      unfold upd
      by_cases ej : j = lv
      · rw [if_pos ej, ej]
      · rw [if_neg ej]
    rw [e2] at h
    refine br_t e ?_
    rw [e]; exact h
  · rw [if_neg e] at h
    rcases ha with ha | ⟨ha, ha2⟩
    · exact absurd ha e
    · refine br_f e ⟨hv, ?_⟩
      rw [ec]
      by_cases eb : a_branchEntry lv = -1
      · rw [cx_lo_0 (hr eb), cx_lo_0 (hr eb), eb, fg_mo_m] at h
        exact br_t eb ⟨hv, nm_e h⟩
      · have e2 : upd a_branchEntry lv (fg_mo f_atomEntry (a_branchEntry lv)) = a_branchEntry := by
          rw [fg_mo, if_neg eb]
          funext j
          unfold upd
          by_cases ej : j = lv
          · rw [if_pos ej, ej]
          · rw [if_neg ej]
        rw [e2] at h
        refine br_f eb ⟨hv, ?_⟩
        rw [hb, ha]
        rw [ha] at h
        exact cx_lead ha2 hb2 h
/-- the end of a branch: the first branch of its level, a fork, or too large -/
theorem cx_end1 {post : SX → Prop} {lv : Nat} (hl : lv < 25) (he : a_levelEntry lv = -2) (h : post (f_tokens, f_faultPlace, f_length, f_pieces, f_patternEntry, f_hasPattern, f_tooLarge, nI lv, f_groups, f_atomStart, f_atomEntry, f_choices, f_wayPiece, f_wayPlace, f_wayNotes, f_hasResult, f_resultStart, f_resultEnd, f_resultNotes, a_tokenKind, a_tokenValue, a_text, a_pieceKind, a_pieceValue, a_pieceNext, a_pieceSecond, a_levelGroup, a_levelStart, upd a_levelEntry lv (a_branchEntry lv), upd a_branchStart lv f_pieces, upd a_branchEntry lv (-1), a_placesSeen, a_choicePiece, a_choicePlace, a_choiceNotes)) : wpX_endBranch post (f_tokens, f_faultPlace, f_length, f_pieces, f_patternEntry, f_hasPattern, f_tooLarge, nI lv, f_groups, f_atomStart, f_atomEntry, f_choices, f_wayPiece, f_wayPlace, f_wayNotes, f_hasResult, f_resultStart, f_resultEnd, f_resultNotes, a_tokenKind, a_tokenValue, a_text, a_pieceKind, a_pieceValue, a_pieceNext, a_pieceSecond, a_levelGroup, a_levelStart, a_levelEntry, a_branchStart, a_branchEntry, a_placesSeen, a_choicePiece, a_choicePlace, a_choiceNotes) := by
  have hv : vp_in (nI lv) 25 := vp_in_nI hl (by omega)
  have ec : (nI lv).toNatClampNeg = lv := nI_clamp (by omega)
  exact ⟨hv, br_t (by rw [ec]; exact he) ⟨hv, hv, nm_r (by rw [ec]) ⟨hv, nm_r (by rw [ec]) ⟨hv, nm_r (by rw [ec]) h⟩⟩⟩⟩
theorem cx_end2 {post : SX → Prop} {lv pc : Nat} (hl : lv < 25) (he : ¬ a_levelEntry lv = -2) (hp : pc < 36) (h : post (f_tokens, f_faultPlace, f_length, nI (pc + 1), f_patternEntry, f_hasPattern, f_tooLarge, nI lv, f_groups, f_atomStart, f_atomEntry, f_choices, f_wayPiece, f_wayPlace, f_wayNotes, f_hasResult, f_resultStart, f_resultEnd, f_resultNotes, a_tokenKind, a_tokenValue, a_text, upd a_pieceKind pc 4, upd a_pieceValue pc 0, upd a_pieceNext pc (a_levelEntry lv), upd a_pieceSecond pc (a_branchEntry lv), a_levelGroup, a_levelStart, upd a_levelEntry lv (nI pc), upd a_branchStart lv (nI (pc + 1)), upd a_branchEntry lv (-1), a_placesSeen, a_choicePiece, a_choicePlace, a_choiceNotes)) : wpX_endBranch post (f_tokens, f_faultPlace, f_length, nI pc, f_patternEntry, f_hasPattern, f_tooLarge, nI lv, f_groups, f_atomStart, f_atomEntry, f_choices, f_wayPiece, f_wayPlace, f_wayNotes, f_hasResult, f_resultStart, f_resultEnd, f_resultNotes, a_tokenKind, a_tokenValue, a_text, a_pieceKind, a_pieceValue, a_pieceNext, a_pieceSecond, a_levelGroup, a_levelStart, a_levelEntry, a_branchStart, a_branchEntry, a_placesSeen, a_choicePiece, a_choicePlace, a_choiceNotes) := by
  have hv : vp_in (nI lv) 25 := vp_in_nI hl (by omega)
  have ec : (nI lv).toNatClampNeg = lv := nI_clamp (by omega)
  refine ⟨hv, br_f (by rw [ec]; exact he) ⟨hv, hv, ?_⟩⟩
  rw [ec]
  refine cx_add hp ?_
  exact ⟨hv, nm_e ⟨hv, nm_r (by rw [ec]) ⟨hv, nm_r (by rw [ec]) h⟩⟩⟩
theorem cx_end3 {post : SX → Prop} {lv : Nat} (hl : lv < 25) (he : ¬ a_levelEntry lv = -2) (h : post (f_tokens, f_faultPlace, f_length, nI 36, f_patternEntry, f_hasPattern, 1, nI lv, f_groups, f_atomStart, f_atomEntry, f_choices, f_wayPiece, f_wayPlace, f_wayNotes, f_hasResult, f_resultStart, f_resultEnd, f_resultNotes, a_tokenKind, a_tokenValue, a_text, a_pieceKind, a_pieceValue, a_pieceNext, a_pieceSecond, a_levelGroup, a_levelStart, upd a_levelEntry lv (-1), upd a_branchStart lv (nI 36), upd a_branchEntry lv (-1), a_placesSeen, a_choicePiece, a_choicePlace, a_choiceNotes)) : wpX_endBranch post (f_tokens, f_faultPlace, f_length, nI 36, f_patternEntry, f_hasPattern, f_tooLarge, nI lv, f_groups, f_atomStart, f_atomEntry, f_choices, f_wayPiece, f_wayPlace, f_wayNotes, f_hasResult, f_resultStart, f_resultEnd, f_resultNotes, a_tokenKind, a_tokenValue, a_text, a_pieceKind, a_pieceValue, a_pieceNext, a_pieceSecond, a_levelGroup, a_levelStart, a_levelEntry, a_branchStart, a_branchEntry, a_placesSeen, a_choicePiece, a_choicePlace, a_choiceNotes) := by
  have hv : vp_in (nI lv) 25 := vp_in_nI hl (by omega)
  have ec : (nI lv).toNatClampNeg = lv := nI_clamp (by omega)
  refine ⟨hv, br_f (by rw [ec]; exact he) ⟨hv, hv, ?_⟩⟩
  refine cx_add0 (Nat.le_refl _) (by omega) ?_
  exact ⟨hv, nm_r (by rw [ec]) ⟨hv, nm_r (by rw [ec]) ⟨hv, nm_r (by rw [ec]) h⟩⟩⟩
end XB
end
section
section XC
theorem fg_q_us {K V N S : Nat → Int32} {p : Nat} {k v n s : Int32} : fg_q (upd K p k) (upd V p v) (upd N p n) (upd S p s) p = (k, v, n, s) := by
  unfold fg_q; rw [rl_us, rl_us, rl_us, rl_us]
theorem fg_q_un {K V N S : Nat → Int32} {p j : Nat} {k v n s : Int32} (h : j ≠ p) : fg_q (upd K p k) (upd V p v) (upd N p n) (upd S p s) j = fg_q K V N S j := by
  unfold fg_q; rw [rl_un h, rl_un h, rl_un h, rl_un h]
theorem fg_q_lo {K V N S : Nat → Int32} {s e p : Nat} {t : Int32} (h1 : s ≤ p) (h2 : p < e) : fg_q K V (cx_lo N s e t) (cx_lo S s e t) p = fg_px (fg_mo t) (fg_q K V N S p) := by
  unfold fg_q; rw [cx_lo_in h1 h2, cx_lo_in h1 h2]; rfl
theorem fg_q_ln {K V N S : Nat → Int32} {s e p : Nat} {t : Int32} (h : ¬ (s ≤ p ∧ p < e)) : fg_q K V (cx_lo N s e t) (cx_lo S s e t) p = fg_q K V N S p := by
  unfold fg_q; rw [cx_lo_out h, cx_lo_out h]
variable {f_tokens f_faultPlace f_length f_pieces f_patternEntry f_hasPattern f_tooLarge f_level f_groups f_atomStart f_atomEntry f_choices f_wayPiece f_wayPlace : Int32} {f_wayNotes : Int64} {f_hasResult f_resultStart f_resultEnd : Int32} {f_resultNotes : Int64} {a_tokenKind a_tokenValue a_text a_pieceKind a_pieceValue a_pieceNext a_pieceSecond a_levelGroup a_levelStart a_levelEntry a_branchStart a_branchEntry : Nat → Int32} {a_placesSeen : Nat → Int64} {a_choicePiece a_choicePlace : Nat → Int32} {a_choiceNotes : Nat → Int64}
theorem cx_endOK {lv pc : Nat} (hl : lv < 25) (hp : a_levelEntry lv = -2 ∨ pc < 36) :
    ∃ (pc1 : Nat) (K V N S : Nat → Int32) (e1 : Int32),
      ((a_levelEntry lv = -2 ∧ e1 = a_branchEntry lv ∧ pc1 = pc) ∨ (¬ a_levelEntry lv = -2 ∧ e1 = nI pc ∧ pc1 = pc + 1 ∧ (fg_q K V N S pc).1 = 4 ∧ (fg_q K V N S pc).2.2 = (a_levelEntry lv, a_branchEntry lv))) ∧
      (∀ p, p < pc → fg_q K V N S p = fg_q a_pieceKind a_pieceValue a_pieceNext a_pieceSecond p) ∧
      (∀ post : SX → Prop, post (f_tokens, f_faultPlace, f_length, nI pc1, f_patternEntry, f_hasPattern, f_tooLarge, nI lv, f_groups, f_atomStart, f_atomEntry, f_choices, f_wayPiece, f_wayPlace, f_wayNotes, f_hasResult, f_resultStart, f_resultEnd, f_resultNotes, a_tokenKind, a_tokenValue, a_text, K, V, N, S, a_levelGroup, a_levelStart, upd a_levelEntry lv e1, upd a_branchStart lv (nI pc1), upd a_branchEntry lv (-1), a_placesSeen, a_choicePiece, a_choicePlace, a_choiceNotes) → wpX_endBranch post (f_tokens, f_faultPlace, f_length, nI pc, f_patternEntry, f_hasPattern, f_tooLarge, nI lv, f_groups, f_atomStart, f_atomEntry, f_choices, f_wayPiece, f_wayPlace, f_wayNotes, f_hasResult, f_resultStart, f_resultEnd, f_resultNotes, a_tokenKind, a_tokenValue, a_text, a_pieceKind, a_pieceValue, a_pieceNext, a_pieceSecond, a_levelGroup, a_levelStart, a_levelEntry, a_branchStart, a_branchEntry, a_placesSeen, a_choicePiece, a_choicePlace, a_choiceNotes)) := by
  by_cases e : a_levelEntry lv = -2
  · exact ⟨pc, a_pieceKind, a_pieceValue, a_pieceNext, a_pieceSecond, a_branchEntry lv, Or.inl ⟨e, rfl, rfl⟩, fun _ _ => rfl, fun post h => cx_end1 hl e h⟩
  · have hp' : pc < 36 := hp.resolve_left e
    refine ⟨pc + 1, upd a_pieceKind pc 4, upd a_pieceValue pc 0, upd a_pieceNext pc (a_levelEntry lv), upd a_pieceSecond pc (a_branchEntry lv), nI pc, Or.inr ⟨e, rfl, rfl, ?_, ?_⟩, fun p h => fg_q_un (by omega), fun post h => cx_end2 hl e hp' h⟩
    · rw [fg_q_us]
    · rw [fg_q_us]
/-- a group's two notes around an atom -/
theorem cx_wrapOK {pc a g : Nat} (hg1 : 1 ≤ g) (hg3 : g ≤ 3) (hp : pc + 2 ≤ 36) (ha : a ≤ pc) :
    ∃ (K V N S : Nat → Int32), (∀ p, a ≤ p → p < pc → fg_q K V N S p = fg_px (fg_mo (nI pc)) (fg_q a_pieceKind a_pieceValue a_pieceNext a_pieceSecond p)) ∧ (∀ p, p < a → fg_q K V N S p = fg_q a_pieceKind a_pieceValue a_pieceNext a_pieceSecond p) ∧
      fg_q K V N S pc = (3, nI (2 * (g - 1) + 1), -1, -1) ∧ fg_q K V N S (pc + 1) = (3, nI (2 * (g - 1)), fg_mo (nI pc) f_atomEntry, -1) ∧
      (∀ post : SX → Prop, post (f_tokens, f_faultPlace, f_length, nI (pc + 2), f_patternEntry, f_hasPattern, f_tooLarge, f_level, f_groups, nI a, nI (pc + 1), f_choices, f_wayPiece, f_wayPlace, f_wayNotes, f_hasResult, f_resultStart, f_resultEnd, f_resultNotes, a_tokenKind, a_tokenValue, a_text, K, V, N, S, a_levelGroup, a_levelStart, a_levelEntry, a_branchStart, a_branchEntry, a_placesSeen, a_choicePiece, a_choicePlace, a_choiceNotes) → wpX_wrapAtom post (f_tokens, f_faultPlace, f_length, nI pc, f_patternEntry, f_hasPattern, f_tooLarge, f_level, f_groups, nI a, f_atomEntry, f_choices, f_wayPiece, f_wayPlace, f_wayNotes, f_hasResult, f_resultStart, f_resultEnd, f_resultNotes, a_tokenKind, a_tokenValue, a_text, a_pieceKind, a_pieceValue, a_pieceNext, a_pieceSecond, a_levelGroup, a_levelStart, a_levelEntry, a_branchStart, a_branchEntry, a_placesSeen, a_choicePiece, a_choicePlace, a_choiceNotes) (nI g)) := by
  obtain ⟨e1, e2, _, _⟩ := gr_nn g hg1 hg3
  refine ⟨upd (upd a_pieceKind pc 3) (pc + 1) 3, upd (upd a_pieceValue pc (nI (2 * (g - 1) + 1))) (pc + 1) (nI (2 * (g - 1))), upd (cx_lo (upd a_pieceNext pc (-1)) a pc (nI pc)) (pc + 1) (fg_mo (nI pc) f_atomEntry), upd (cx_lo (upd a_pieceSecond pc (-1)) a pc (nI pc)) (pc + 1) (-1), ?_, ?_, ?_, ?_, ?_⟩
  · intro p p1 p2
    rw [fg_q_un (by omega), fg_q_lo p1 p2, fg_q_un (by omega)]
  · intro p p1
    rw [fg_q_un (by omega), fg_q_ln (by omega), fg_q_un (by omega)]
  · rw [fg_q_un (by omega), fg_q_ln (by omega), fg_q_us]
  · rw [fg_q_us]
  · intro post h
    refine br_t rfl (br_f (by decide) ?_)
    rw [e1, e2]
    refine cx_add (by omega) ?_
    refine cx_lead (by omega) (by omega) ?_
    by_cases e : f_atomEntry = -1
    · rw [show fg_mo (nI pc) f_atomEntry = nI pc from if_pos e] at h
      refine br_t e ?_
      exact cx_add (pc := pc + 1) (by omega) h
    · rw [show fg_mo (nI pc) f_atomEntry = f_atomEntry from if_neg e] at h
      refine br_f e ?_
      exact cx_add (pc := pc + 1) (by omega) h
theorem cx_wrapL {post : SX → Prop} {pc a g : Nat} (hg1 : 1 ≤ g) (hg3 : g ≤ 3) (hp : 34 < pc) (hp2 : pc ≤ 36) (ha : a ≤ pc)
    (h : ∀ (K V N S : Nat → Int32), post (f_tokens, f_faultPlace, f_length, nI 36, f_patternEntry, f_hasPattern, 1, f_level, f_groups, nI a, (-1), f_choices, f_wayPiece, f_wayPlace, f_wayNotes, f_hasResult, f_resultStart, f_resultEnd, f_resultNotes, a_tokenKind, a_tokenValue, a_text, K, V, N, S, a_levelGroup, a_levelStart, a_levelEntry, a_branchStart, a_branchEntry, a_placesSeen, a_choicePiece, a_choicePlace, a_choiceNotes)) : wpX_wrapAtom post (f_tokens, f_faultPlace, f_length, nI pc, f_patternEntry, f_hasPattern, f_tooLarge, f_level, f_groups, nI a, f_atomEntry, f_choices, f_wayPiece, f_wayPlace, f_wayNotes, f_hasResult, f_resultStart, f_resultEnd, f_resultNotes, a_tokenKind, a_tokenValue, a_text, a_pieceKind, a_pieceValue, a_pieceNext, a_pieceSecond, a_levelGroup, a_levelStart, a_levelEntry, a_branchStart, a_branchEntry, a_placesSeen, a_choicePiece, a_choicePlace, a_choiceNotes) (nI g) := by
  obtain ⟨e1, e2, _, _⟩ := gr_nn g hg1 hg3
  refine br_t rfl (br_f (by decide) ?_)
  rw [e1, e2]
  by_cases e35 : pc = 35
  · subst e35
    refine cx_add (by omega) ?_
    refine cx_lead (by omega) (by omega) ?_
    by_cases e : f_atomEntry = -1
    · exact br_t e (cx_add0 (pc := 36) (by omega) (by omega) (h _ _ _ _))
    · exact br_f e (cx_add0 (pc := 36) (by omega) (by omega) (h _ _ _ _))
  · obtain rfl : pc = 36 := by omega
    refine cx_add0 (by omega) (by omega) ?_
    refine cx_lead (by omega) (by omega) ?_
    by_cases e : f_atomEntry = -1
    · exact br_t e (cx_add0 (pc := 36) (by omega) (by omega) (h _ _ _ _))
    · exact br_f e (cx_add0 (pc := 36) (by omega) (by omega) (h _ _ _ _))
/-- the star over [s, pc) -/
theorem cx_starOK {pc s : Nat} {en lz : Int32} (hz : lz = 0 ∨ lz = 1) (hp : pc < 36) (hs : s ≤ pc) :
    ∃ (K V N S : Nat → Int32), (∀ p, s ≤ p → p < pc → fg_q K V N S p = fg_px (fg_mo (nI pc)) (fg_q a_pieceKind a_pieceValue a_pieceNext a_pieceSecond p)) ∧ (∀ p, p < s → fg_q K V N S p = fg_q a_pieceKind a_pieceValue a_pieceNext a_pieceSecond p) ∧
      (fg_q K V N S pc).1 = 4 ∧ ((lz = 0 ∧ (fg_q K V N S pc).2.2 = (fg_mo (nI pc) en, -1)) ∨ (lz = 1 ∧ (fg_q K V N S pc).2.2 = (-1, fg_mo (nI pc) en))) ∧
      (∀ post : Int32 → SX → Prop, post (nI pc) (f_tokens, f_faultPlace, f_length, nI (pc + 1), f_patternEntry, f_hasPattern, f_tooLarge, f_level, f_groups, f_atomStart, f_atomEntry, f_choices, f_wayPiece, f_wayPlace, f_wayNotes, f_hasResult, f_resultStart, f_resultEnd, f_resultNotes, a_tokenKind, a_tokenValue, a_text, K, V, N, S, a_levelGroup, a_levelStart, a_levelEntry, a_branchStart, a_branchEntry, a_placesSeen, a_choicePiece, a_choicePlace, a_choiceNotes) → wpX_addStar post (f_tokens, f_faultPlace, f_length, nI pc, f_patternEntry, f_hasPattern, f_tooLarge, f_level, f_groups, f_atomStart, f_atomEntry, f_choices, f_wayPiece, f_wayPlace, f_wayNotes, f_hasResult, f_resultStart, f_resultEnd, f_resultNotes, a_tokenKind, a_tokenValue, a_text, a_pieceKind, a_pieceValue, a_pieceNext, a_pieceSecond, a_levelGroup, a_levelStart, a_levelEntry, a_branchStart, a_branchEntry, a_placesSeen, a_choicePiece, a_choicePlace, a_choiceNotes) (nI s) en lz) := by
  have key : ∀ (post : Int32 → SX → Prop), wX_addStar_17 post (nI s) lz (nI pc) (fg_mo (nI pc) en) f_tokens f_faultPlace f_length (nI pc) f_patternEntry f_hasPattern f_tooLarge f_level f_groups f_atomStart f_atomEntry f_choices f_wayPiece f_wayPlace f_wayNotes f_hasResult f_resultStart f_resultEnd f_resultNotes a_tokenKind a_tokenValue a_text a_pieceKind a_pieceValue a_pieceNext a_pieceSecond a_levelGroup a_levelStart a_levelEntry a_branchStart a_branchEntry a_placesSeen a_choicePiece a_choicePlace a_choiceNotes → wpX_addStar post (f_tokens, f_faultPlace, f_length, nI pc, f_patternEntry, f_hasPattern, f_tooLarge, f_level, f_groups, f_atomStart, f_atomEntry, f_choices, f_wayPiece, f_wayPlace, f_wayNotes, f_hasResult, f_resultStart, f_resultEnd, f_resultNotes, a_tokenKind, a_tokenValue, a_text, a_pieceKind, a_pieceValue, a_pieceNext, a_pieceSecond, a_levelGroup, a_levelStart, a_levelEntry, a_branchStart, a_branchEntry, a_placesSeen, a_choicePiece, a_choicePlace, a_choiceNotes) (nI s) en lz := by
    intro post h
    by_cases e : en = -1
    · rw [show fg_mo (nI pc) en = nI pc from if_pos e] at h
      exact br_t e h
    · rw [show fg_mo (nI pc) en = en from if_neg e] at h
      exact br_f e h
  rcases hz with hz | hz
  · subst hz
    refine ⟨upd a_pieceKind pc 4, upd a_pieceValue pc 0, upd (cx_lo a_pieceNext s pc (nI pc)) pc (fg_mo (nI pc) en), upd (cx_lo a_pieceSecond s pc (nI pc)) pc (-1), ?_, ?_, ?_, Or.inl ⟨rfl, ?_⟩, ?_⟩
    · intro p p1 p2
      rw [fg_q_un (by omega), fg_q_lo p1 p2]
    · intro p p1
      rw [fg_q_un (by omega), fg_q_ln (by omega)]
    · rw [fg_q_us]
    · rw [fg_q_us]
    · intro post h
      refine key post ?_
      refine cx_lead (by omega) (by omega) ?_
      exact br_t rfl (cx_add hp h)
  · subst hz
    refine ⟨upd a_pieceKind pc 4, upd a_pieceValue pc 0, upd (cx_lo a_pieceNext s pc (nI pc)) pc (-1), upd (cx_lo a_pieceSecond s pc (nI pc)) pc (fg_mo (nI pc) en), ?_, ?_, ?_, Or.inr ⟨rfl, ?_⟩, ?_⟩
    · intro p p1 p2
      rw [fg_q_un (by omega), fg_q_lo p1 p2]
    · intro p p1
      rw [fg_q_un (by omega), fg_q_ln (by omega)]
    · rw [fg_q_us]
    · rw [fg_q_us]
    · intro post h
      refine key post ?_
      refine cx_lead (by omega) (by omega) ?_
      exact br_f (by decide) (cx_add hp h)
theorem cx_starL {post : Int32 → SX → Prop} {s : Nat} {en lz : Int32} (hs : s ≤ 36)
    (h : ∀ (N S : Nat → Int32), post (-1) (f_tokens, f_faultPlace, f_length, nI 36, f_patternEntry, f_hasPattern, 1, f_level, f_groups, f_atomStart, f_atomEntry, f_choices, f_wayPiece, f_wayPlace, f_wayNotes, f_hasResult, f_resultStart, f_resultEnd, f_resultNotes, a_tokenKind, a_tokenValue, a_text, a_pieceKind, a_pieceValue, N, S, a_levelGroup, a_levelStart, a_levelEntry, a_branchStart, a_branchEntry, a_placesSeen, a_choicePiece, a_choicePlace, a_choiceNotes)) : wpX_addStar post (f_tokens, f_faultPlace, f_length, nI 36, f_patternEntry, f_hasPattern, f_tooLarge, f_level, f_groups, f_atomStart, f_atomEntry, f_choices, f_wayPiece, f_wayPlace, f_wayNotes, f_hasResult, f_resultStart, f_resultEnd, f_resultNotes, a_tokenKind, a_tokenValue, a_text, a_pieceKind, a_pieceValue, a_pieceNext, a_pieceSecond, a_levelGroup, a_levelStart, a_levelEntry, a_branchStart, a_branchEntry, a_placesSeen, a_choicePiece, a_choicePlace, a_choiceNotes) (nI s) en lz := by
  have key : ∀ z : Int32, wX_addStar_17 post (nI s) lz (nI 36) z f_tokens f_faultPlace f_length (nI 36) f_patternEntry f_hasPattern f_tooLarge f_level f_groups f_atomStart f_atomEntry f_choices f_wayPiece f_wayPlace f_wayNotes f_hasResult f_resultStart f_resultEnd f_resultNotes a_tokenKind a_tokenValue a_text a_pieceKind a_pieceValue a_pieceNext a_pieceSecond a_levelGroup a_levelStart a_levelEntry a_branchStart a_branchEntry a_placesSeen a_choicePiece a_choicePlace a_choiceNotes := by
    intro z
    refine cx_lead (by omega) hs ?_
    by_cases e : lz = 0
    · exact br_t e (cx_add0 (pc := 36) (by omega) (by omega) (h _ _))
    · exact br_f e (cx_add0 (pc := 36) (by omega) (by omega) (h _ _))
  by_cases e : en = -1
  · exact br_t e (key _)
  · exact br_f e (key _)
end XC
end
section
section XD
def cx_ck (a sz : Nat) (g : Int32 → Int32) (f : Nat → Int32) : Nat → Nat → Int32
  | 0 => f
  | i + 1 => upd (cx_ck a sz g f i) (a + i + sz) (g (cx_ck a sz g f i (a + i)))
theorem cx_ck_lo {a sz : Nat} {g : Int32 → Int32} {f : Nat → Int32} {p : Nat} (h : p < a + sz) : ∀ i, cx_ck a sz g f i p = f p
  | 0 => rfl
  | i + 1 => by
    show upd _ _ _ p = _
    rw [rl_un (by omega), cx_ck_lo h i]
theorem cx_ck_cp {a sz : Nat} {g : Int32 → Int32} {f : Nat → Int32} (hz : 0 < sz) : ∀ (i j : Nat), j < i → cx_ck a sz g f i (a + j + sz) = g (cx_ck a sz g f i (a + j))
  | 0, j, h => by omega
  | i + 1, j, h => by
    show upd _ _ _ (a + j + sz) = g (upd _ _ _ (a + j))
    rw [rl_un (f := cx_ck a sz g f i) (j := a + j) (by omega)]
    by_cases e : j = i
    · rw [e, rl_us]
    · rw [rl_un (by omega), cx_ck_cp hz i j (by omega)]
variable {f_tokens f_faultPlace f_length f_pieces f_patternEntry f_hasPattern f_tooLarge f_level f_groups f_atomStart f_atomEntry f_choices f_wayPiece f_wayPlace : Int32} {f_wayNotes : Int64} {f_hasResult f_resultStart f_resultEnd : Int32} {f_resultNotes : Int64} {a_tokenKind a_tokenValue a_text a_pieceKind a_pieceValue a_pieceNext a_pieceSecond a_levelGroup a_levelStart a_levelEntry a_branchStart a_branchEntry : Nat → Int32} {a_placesSeen : Nat → Int64} {a_choicePiece a_choicePlace : Nat → Int32} {a_choiceNotes : Nat → Int64}
theorem cx_moved {post : Int32 → Prop} {y : Int32} {k : Nat} (h : post (fg_mv k y)) : wpX_moved post y (nI k) := by
  by_cases e : y = -1
  · rw [show fg_mv k y = -1 from if_pos e] at h
    exact br_t e h
  · rw [show fg_mv k y = y + nI k from if_neg e] at h
    exact br_f e h
theorem cx_cp24 {post : SX → Prop} {a sz pc n : Nat} (hpc : pc = a + sz) (hn : pc + n ≤ 36) (hz : n = 0 ∨ 0 < sz)
    (h : post (f_tokens, f_faultPlace, f_length, nI (pc + n), f_patternEntry, f_hasPattern, f_tooLarge, f_level, f_groups, nI a, f_atomEntry, f_choices, f_wayPiece, f_wayPlace, f_wayNotes, f_hasResult, f_resultStart, f_resultEnd, f_resultNotes, a_tokenKind, a_tokenValue, a_text, cx_ck a sz id a_pieceKind n, cx_ck a sz id a_pieceValue n, cx_ck a sz (fg_mv sz) a_pieceNext n, cx_ck a sz (fg_mv sz) a_pieceSecond n, a_levelGroup, a_levelStart, a_levelEntry, a_branchStart, a_branchEntry, a_placesSeen, a_choicePiece, a_choicePlace, a_choiceNotes)) : ∀ (d i : Nat), i + d = n →
    wX_copyAtom_24 post (nI sz) (nI n) f_tokens f_faultPlace f_length (nI pc) f_patternEntry f_hasPattern f_tooLarge f_level f_groups (nI a) f_atomEntry f_choices f_wayPiece f_wayPlace f_wayNotes f_hasResult f_resultStart f_resultEnd f_resultNotes (d + 1) (nI i) a_tokenKind a_tokenValue a_text (cx_ck a sz id a_pieceKind i) (cx_ck a sz id a_pieceValue i) (cx_ck a sz (fg_mv sz) a_pieceNext i) (cx_ck a sz (fg_mv sz) a_pieceSecond i) a_levelGroup a_levelStart a_levelEntry a_branchStart a_branchEntry a_placesSeen a_choicePiece a_choicePlace a_choiceNotes := by
  intro d
  induction d with
  | zero =>
    intro i hi
    obtain rfl : i = n := by omega
    exact br_t (nI_le (Nat.le_refl _) (by omega)) (nm_r (nI_add pc i) h)
  | succ d ih =>
    intro i hi
    have hv1 : vp_in (nI (a + i)) 36 := vp_in_nI (by omega) (by omega)
    have hv2 : vp_in (nI (a + i + sz)) 36 := vp_in_nI (by omega) (by omega)
    have e1 : (nI (a + i)).toNatClampNeg = a + i := nI_clamp (by omega)
    have e2 : (nI (a + i + sz)).toNatClampNeg = a + i + sz := nI_clamp (by omega)
    refine br_f (nI_ge (by omega) (by omega)) (nm_r (nI_add a i) (nm_r (nI_add (a + i) sz) ?_))
    rw [e1, e2]
    refine ⟨hv1, hv2, nm_e ⟨hv1, hv2, nm_e ⟨hv1, cx_moved ⟨hv2, nm_e ⟨hv1, cx_moved ⟨hv2, nm_e (nm_r (nI_1 i) ?_)⟩⟩⟩⟩⟩⟩
    exact ih (i + 1) (by omega)
theorem cx_copyOK {a sz t pc : Nat} (hpc : pc = a + sz) (hn : pc + sz * t ≤ 36) (ht : t ≤ 4) :
    ∃ (K V N S : Nat → Int32), (∀ p, p < pc → fg_q K V N S p = fg_q a_pieceKind a_pieceValue a_pieceNext a_pieceSecond p) ∧ (∀ j, j < sz * t → fg_q K V N S (a + j + sz) = fg_px (fg_mv sz) (fg_q K V N S (a + j))) ∧
      (∀ post : SX → Prop, post (f_tokens, f_faultPlace, f_length, nI (pc + sz * t), f_patternEntry, f_hasPattern, f_tooLarge, f_level, f_groups, nI a, f_atomEntry, f_choices, f_wayPiece, f_wayPlace, f_wayNotes, f_hasResult, f_resultStart, f_resultEnd, f_resultNotes, a_tokenKind, a_tokenValue, a_text, K, V, N, S, a_levelGroup, a_levelStart, a_levelEntry, a_branchStart, a_branchEntry, a_placesSeen, a_choicePiece, a_choicePlace, a_choiceNotes) → wpX_copyAtom post (f_tokens, f_faultPlace, f_length, nI pc, f_patternEntry, f_hasPattern, f_tooLarge, f_level, f_groups, nI a, f_atomEntry, f_choices, f_wayPiece, f_wayPlace, f_wayNotes, f_hasResult, f_resultStart, f_resultEnd, f_resultNotes, a_tokenKind, a_tokenValue, a_text, a_pieceKind, a_pieceValue, a_pieceNext, a_pieceSecond, a_levelGroup, a_levelStart, a_levelEntry, a_branchStart, a_branchEntry, a_placesSeen, a_choicePiece, a_choicePlace, a_choiceNotes) (nI sz) (nI t)) := by
  refine ⟨cx_ck a sz id a_pieceKind (sz * t), cx_ck a sz id a_pieceValue (sz * t), cx_ck a sz (fg_mv sz) a_pieceNext (sz * t), cx_ck a sz (fg_mv sz) a_pieceSecond (sz * t), ?_, ?_, ?_⟩
  · intro p hp
    unfold fg_q
    rw [cx_ck_lo (by omega), cx_ck_lo (by omega), cx_ck_lo (by omega), cx_ck_lo (by omega)]
  · intro j hj
    have hz : 0 < sz := by
      rcases Nat.eq_zero_or_pos sz with h | h
      · rw [h, Nat.zero_mul] at hj; omega
      · exact h
    unfold fg_q
    rw [cx_ck_cp hz _ j hj, cx_ck_cp hz _ j hj, cx_ck_cp hz _ j hj, cx_ck_cp hz _ j hj]
    rfl
  · intro post h
    have hb : sz * t < 2 ^ 31 := by omega
    refine nm_r (pk_mul sz t) ?_
    rw [nI_add]
    refine br_t (nI_le (b := 36) hn (by omega)) ⟨sz * t + 1, ?_⟩
    exact cx_cp24 hpc hn (by
      rcases Nat.eq_zero_or_pos sz with h | h
      · exact Or.inl (by rw [h, Nat.zero_mul])
      · exact Or.inr h) h (sz * t) 0 (by omega)
theorem cx_copyL {post : SX → Prop} {a sz t pc : Nat} (hs : sz ≤ 36) (hp : pc ≤ 36) (ht : t ≤ 4) (hn : ¬ pc + sz * t ≤ 36) (h : post (f_tokens, f_faultPlace, f_length, nI pc, f_patternEntry, f_hasPattern, 1, f_level, f_groups, nI a, f_atomEntry, f_choices, f_wayPiece, f_wayPlace, f_wayNotes, f_hasResult, f_resultStart, f_resultEnd, f_resultNotes, a_tokenKind, a_tokenValue, a_text, a_pieceKind, a_pieceValue, a_pieceNext, a_pieceSecond, a_levelGroup, a_levelStart, a_levelEntry, a_branchStart, a_branchEntry, a_placesSeen, a_choicePiece, a_choicePlace, a_choiceNotes)) : wpX_copyAtom post (f_tokens, f_faultPlace, f_length, nI pc, f_patternEntry, f_hasPattern, f_tooLarge, f_level, f_groups, nI a, f_atomEntry, f_choices, f_wayPiece, f_wayPlace, f_wayNotes, f_hasResult, f_resultStart, f_resultEnd, f_resultNotes, a_tokenKind, a_tokenValue, a_text, a_pieceKind, a_pieceValue, a_pieceNext, a_pieceSecond, a_levelGroup, a_levelStart, a_levelEntry, a_branchStart, a_branchEntry, a_placesSeen, a_choicePiece, a_choicePlace, a_choiceNotes) (nI sz) (nI t) := by
  have hb : sz * t ≤ 36 * 4 := Nat.mul_le_mul hs ht
  refine nm_r (pk_mul sz t) ?_
  rw [nI_add]
  exact br_f (nI_ge (b := pc + sz * t) (a := 36) (by omega) (by omega)) h
end XD
end
section
section QF
def cq_v (n : Nat) (y : Int32) : Prop := y = -1 ∨ ∃ q, q < n ∧ y = nI q
/-! the quantifiers on fragments -/
def qf_S (m : Nat → fg_I) (p t1 t2 : Nat) : Prop := (m p).1 = 3 ∧ nI p + (m p).2.2.1 = nI t1 ∧ nI p + (m p).2.2.2 = nI t2
def qf_J (m : Nat → fg_I) (p t : Nat) : Prop := (m p).1 = 4 ∧ nI p + (m p).2.2.1 = nI t
theorem qf_star {m m' x x' : Nat → fg_I} {o n a pc : Nat} {ae lz : Int32} (h : fg_F m x o (o + n) a pc ae) (hpc : pc < 999)
    (hc : ∀ j, j < n → m' (o + 1 + j) = m (o + j)) (hs : (lz = 0 ∧ qf_S m' o (o + 1) (o + n + 2)) ∨ (lz = 1 ∧ qf_S m' o (o + n + 2) (o + 1))) (hj : qf_J m' (o + n + 1) o)
    (hx : ∀ p, a ≤ p → p < pc → x' p = fg_px (fg_mo (nI pc)) (x p)) (hk : (x' pc).1 = 4)
    (hk2 : (lz = 0 ∧ (x' pc).2.2 = (fg_mo (nI pc) ae, -1)) ∨ (lz = 1 ∧ (x' pc).2.2 = (-1, fg_mo (nI pc) ae))) : fg_F m' x' o (o + n + 2) a (pc + 1) (nI pc) := by
  have h1 : fg_F m' x (o + 1) (o + n + 1) a pc ae := fg_shiftY 1 h (fun j j1 j2 => by
    have := hc (j - o) (by omega)
    rw [show o + 1 + (j - o) = j + 1 by omega, show o + (j - o) = j by omega] at this
    exact this)
  have h01 : ¬ (0 : Int32) = 1 := by decide
  refine fg_fork (w := 1) (T := nI pc) h1 hpc ?_ (Or.inr ⟨rfl, rfl, hj.1, hj.2⟩) hx hk ?_
  · rcases hs with ⟨_, h⟩ | ⟨_, h⟩ <;> exact h.1
  · rcases hs with ⟨z, h⟩ | ⟨z, h⟩
    · rcases hk2 with ⟨_, k⟩ | ⟨z', _⟩
      · exact Or.inl ⟨h.2.1, h.2.2, k⟩
      · rw [z] at z'; exact absurd z' h01
    · rcases hk2 with ⟨z', _⟩ | ⟨_, k⟩
      · rw [z] at z'; exact absurd z'.symm h01
      · exact Or.inr ⟨h.2.1, h.2.2, k⟩
theorem qf_opt {m m' x x' : Nat → fg_I} {o n a pc : Nat} {ae lz : Int32} (h : fg_F m x o (o + n) a pc ae) (hpc : pc < 999)
    (hc : ∀ j, j < n → m' (o + 1 + j) = m (o + j)) (hs : (lz = 0 ∧ qf_S m' o (o + 1) (o + n + 1)) ∨ (lz = 1 ∧ qf_S m' o (o + n + 1) (o + 1)))
    (hx : ∀ p, a ≤ p → p < pc → x' p = x p) (hk : (x' pc).1 = 4)
    (hk2 : (lz = 0 ∧ (x' pc).2.2 = (ae, -1)) ∨ (lz = 1 ∧ (x' pc).2.2 = (-1, ae))) : fg_F m' x' o (o + n + 1) a (pc + 1) (nI pc) := by
  have h1 : fg_F m' x (o + 1) (o + n + 1) a pc ae := fg_shiftY 1 h (fun j j1 j2 => by
    have := hc (j - o) (by omega)
    rw [show o + 1 + (j - o) = j + 1 by omega, show o + (j - o) = j by omega] at this
    exact this)
  have h01 : ¬ (0 : Int32) = 1 := by decide
  refine fg_fork (w := 0) (T := -1) h1 hpc ?_ (Or.inl ⟨rfl, rfl⟩) (fun p p1 p2 => by rw [hx p p1 p2, fg_px_id]) hk ?_
  · rcases hs with ⟨_, h⟩ | ⟨_, h⟩ <;> exact h.1
  · rw [fg_mo_id]
    rcases hs with ⟨z, h⟩ | ⟨z, h⟩
    · rcases hk2 with ⟨_, k⟩ | ⟨z', _⟩
      · exact Or.inl ⟨h.2.1, h.2.2, k⟩
      · rw [z] at z'; exact absurd z' h01
    · rcases hk2 with ⟨z', _⟩ | ⟨_, k⟩
      · rw [z] at z'; exact absurd z'.symm h01
      · exact Or.inr ⟨h.2.1, h.2.2, k⟩
theorem qf_plus {m m' x x1 x2 x3 : Nat → fg_I} {o n a sz : Nat} {ae lz : Int32} (h : fg_F m x o (o + n) a (a + sz) ae) (hpc : a + sz + sz < 999)
    (hc0 : ∀ j, j < n → m' (o + j) = m (o + j)) (hc1 : ∀ j, j < n → m' (o + n + 1 + j) = m (o + j))
    (hs : (lz = 0 ∧ qf_S m' (o + n) (o + n + 1) (o + n + n + 2)) ∨ (lz = 1 ∧ qf_S m' (o + n) (o + n + n + 2) (o + n + 1))) (hj : qf_J m' (o + n + n + 1) (o + n))
    (y1 : ∀ p, p < a + sz → x1 p = x p) (y2 : ∀ j, j < sz → x1 (a + j + sz) = fg_px (fg_mv sz) (x1 (a + j)))
    (z1 : ∀ p, a + sz ≤ p → p < a + sz + sz → x2 p = fg_px (fg_mo (nI (a + sz + sz))) (x1 p)) (z2 : ∀ p, p < a + sz → x2 p = x1 p) (hk : (x2 (a + sz + sz)).1 = 4)
    (hk2 : (lz = 0 ∧ (x2 (a + sz + sz)).2.2 = (fg_mo (nI (a + sz + sz)) (fg_mv sz ae), -1)) ∨ (lz = 1 ∧ (x2 (a + sz + sz)).2.2 = (-1, fg_mo (nI (a + sz + sz)) (fg_mv sz ae))))
    (w1 : ∀ p, a ≤ p → p < a + sz → x3 p = fg_px (fg_mo (nI (a + sz + sz))) (x2 p)) (w2 : ∀ p, a + sz ≤ p → x3 p = x2 p) :
    fg_F m' x3 o (o + n + n + 2) a (a + sz + sz + 1) (fg_mo (nI (a + sz + sz)) ae) := by
  have F1 : fg_F m' x2 o (o + n) a (a + sz) ae := fg_frame h (fun j j1 j2 => by
    have := hc0 (j - o) (by omega)
    rw [show o + (j - o) = j by omega] at this
    exact this) (fun p p1 p2 => by rw [z2 p p2, y1 p p2])
  have F2 : fg_F m' x1 (o + (n + 1)) (o + n + (n + 1)) (a + sz) (a + sz + sz) (fg_mv sz ae) := fg_shift (n + 1) sz h (by omega) (fun j j1 j2 => by
    have := hc1 (j - o) (by omega)
    rw [show o + n + 1 + (j - o) = j + (n + 1) by omega, show o + (j - o) = j by omega] at this
    exact this) (fun p p1 p2 => by
      have := y2 (p - a) (by omega)
      rw [show a + (p - a) + sz = p + sz by omega, show a + (p - a) = p by omega, y1 p p2] at this
      exact this)
  have h01 : ¬ (0 : Int32) = 1 := by decide
  have F3 : fg_F m' x2 (o + n) (o + n + (n + 1) + 1) (a + sz) (a + sz + sz + 1) (nI (a + sz + sz)) := by
    refine fg_fork (w := 1) (T := nI (a + sz + sz)) F2 (by omega) ?_ (Or.inr ⟨rfl, rfl, hj.1, hj.2⟩) z1 hk ?_
    · rcases hs with ⟨_, h⟩ | ⟨_, h⟩ <;> exact h.1
    · rcases hs with ⟨z, h⟩ | ⟨z, h⟩
      · rcases hk2 with ⟨_, k⟩ | ⟨z', _⟩
        · exact Or.inl ⟨h.2.1, h.2.2, k⟩
        · rw [z] at z'; exact absurd z' h01
      · rcases hk2 with ⟨z', _⟩ | ⟨_, k⟩
        · rw [z] at z'; exact absurd z'.symm h01
        · exact Or.inr ⟨h.2.1, h.2.2, k⟩
  exact fg_seq F1 F3 (by omega) w1 (fun p p1 _ => w2 p p1)
/-! counted: where copy c begins -/
def qf_at (o n least c : Nat) : Nat := o + c * n + (c - least)
def qf_ca (o n least c : Nat) : Nat := qf_at o n least c + (if least ≤ c then 1 else 0)
theorem qf_ca_n (o n least c : Nat) : qf_ca o n least c + n = qf_at o n least (c + 1) := by
  unfold qf_ca qf_at
  rw [Nat.add_mul]
  split <;> omega
theorem qf_at_0 (o n least : Nat) : qf_at o n least 0 = o := by
  unfold qf_at; omega
theorem qf_at_le (o n least : Nat) {c d : Nat} (h : c ≤ d) : qf_at o n least c ≤ qf_at o n least d := by
  unfold qf_at
  have := Nat.mul_le_mul_right n h
  omega
/-- the entry of copy c, as the component reckons it -/
def qf_en (ae : Int32) (sz c : Nat) (b : Int32) : Int32 := if ae = -1 then b else ae + nI (c * sz)
theorem qf_en_F {ae b : Int32} {sz c q : Nat} (h : ae = -1 ∨ ∃ q, q < 1000 ∧ ae = nI q) (hc : c * sz < 1000) : qf_en ae sz c b = fg_mo b (fg_mv (c * sz) ae) := by
  rcases h with h | ⟨q, q1, q2⟩
  · rw [h, fg_mv_m, fg_mo_m]; exact if_pos rfl
  · rw [q2, fg_mv_n (by omega), fg_mo_n (by omega)]
    unfold qf_en
    rw [if_neg (fg_ne (by omega)), nI_add]
theorem fg_F_en {m x : Nat → fg_I} {a b s e : Nat} {en : Int32} (h : fg_F m x a b s e en) (he : e ≤ 1000) : en = -1 ∨ ∃ q, q < 1000 ∧ en = nI q := by
  obtain ⟨g1, g2, g3, g4, g5, r, ch, l, pr, sb, u, ad, pa, ra, rb, ca, cb, H⟩ := h
  rcases fg_B_r H (Nat.le_refl a) g1 ca with h | ⟨q, q1, q2, q3, q4⟩
  · exact Or.inl (by rw [← ra]; exact h)
  · exact Or.inr ⟨q, by omega, by rw [← ra]; exact q4⟩
/-- the copies, each a fragment at its place -/
theorem qf_copies {m m' x x1 : Nat → fg_I} {o n a sz least most : Nat} {ae : Int32} (h : fg_F m x o (o + n) a (a + sz) ae) (hb : a + most * sz < 999) (hb0 : a + sz < 999)
    (hc : ∀ c j, c < most → j < n → m' (qf_ca o n least c + j) = m (o + j))
    (y1 : ∀ p, p < a + sz → x1 p = x p) (y2 : ∀ j, j < sz * (most - 1) → x1 (a + j + sz) = fg_px (fg_mv sz) (x1 (a + j))) :
    ∀ c, c < most → fg_F m' x1 (qf_ca o n least c) (qf_ca o n least c + n) (a + c * sz) (a + (c + 1) * sz) (fg_mv (c * sz) ae) := by
  have hae := fg_F_en h (by omega)
  have base : ∀ c, c < most → fg_F m x1 o (o + n) (a + c * sz) (a + (c + 1) * sz) (fg_mv (c * sz) ae) := by
    intro c
    induction c with
    | zero =>
      intro _
      have e : fg_mv (0 * sz) ae = ae := by
        rcases hae with h | ⟨q, q1, q2⟩
        · rw [h, fg_mv_m]
        · rw [q2, fg_mv_n (by omega), Nat.zero_mul, Nat.add_zero]
      rw [e, Nat.zero_mul, Nat.zero_add, Nat.one_mul, Nat.add_zero]
      exact fg_frame h (fun _ _ _ => rfl) (fun p _ p2 => y1 p p2)
    | succ c ih =>
      intro hcm
      have F := ih (by omega)
      have hle : (c + 1 + 1) * sz ≤ most * sz := Nat.mul_le_mul_right sz (by omega)
      have e1 : (c + 1) * sz = c * sz + sz := Nat.succ_mul c sz
      have e2 : (c + 1 + 1) * sz = c * sz + sz + sz := by rw [Nat.succ_mul, e1]
      have hmm : sz * (c + 1) ≤ sz * (most - 1) := Nat.mul_le_mul_left sz (by omega)
      have e3 : sz * (c + 1) = c * sz + sz := by rw [Nat.mul_comm, e1]
      have G := fg_shift (m' := m) (x' := x1) 0 sz F (by omega) (fun _ _ _ => rfl) (fun p p1 p2 => by
        have := y2 (p - a) (by omega)
        rw [show a + (p - a) + sz = p + sz by omega, show a + (p - a) = p by omega] at this
        exact this)
      have e4 : fg_mv sz (fg_mv (c * sz) ae) = fg_mv ((c + 1) * sz) ae := by
        rcases hae with h | ⟨q, q1, q2⟩
        · rw [h, fg_mv_m, fg_mv_m, fg_mv_m]
        · rw [q2, fg_mv_n (by omega), fg_mv_n (by omega), fg_mv_n (by omega)]
          congr 1
          omega
      rw [e4] at G
      rw [show a + (c + 1) * sz = a + c * sz + sz by omega, show a + (c + 1 + 1) * sz = a + (c + 1) * sz + sz by omega]
      exact G
  intro c hcm
  have F := base c hcm
  have e : qf_ca o n least c = o + (qf_ca o n least c - o) := by
    unfold qf_ca qf_at
    split <;> omega
  have G := fg_shiftY (m' := m') (qf_ca o n least c - o) F (fun j j1 j2 => by
    have := hc c (j - o) hcm (by omega)
    rw [show qf_ca o n least c + (j - o) = j + (qf_ca o n least c - o) by omega, show o + (j - o) = j by omega] at this
    exact this)
  rw [show o + n + (qf_ca o n least c - o) = qf_ca o n least c + n by omega, ← e] at G
  exact G
end QF
end
section
section XQ
variable {f_tokens f_faultPlace f_length f_pieces f_patternEntry f_hasPattern f_tooLarge f_level f_groups f_atomStart f_atomEntry f_choices f_wayPiece f_wayPlace : Int32} {f_wayNotes : Int64} {f_hasResult f_resultStart f_resultEnd : Int32} {f_resultNotes : Int64} {a_tokenKind a_tokenValue a_text a_pieceKind a_pieceValue a_pieceNext a_pieceSecond a_levelGroup a_levelStart a_levelEntry a_branchStart a_branchEntry : Nat → Int32} {a_placesSeen : Nat → Int64} {a_choicePiece a_choicePlace : Nat → Int32} {a_choiceNotes : Nat → Int64}
/-- once or more -/
theorem xq_plusOK {a sz : Nat} {lz : Int32} (hz : lz = 0 ∨ lz = 1) (hp : a + sz + sz + 1 ≤ 36) :
    ∃ (K V N S : Nat → Int32), (∀ p, p < a → fg_q K V N S p = fg_q a_pieceKind a_pieceValue a_pieceNext a_pieceSecond p) ∧
      (∀ (m m' : Nat → fg_I) (o n : Nat), fg_F m (fg_q a_pieceKind a_pieceValue a_pieceNext a_pieceSecond) o (o + n) a (a + sz) f_atomEntry → (∀ j, j < n → m' (o + j) = m (o + j)) → (∀ j, j < n → m' (o + n + 1 + j) = m (o + j)) →
        ((lz = 0 ∧ qf_S m' (o + n) (o + n + 1) (o + n + n + 2)) ∨ (lz = 1 ∧ qf_S m' (o + n) (o + n + n + 2) (o + n + 1))) → qf_J m' (o + n + n + 1) (o + n) → fg_F m' (fg_q K V N S) o (o + n + n + 2) a (a + sz + sz + 1) (fg_mo (nI (a + sz + sz)) f_atomEntry)) ∧
      (∀ post : SX → Prop, post (f_tokens, f_faultPlace, f_length, nI (a + sz + sz + 1), f_patternEntry, f_hasPattern, 0, f_level, f_groups, nI a, fg_mo (nI (a + sz + sz)) f_atomEntry, f_choices, f_wayPiece, f_wayPlace, f_wayNotes, f_hasResult, f_resultStart, f_resultEnd, f_resultNotes, a_tokenKind, a_tokenValue, a_text, K, V, N, S, a_levelGroup, a_levelStart, a_levelEntry, a_branchStart, a_branchEntry, a_placesSeen, a_choicePiece, a_choicePlace, a_choiceNotes) → wpX_repeatOnceOrMore post (f_tokens, f_faultPlace, f_length, nI (a + sz), f_patternEntry, f_hasPattern, 0, f_level, f_groups, nI a, f_atomEntry, f_choices, f_wayPiece, f_wayPlace, f_wayNotes, f_hasResult, f_resultStart, f_resultEnd, f_resultNotes, a_tokenKind, a_tokenValue, a_text, a_pieceKind, a_pieceValue, a_pieceNext, a_pieceSecond, a_levelGroup, a_levelStart, a_levelEntry, a_branchStart, a_branchEntry, a_placesSeen, a_choicePiece, a_choicePlace, a_choiceNotes) lz) := by
  obtain ⟨K1, V1, N1, S1, c1, c2, c3⟩ := cx_copyOK (f_tokens := f_tokens) (f_faultPlace := f_faultPlace) (f_length := f_length) (f_patternEntry := f_patternEntry) (f_hasPattern := f_hasPattern) (f_tooLarge := 0) (f_level := f_level) (f_groups := f_groups) (f_atomEntry := f_atomEntry) (f_choices := f_choices) (f_wayPiece := f_wayPiece) (f_wayPlace := f_wayPlace) (f_wayNotes := f_wayNotes) (f_hasResult := f_hasResult) (f_resultStart := f_resultStart) (f_resultEnd := f_resultEnd) (f_resultNotes := f_resultNotes) (a_tokenKind := a_tokenKind) (a_tokenValue := a_tokenValue) (a_text := a_text) (a_pieceKind := a_pieceKind) (a_pieceValue := a_pieceValue) (a_pieceNext := a_pieceNext) (a_pieceSecond := a_pieceSecond) (a_levelGroup := a_levelGroup) (a_levelStart := a_levelStart) (a_levelEntry := a_levelEntry) (a_branchStart := a_branchStart) (a_branchEntry := a_branchEntry) (a_placesSeen := a_placesSeen) (a_choicePiece := a_choicePiece) (a_choicePlace := a_choicePlace) (a_choiceNotes := a_choiceNotes) (a := a) (sz := sz) (t := 1) (pc := a + sz) rfl (by omega) (by omega)
  rw [Nat.mul_one] at c2 c3
  obtain ⟨K2, V2, N2, S2, s1, s2, s3, s4, s5⟩ := cx_starOK (f_tokens := f_tokens) (f_faultPlace := f_faultPlace) (f_length := f_length) (f_patternEntry := f_patternEntry) (f_hasPattern := f_hasPattern) (f_tooLarge := 0) (f_level := f_level) (f_groups := f_groups) (f_atomStart := nI a) (f_atomEntry := f_atomEntry) (f_choices := f_choices) (f_wayPiece := f_wayPiece) (f_wayPlace := f_wayPlace) (f_wayNotes := f_wayNotes) (f_hasResult := f_hasResult) (f_resultStart := f_resultStart) (f_resultEnd := f_resultEnd) (f_resultNotes := f_resultNotes) (a_tokenKind := a_tokenKind) (a_tokenValue := a_tokenValue) (a_text := a_text) (a_pieceKind := K1) (a_pieceValue := V1) (a_pieceNext := N1) (a_pieceSecond := S1) (a_levelGroup := a_levelGroup) (a_levelStart := a_levelStart) (a_levelEntry := a_levelEntry) (a_branchStart := a_branchStart) (a_branchEntry := a_branchEntry) (a_placesSeen := a_placesSeen) (a_choicePiece := a_choicePiece) (a_choicePlace := a_choicePlace) (a_choiceNotes := a_choiceNotes) (pc := a + sz + sz) (s := a + sz) (en := fg_mv sz f_atomEntry) hz (by omega) (by omega)
  refine ⟨K2, V2, cx_lo N2 a (a + sz) (nI (a + sz + sz)), cx_lo S2 a (a + sz) (nI (a + sz + sz)), ?_, ?_, ?_⟩
  · intro p hp
    rw [fg_q_ln (by omega), s2 p (by omega), c1 p (by omega)]
  · intro m m' o n hF h1 h2 h3 h4
    exact qf_plus hF (by omega) h1 h2 h3 h4 c1 c2 s1 s2 s3 s4 (fun p p1 p2 => fg_q_lo p1 p2) (fun p p1 => fg_q_ln (by omega))
  · intro post h
    refine nm_r (show nI (a + sz) - nI a = nI sz by rw [pk_sub (by omega)]; congr 1; omega) ?_
    refine c3 _ ?_
    refine br_t rfl (nm_r (nI_add a sz) (cx_moved ?_))
    refine s5 _ ?_
    refine cx_lead (by omega) (by omega) ?_
    by_cases e : f_atomEntry = -1
    · rw [show fg_mo (nI (a + sz + sz)) f_atomEntry = nI (a + sz + sz) from if_pos e] at h
      exact br_t e h
    · rw [show fg_mo (nI (a + sz + sz)) f_atomEntry = f_atomEntry from if_neg e] at h
      exact br_f e h
theorem xq_plusL {post : SX → Prop} {a sz : Nat} {lz : Int32} (hp0 : a + sz ≤ 36) (hp : 36 < a + sz + sz + 1)
    (h : ∀ (pc : Nat) (ae : Int32) (K V N S : Nat → Int32), pc ≤ 36 → post (f_tokens, f_faultPlace, f_length, nI pc, f_patternEntry, f_hasPattern, 1, f_level, f_groups, nI a, ae, f_choices, f_wayPiece, f_wayPlace, f_wayNotes, f_hasResult, f_resultStart, f_resultEnd, f_resultNotes, a_tokenKind, a_tokenValue, a_text, K, V, N, S, a_levelGroup, a_levelStart, a_levelEntry, a_branchStart, a_branchEntry, a_placesSeen, a_choicePiece, a_choicePlace, a_choiceNotes)) : wpX_repeatOnceOrMore post (f_tokens, f_faultPlace, f_length, nI (a + sz), f_patternEntry, f_hasPattern, 0, f_level, f_groups, nI a, f_atomEntry, f_choices, f_wayPiece, f_wayPlace, f_wayNotes, f_hasResult, f_resultStart, f_resultEnd, f_resultNotes, a_tokenKind, a_tokenValue, a_text, a_pieceKind, a_pieceValue, a_pieceNext, a_pieceSecond, a_levelGroup, a_levelStart, a_levelEntry, a_branchStart, a_branchEntry, a_placesSeen, a_choicePiece, a_choicePlace, a_choiceNotes) lz := by
  refine nm_r (show nI (a + sz) - nI a = nI sz by rw [pk_sub (by omega)]; congr 1; omega) ?_
  by_cases e : a + sz + sz ≤ 36
  · obtain ⟨K1, V1, N1, S1, c1, c2, c3⟩ := cx_copyOK (f_tokens := f_tokens) (f_faultPlace := f_faultPlace) (f_length := f_length) (f_patternEntry := f_patternEntry) (f_hasPattern := f_hasPattern) (f_tooLarge := 0) (f_level := f_level) (f_groups := f_groups) (f_atomEntry := f_atomEntry) (f_choices := f_choices) (f_wayPiece := f_wayPiece) (f_wayPlace := f_wayPlace) (f_wayNotes := f_wayNotes) (f_hasResult := f_hasResult) (f_resultStart := f_resultStart) (f_resultEnd := f_resultEnd) (f_resultNotes := f_resultNotes) (a_tokenKind := a_tokenKind) (a_tokenValue := a_tokenValue) (a_text := a_text) (a_pieceKind := a_pieceKind) (a_pieceValue := a_pieceValue) (a_pieceNext := a_pieceNext) (a_pieceSecond := a_pieceSecond) (a_levelGroup := a_levelGroup) (a_levelStart := a_levelStart) (a_levelEntry := a_levelEntry) (a_branchStart := a_branchStart) (a_branchEntry := a_branchEntry) (a_placesSeen := a_placesSeen) (a_choicePiece := a_choicePiece) (a_choicePlace := a_choicePlace) (a_choiceNotes := a_choiceNotes) (a := a) (sz := sz) (t := 1) (pc := a + sz) rfl (by omega) (by omega)
    rw [Nat.mul_one] at c2 c3
    refine c3 _ ?_
    have e36 : a + sz + sz = 36 := by omega
    rw [e36]
    refine br_t rfl (nm_r (nI_add a sz) (cx_moved ?_))
    refine cx_starL (by omega) (fun N S => ?_)
    refine cx_lead (by omega) (by omega) ?_
    by_cases e : f_atomEntry = -1
    · exact br_t e (h 36 _ _ _ _ _ (by omega))
    · exact br_f e (h 36 _ _ _ _ _ (by omega))
  · refine cx_copyL (t := 1) (by omega) hp0 (by omega) (by omega) ?_
    exact br_f (by decide) (h (a + sz) _ _ _ _ _ hp0)
end XQ
end
section
section XR
variable {f_tokens f_faultPlace f_length f_pieces f_patternEntry f_hasPattern f_tooLarge f_level f_groups f_atomStart f_atomEntry f_choices f_wayPiece f_wayPlace : Int32} {f_wayNotes : Int64} {f_hasResult f_resultStart f_resultEnd : Int32} {f_resultNotes : Int64} {a_tokenKind a_tokenValue a_text a_pieceKind a_pieceValue a_pieceNext a_pieceSecond a_levelGroup a_levelStart a_levelEntry a_branchStart a_branchEntry : Nat → Int32} {a_placesSeen : Nat → Int64} {a_choicePiece a_choicePlace : Nat → Int32} {a_choiceNotes : Nat → Int64}
theorem xq_e1 {a c sz : Nat} : nI a + nI c * nI sz = nI (a + c * sz) := by rw [pk_mul, nI_add]
theorem xq_loop {a sz least : Nat} (hl4 : least ≤ 4) (ae : Int32) : ∀ (c pc : Nat) (b : Int32) (K V N S : Nat → Int32), a + c * sz ≤ pc → pc + (c - least) ≤ 36 → c ≤ 4 →
    ∃ (K' V' N' S' : Nat → Int32) (b' : Int32), (∀ p, p < a → fg_q K' V' N' S' p = fg_q K V N S p) ∧
      (∀ (m' : Nat → fg_I) (o n E : Nat), (ae = -1 ∨ ∃ q, q < 1000 ∧ ae = nI q) → fg_F m' (fg_q K V N S) (qf_at o n least c) E (a + c * sz) pc b →
        (∀ c', c' < c → fg_F m' (fg_q K V N S) (qf_ca o n least c') (qf_ca o n least c' + n) (a + c' * sz) (a + (c' + 1) * sz) (fg_mv (c' * sz) ae)) →
        (∀ c', c' < c → least ≤ c' → qf_S m' (qf_at o n least c') (qf_at o n least c' + 1) E) → fg_F m' (fg_q K' V' N' S') o E a (pc + (c - least)) b') ∧
      (cq_v (a + sz) ae → cq_v pc b → cq_v (pc + (c - least)) b' ∧ (b' = -1 → (ae = -1 ∨ c = 0) ∧ c ≤ least ∧ b = -1)) ∧
      (∀ post : SX → Prop, post (f_tokens, f_faultPlace, f_length, nI (pc + (c - least)), f_patternEntry, f_hasPattern, f_tooLarge, f_level, f_groups, nI a, b', f_choices, f_wayPiece, f_wayPlace, f_wayNotes, f_hasResult, f_resultStart, f_resultEnd, f_resultNotes, a_tokenKind, a_tokenValue, a_text, K', V', N', S', a_levelGroup, a_levelStart, a_levelEntry, a_branchStart, a_branchEntry, a_placesSeen, a_choicePiece, a_choicePlace, a_choiceNotes) → wX_repeatCounted_34 post (nI least) (nI sz) (c + 1) b (nI c - 1) f_tokens f_faultPlace f_length (nI pc) f_patternEntry f_hasPattern f_tooLarge f_level f_groups (nI a) ae f_choices f_wayPiece f_wayPlace f_wayNotes f_hasResult f_resultStart f_resultEnd f_resultNotes a_tokenKind a_tokenValue a_text K V N S a_levelGroup a_levelStart a_levelEntry a_branchStart a_branchEntry a_placesSeen a_choicePiece a_choicePlace a_choiceNotes) := by
  intro c
  induction c with
  | zero =>
    intro pc b K V N S h1 h2 _
    refine ⟨K, V, N, S, b, fun _ _ => rfl, fun m' o n E _ hF _ _ => ?_, fun _ hb => ⟨by rw [Nat.zero_sub, Nat.add_zero]; exact hb, fun h => ⟨Or.inr rfl, Nat.zero_le _, h⟩⟩, fun post h => ?_⟩
    · rw [qf_at_0, Nat.zero_mul, Nat.add_zero] at hF
      rw [Nat.zero_sub, Nat.add_zero]
      exact hF
    · rw [Nat.zero_sub, Nat.add_zero] at h
      exact br_t (by decide) h
  | succ c ih =>
    intro pc b K V N S h1 h2 h3
    have e1 : (c + 1) * sz = c * sz + sz := Nat.succ_mul c sz
    have hle : ∀ c', c' < c → (c' + 1) * sz ≤ c * sz := fun c' hc => Nat.mul_le_mul_right sz hc
    have key : ∀ (post : SX → Prop) (C : Prop), (C → wX_repeatCounted_81 post (wX_repeatCounted_34 post (nI least) (nI sz) (c + 1)) (nI least) (nI sz) (qf_en ae sz c b) (nI c) f_tokens f_faultPlace f_length (nI pc) f_patternEntry f_hasPattern f_tooLarge f_level f_groups (nI a) ae f_choices f_wayPiece f_wayPlace f_wayNotes f_hasResult f_resultStart f_resultEnd f_resultNotes a_tokenKind a_tokenValue a_text K V (cx_lo N (a + c * sz) (a + c * sz + sz) b) (cx_lo S (a + c * sz) (a + c * sz + sz) b) a_levelGroup a_levelStart a_levelEntry a_branchStart a_branchEntry a_placesSeen a_choicePiece a_choicePlace a_choiceNotes) → C →
        wX_repeatCounted_34 post (nI least) (nI sz) (c + 1 + 1) b (nI (c + 1) - 1) f_tokens f_faultPlace f_length (nI pc) f_patternEntry f_hasPattern f_tooLarge f_level f_groups (nI a) ae f_choices f_wayPiece f_wayPlace f_wayNotes f_hasResult f_resultStart f_resultEnd f_resultNotes a_tokenKind a_tokenValue a_text K V N S a_levelGroup a_levelStart a_levelEntry a_branchStart a_branchEntry a_placesSeen a_choicePiece a_choicePlace a_choiceNotes := by
      intro post C h hC
      have h := h hC
      rw [nI_pred]
      refine br_f (nI_pos (by omega)) (nm_r xq_e1 ?_)
      rw [nI_add]
      refine cx_lead (by omega) (by omega) ?_
      by_cases e : ae = -1
      · rw [show qf_en ae sz c b = b from if_pos e] at h
        exact br_t e h
      · rw [show qf_en ae sz c b = ae + nI (c * sz) from if_neg e] at h
        exact br_f e (nm_r (by rw [pk_mul]) h)
    have vb : cq_v (a + sz) ae → cq_v pc b → cq_v pc (qf_en ae sz c b) ∧ (qf_en ae sz c b = -1 → ae = -1 ∧ b = -1) := by
      intro hae hb
      unfold qf_en
      by_cases e : ae = -1
      · rw [if_pos e]; exact ⟨hb, fun h => ⟨e, h⟩⟩
      · rw [if_neg e]
        rcases hae with h | ⟨q, q1, q2⟩
        · exact absurd h e
        · rw [q2, nI_add]
          exact ⟨Or.inr ⟨q + c * sz, by omega, rfl⟩, fun h => absurd h (fg_ne (by omega))⟩
    by_cases hl : c < least
    · obtain ⟨K', V', N', S', b', i1, i2, iv, i3⟩ := ih pc (qf_en ae sz c b) K V (cx_lo N (a + c * sz) (a + c * sz + sz) b) (cx_lo S (a + c * sz) (a + c * sz + sz) b) (by omega) (by omega) (by omega)
      have ez : c + 1 - least = c - least := by omega
      refine ⟨K', V', N', S', b', fun p hp => by rw [i1 p hp, fg_q_ln (by omega)], fun m' o n E hae hF hC hS => ?_, fun hae hb => ?_, fun post h => key post True (fun _ => ?_) trivial⟩
      · rw [ez]
        have Fc := hC c (by omega)
        rw [qf_ca_n, show a + (c + 1) * sz = a + c * sz + sz by omega] at Fc
        rw [show a + (c + 1) * sz = a + c * sz + sz by omega] at hF
        have G := fg_seq (x' := fg_q K V (cx_lo N (a + c * sz) (a + c * sz + sz) b) (cx_lo S (a + c * sz) (a + c * sz + sz) b)) Fc hF (by omega) (fun p p1 p2 => fg_q_lo p1 p2) (fun p p1 _ => fg_q_ln (by omega))
        rw [← qf_en_F (q := 0) hae (by omega), show qf_ca o n least c = qf_at o n least c from by unfold qf_ca; rw [if_neg (by omega), Nat.add_zero]] at G
        exact i2 m' o n E hae G (fun c' hc' => fg_frame (hC c' (by omega)) (fun _ _ _ => rfl) (fun p p1 p2 => fg_q_ln (by have := hle c' hc'; omega))) (fun c' hc' => hS c' (by omega))
      · obtain ⟨v1, v2⟩ := vb hae hb
        obtain ⟨w1, w2⟩ := iv hae v1
        rw [ez]
        refine ⟨w1, fun h => ?_⟩
        obtain ⟨y1, y2, y3⟩ := w2 h
        obtain ⟨z1, z2⟩ := v2 y3
        exact ⟨Or.inl z1, by omega, z2⟩
      · rw [ez] at h
        refine br_t (nI_lt hl (by omega)) (nm_r (show nI c + (-1) = nI c - 1 by rw [Int32.sub_eq_add_neg]) ?_)
        exact i3 post h
    · have hp : pc < 36 := by omega
      obtain ⟨K', V', N', S', b', i1, i2, iv, i3⟩ := ih (pc + 1) (nI pc) (upd K pc 4) (upd V pc 0) (upd (cx_lo N (a + c * sz) (a + c * sz + sz) b) pc (qf_en ae sz c b)) (upd (cx_lo S (a + c * sz) (a + c * sz + sz) b) pc (-1)) (by omega) (by omega) (by omega)
      have ez : pc + (c + 1 - least) = pc + 1 + (c - least) := by omega
      refine ⟨K', V', N', S', b', fun p hp => by rw [i1 p hp, fg_q_un (by omega), fg_q_ln (by omega)], fun m' o n E hae hF hC hS => ?_, fun hae hb => ?_, fun post h => key post True (fun _ => ?_) trivial⟩
      · rw [ez]
        have Fc := hC c (by omega)
        rw [qf_ca_n, show a + (c + 1) * sz = a + c * sz + sz by omega] at Fc
        rw [show a + (c + 1) * sz = a + c * sz + sz by omega] at hF
        have G := fg_seq (x' := fg_q K V (cx_lo N (a + c * sz) (a + c * sz + sz) b) (cx_lo S (a + c * sz) (a + c * sz + sz) b)) Fc hF (by omega) (fun p p1 p2 => fg_q_lo p1 p2) (fun p p1 _ => fg_q_ln (by omega))
        rw [← qf_en_F (q := 0) hae (by omega), show qf_ca o n least c = qf_at o n least c + 1 from by unfold qf_ca; rw [if_pos (by omega)]] at G
        have hSc := hS c (by omega) (by omega)
        have G2 := fg_fork (x' := fg_q (upd K pc 4) (upd V pc 0) (upd (cx_lo N (a + c * sz) (a + c * sz + sz) b) pc (qf_en ae sz c b)) (upd (cx_lo S (a + c * sz) (a + c * sz + sz) b) pc (-1))) (w := 0) (T := -1) G (by omega) hSc.1 (Or.inl ⟨rfl, rfl⟩) (fun p p1 p2 => by rw [fg_q_un (by omega), fg_px_id]) (by rw [fg_q_us]) (Or.inl ⟨hSc.2.1, hSc.2.2, by rw [fg_q_us, fg_mo_id]⟩)
        exact i2 m' o n E hae G2 (fun c' hc' => fg_frame (hC c' (by omega)) (fun _ _ _ => rfl) (fun p p1 p2 => by have := hle c' hc'; rw [fg_q_un (by omega), fg_q_ln (by omega)])) (fun c' hc' => hS c' (by omega))
      · obtain ⟨w1, w2⟩ := iv hae (Or.inr ⟨pc, by omega, rfl⟩)
        rw [ez]
        refine ⟨w1, fun h => ?_⟩
        obtain ⟨y1, y2, y3⟩ := w2 h
        exact absurd y3 (fg_ne (by omega))
      · rw [ez] at h
        refine br_f (nI_nlt (by omega) (by omega)) ?_
        refine cx_add hp ?_
        refine nm_r (show nI c + (-1) = nI c - 1 by rw [Int32.sub_eq_add_neg]) ?_
        exact i3 post h
theorem xq_loopL {post : SX → Prop} {a sz least : Nat} (hl4 : least ≤ 4) (ae : Int32) (h : ∀ (pc : Nat) (b : Int32) (K V N S : Nat → Int32), pc ≤ 36 → post (f_tokens, f_faultPlace, f_length, nI pc, f_patternEntry, f_hasPattern, 1, f_level, f_groups, nI a, b, f_choices, f_wayPiece, f_wayPlace, f_wayNotes, f_hasResult, f_resultStart, f_resultEnd, f_resultNotes, a_tokenKind, a_tokenValue, a_text, K, V, N, S, a_levelGroup, a_levelStart, a_levelEntry, a_branchStart, a_branchEntry, a_placesSeen, a_choicePiece, a_choicePlace, a_choiceNotes)) : ∀ (c pc : Nat) (b tl : Int32) (K V N S : Nat → Int32), a + c * sz ≤ 36 → pc ≤ 36 → c ≤ 4 → (tl = 1 ∨ 36 < pc + (c - least)) →
    wX_repeatCounted_34 post (nI least) (nI sz) (c + 1) b (nI c - 1) f_tokens f_faultPlace f_length (nI pc) f_patternEntry f_hasPattern tl f_level f_groups (nI a) ae f_choices f_wayPiece f_wayPlace f_wayNotes f_hasResult f_resultStart f_resultEnd f_resultNotes a_tokenKind a_tokenValue a_text K V N S a_levelGroup a_levelStart a_levelEntry a_branchStart a_branchEntry a_placesSeen a_choicePiece a_choicePlace a_choiceNotes := by
  intro c
  induction c with
  | zero =>
    intro pc b tl K V N S h1 h2 _ h3
    have : tl = 1 := h3.resolve_right (by omega)
    rw [this]
    exact br_t (by decide) (h pc b K V N S h2)
  | succ c ih =>
    intro pc b tl K V N S h1 h2 h4 h3
    have e1 : (c + 1) * sz = c * sz + sz := Nat.succ_mul c sz
    have key : ∀ (z : Int32) (N S : Nat → Int32), wX_repeatCounted_81 post (wX_repeatCounted_34 post (nI least) (nI sz) (c + 1)) (nI least) (nI sz) z (nI c) f_tokens f_faultPlace f_length (nI pc) f_patternEntry f_hasPattern tl f_level f_groups (nI a) ae f_choices f_wayPiece f_wayPlace f_wayNotes f_hasResult f_resultStart f_resultEnd f_resultNotes a_tokenKind a_tokenValue a_text K V N S a_levelGroup a_levelStart a_levelEntry a_branchStart a_branchEntry a_placesSeen a_choicePiece a_choicePlace a_choiceNotes := by
      intro z N S
      by_cases hl : c < least
      · exact br_t (nI_lt hl (by omega)) (nm_r (show nI c + (-1) = nI c - 1 by rw [Int32.sub_eq_add_neg]) (ih pc z tl K V N S (by omega) h2 (by omega) (h3.imp id (fun h => by omega))))
      · refine br_f (nI_nlt (by omega) (by omega)) ?_
        by_cases hp : pc < 36
        · refine cx_add hp ?_
          exact nm_r (show nI c + (-1) = nI c - 1 by rw [Int32.sub_eq_add_neg]) (ih (pc + 1) _ tl _ _ _ _ (by omega) (by omega) (by omega) (h3.imp id (fun h => by omega)))
        · refine cx_add0 (by omega) (by omega) ?_
          exact nm_r (show nI c + (-1) = nI c - 1 by rw [Int32.sub_eq_add_neg]) (ih pc _ 1 _ _ _ _ (by omega) (by omega) (by omega) (Or.inl rfl))
    rw [nI_pred]
    refine br_f (nI_pos (by omega)) (nm_r xq_e1 ?_)
    rw [nI_add]
    refine cx_lead (by omega) (by omega) ?_
    by_cases e : ae = -1
    · exact br_t e (key _ _ _)
    · exact br_f e (nm_e (key _ _ _))
/-- the counted repetition -/
theorem xq_cntOK {a sz least most : Nat} (h1 : least ≤ most) (h2 : 1 ≤ most) (h3 : most ≤ 4) (hp : a + most * sz + (most - least) ≤ 36) :
    ∃ (K V N S : Nat → Int32) (b : Int32), (∀ p, p < a → fg_q K V N S p = fg_q a_pieceKind a_pieceValue a_pieceNext a_pieceSecond p) ∧
      (∀ (m m' : Nat → fg_I) (o n : Nat), fg_F m (fg_q a_pieceKind a_pieceValue a_pieceNext a_pieceSecond) o (o + n) a (a + sz) f_atomEntry → (∀ c j, c < most → j < n → m' (qf_ca o n least c + j) = m (o + j)) →
        (∀ c, c < most → least ≤ c → qf_S m' (qf_at o n least c) (qf_at o n least c + 1) (qf_at o n least most)) → fg_F m' (fg_q K V N S) o (qf_at o n least most) a (a + most * sz + (most - least)) b) ∧
      (cq_v (a + sz) f_atomEntry → cq_v (a + most * sz + (most - least)) b ∧ (b = -1 → f_atomEntry = -1 ∧ most ≤ least)) ∧
      (∀ post : SX → Prop, post (f_tokens, f_faultPlace, f_length, nI (a + most * sz + (most - least)), f_patternEntry, f_hasPattern, 0, f_level, f_groups, nI a, b, f_choices, f_wayPiece, f_wayPlace, f_wayNotes, f_hasResult, f_resultStart, f_resultEnd, f_resultNotes, a_tokenKind, a_tokenValue, a_text, K, V, N, S, a_levelGroup, a_levelStart, a_levelEntry, a_branchStart, a_branchEntry, a_placesSeen, a_choicePiece, a_choicePlace, a_choiceNotes) → wpX_repeatCounted post (f_tokens, f_faultPlace, f_length, nI (a + sz), f_patternEntry, f_hasPattern, 0, f_level, f_groups, nI a, f_atomEntry, f_choices, f_wayPiece, f_wayPlace, f_wayNotes, f_hasResult, f_resultStart, f_resultEnd, f_resultNotes, a_tokenKind, a_tokenValue, a_text, a_pieceKind, a_pieceValue, a_pieceNext, a_pieceSecond, a_levelGroup, a_levelStart, a_levelEntry, a_branchStart, a_branchEntry, a_placesSeen, a_choicePiece, a_choicePlace, a_choiceNotes) (nI least) (nI most)) := by
  have em : most * sz = sz + sz * (most - 1) := by
    obtain ⟨k, rfl⟩ : ∃ k, most = k + 1 := ⟨most - 1, by omega⟩
    rw [Nat.succ_mul, Nat.add_sub_cancel, Nat.mul_comm, Nat.add_comm]
  obtain ⟨K1, V1, N1, S1, c1, c2, c3⟩ := cx_copyOK (f_tokens := f_tokens) (f_faultPlace := f_faultPlace) (f_length := f_length) (f_patternEntry := f_patternEntry) (f_hasPattern := f_hasPattern) (f_tooLarge := 0) (f_level := f_level) (f_groups := f_groups) (f_atomEntry := f_atomEntry) (f_choices := f_choices) (f_wayPiece := f_wayPiece) (f_wayPlace := f_wayPlace) (f_wayNotes := f_wayNotes) (f_hasResult := f_hasResult) (f_resultStart := f_resultStart) (f_resultEnd := f_resultEnd) (f_resultNotes := f_resultNotes) (a_tokenKind := a_tokenKind) (a_tokenValue := a_tokenValue) (a_text := a_text) (a_pieceKind := a_pieceKind) (a_pieceValue := a_pieceValue) (a_pieceNext := a_pieceNext) (a_pieceSecond := a_pieceSecond) (a_levelGroup := a_levelGroup) (a_levelStart := a_levelStart) (a_levelEntry := a_levelEntry) (a_branchStart := a_branchStart) (a_branchEntry := a_branchEntry) (a_placesSeen := a_placesSeen) (a_choicePiece := a_choicePiece) (a_choicePlace := a_choicePlace) (a_choiceNotes := a_choiceNotes) (a := a) (sz := sz) (t := most - 1) (pc := a + sz) rfl (by omega) (by omega)
  obtain ⟨K', V', N', S', b', i1, i2, iv, i3⟩ := xq_loop (f_tokens := f_tokens) (f_faultPlace := f_faultPlace) (f_length := f_length) (f_patternEntry := f_patternEntry) (f_hasPattern := f_hasPattern) (f_tooLarge := 0) (f_level := f_level) (f_groups := f_groups) (f_choices := f_choices) (f_wayPiece := f_wayPiece) (f_wayPlace := f_wayPlace) (f_wayNotes := f_wayNotes) (f_hasResult := f_hasResult) (f_resultStart := f_resultStart) (f_resultEnd := f_resultEnd) (f_resultNotes := f_resultNotes) (a_tokenKind := a_tokenKind) (a_tokenValue := a_tokenValue) (a_text := a_text) (a_levelGroup := a_levelGroup) (a_levelStart := a_levelStart) (a_levelEntry := a_levelEntry) (a_branchStart := a_branchStart) (a_branchEntry := a_branchEntry) (a_placesSeen := a_placesSeen) (a_choicePiece := a_choicePiece) (a_choicePlace := a_choicePlace) (a_choiceNotes := a_choiceNotes) (a := a) (sz := sz) (least := least) (by omega) f_atomEntry most (a + most * sz) (-1) K1 V1 N1 S1 (Nat.le_refl _) hp h3
  refine ⟨K', V', N', S', b', fun p hp' => by rw [i1 p hp', c1 p (by omega)], fun m m' o n hF hC hS => ?_, fun hae => ?_, fun post h => ?_⟩
  · refine i2 m' o n (qf_at o n least most) (fg_F_en hF (by omega)) ?_ ?_ hS
    · exact fg_empty m' _ _ _
    · exact qf_copies hF (by omega) (by omega) hC c1 c2
  · obtain ⟨w1, w2⟩ := iv hae (Or.inl rfl)
    exact ⟨w1, fun h => ⟨(w2 h).1.resolve_right (by omega), (w2 h).2.1⟩⟩
  · refine nm_r (show nI (a + sz) - nI a = nI sz by rw [pk_sub (by omega)]; congr 1; omega) ?_
    rw [show nI most - 1 = nI (most - 1) from by
      obtain ⟨k, rfl⟩ : ∃ k, most = k + 1 := ⟨most - 1, by omega⟩
      rw [nI_pred, Nat.add_sub_cancel]]
    refine c3 _ ?_
    refine br_t rfl ?_
    rw [show a + sz + sz * (most - 1) = a + most * sz by omega]
    refine nm_r (show nI (most - 1) = nI most - 1 from by
      obtain ⟨k, rfl⟩ : ∃ k, most = k + 1 := ⟨most - 1, by omega⟩
      rw [nI_pred, Nat.add_sub_cancel]) ⟨most + 1, ?_⟩
    exact i3 post h
theorem xq_cntL {post : SX → Prop} {a sz least most : Nat} (h1 : least ≤ most) (h2 : 1 ≤ most) (h3 : most ≤ 4) (hp0 : a + sz ≤ 36) (hp : 36 < a + most * sz + (most - least))
    (h : ∀ (pc : Nat) (b : Int32) (K V N S : Nat → Int32), pc ≤ 36 → post (f_tokens, f_faultPlace, f_length, nI pc, f_patternEntry, f_hasPattern, 1, f_level, f_groups, nI a, b, f_choices, f_wayPiece, f_wayPlace, f_wayNotes, f_hasResult, f_resultStart, f_resultEnd, f_resultNotes, a_tokenKind, a_tokenValue, a_text, K, V, N, S, a_levelGroup, a_levelStart, a_levelEntry, a_branchStart, a_branchEntry, a_placesSeen, a_choicePiece, a_choicePlace, a_choiceNotes)) : wpX_repeatCounted post (f_tokens, f_faultPlace, f_length, nI (a + sz), f_patternEntry, f_hasPattern, 0, f_level, f_groups, nI a, f_atomEntry, f_choices, f_wayPiece, f_wayPlace, f_wayNotes, f_hasResult, f_resultStart, f_resultEnd, f_resultNotes, a_tokenKind, a_tokenValue, a_text, a_pieceKind, a_pieceValue, a_pieceNext, a_pieceSecond, a_levelGroup, a_levelStart, a_levelEntry, a_branchStart, a_branchEntry, a_placesSeen, a_choicePiece, a_choicePlace, a_choiceNotes) (nI least) (nI most) := by
  have em : most * sz = sz + sz * (most - 1) := by
    obtain ⟨k, rfl⟩ : ∃ k, most = k + 1 := ⟨most - 1, by omega⟩
    rw [Nat.succ_mul, Nat.add_sub_cancel, Nat.mul_comm, Nat.add_comm]
  have e1 : nI most - 1 = nI (most - 1) := by
    obtain ⟨k, rfl⟩ : ∃ k, most = k + 1 := ⟨most - 1, by omega⟩
    rw [nI_pred, Nat.add_sub_cancel]
  refine nm_r (show nI (a + sz) - nI a = nI sz by rw [pk_sub (by omega)]; congr 1; omega) ?_
  rw [e1]
  by_cases e : a + most * sz ≤ 36
  · obtain ⟨K1, V1, N1, S1, c1, c2, c3⟩ := cx_copyOK (f_tokens := f_tokens) (f_faultPlace := f_faultPlace) (f_length := f_length) (f_patternEntry := f_patternEntry) (f_hasPattern := f_hasPattern) (f_tooLarge := 0) (f_level := f_level) (f_groups := f_groups) (f_atomEntry := f_atomEntry) (f_choices := f_choices) (f_wayPiece := f_wayPiece) (f_wayPlace := f_wayPlace) (f_wayNotes := f_wayNotes) (f_hasResult := f_hasResult) (f_resultStart := f_resultStart) (f_resultEnd := f_resultEnd) (f_resultNotes := f_resultNotes) (a_tokenKind := a_tokenKind) (a_tokenValue := a_tokenValue) (a_text := a_text) (a_pieceKind := a_pieceKind) (a_pieceValue := a_pieceValue) (a_pieceNext := a_pieceNext) (a_pieceSecond := a_pieceSecond) (a_levelGroup := a_levelGroup) (a_levelStart := a_levelStart) (a_levelEntry := a_levelEntry) (a_branchStart := a_branchStart) (a_branchEntry := a_branchEntry) (a_placesSeen := a_placesSeen) (a_choicePiece := a_choicePiece) (a_choicePlace := a_choicePlace) (a_choiceNotes := a_choiceNotes) (a := a) (sz := sz) (t := most - 1) (pc := a + sz) rfl (by omega) (by omega)
    refine c3 _ ?_
    refine br_t rfl ?_
    rw [show a + sz + sz * (most - 1) = a + most * sz by omega]
    refine nm_r e1.symm ⟨most + 1, ?_⟩
    exact xq_loopL (by omega) f_atomEntry h most (a + most * sz) (-1) 0 K1 V1 N1 S1 e e h3 (Or.inr hp)
  · refine cx_copyL (t := most - 1) (by omega) hp0 (by omega) (by omega) ?_
    exact br_f (by decide) (h (a + sz) _ _ _ _ _ hp0)
end XR
end
section
section YB
/-! the reference's building steps -/
def cq_la (z : Nat) : Int32 := if z ≤ 36 then 0 else 1
theorem cq_la0 {z : Nat} (h : z ≤ 36) : cq_la z = 0 := if_pos h
theorem cq_la1 {z : Nat} (h : 36 < z) : cq_la z = 1 := if_neg (by omega)
def cy_B (p : Int32) : Prop := p.toInt8.toInt32 = p
def cy_S (p : Int32) : Prop := p.toInt16.toInt32 = p
theorem cy_nB {p : Int32} (h : cy_B p) : vp_nar .byte p.toInt8.toInt32 = p := by
  rw [vp_nar_byte, show p.toInt8.toInt32 = p from h, show p.toInt8.toInt32 = p from h]
theorem cy_nS {p : Int32} (h : cy_S p) : vp_nar .short p.toInt16.toInt32 = p := by
  rw [vp_nar_short, show p.toInt16.toInt32 = p from h, show p.toInt16.toInt32 = p from h]
theorem cy_Bn {n : Nat} (h : n < 128) : cy_B (nI n) := lg_i2b_small (by rw [nI_toInt (by omega)]; omega) (by rw [nI_toInt (by omega)]; omega)
theorem cy_Sn {n : Nat} (h : n < 32768) : cy_S (nI n) := lg_i2s_small (by rw [nI_toInt (by omega)]; omega) (by rw [nI_toInt (by omega)]; omega)
theorem cy_Sm : cy_S (-1) := by unfold cy_S; decide
theorem cy_Sneg : ∀ n, n < 160 → cy_S (-(nI n) - 1) := by unfold cy_S; decide +kernel
theorem rl_Bv {f : Nat → Int32} (h : rl_B f) (j : Nat) : cy_B (f j) := by
  have := h j
  rw [vp_nar_byte] at this; exact this
theorem rl_Sv {f : Nat → Int32} (h : rl_S f) (j : Nat) : cy_S (f j) := by
  have := h j
  rw [vp_nar_short] at this; exact this
theorem rl_Bu {f : Nat → Int32} {k : Nat} {x : Int32} (h : rl_B f) (hx : cy_B x) : rl_B (upd f k x) := by
  intro j
  rw [vp_nar_byte]
  by_cases e : j = k
  · rw [e, rl_us]; exact hx
  · rw [rl_un e]; exact rl_Bv h j
theorem rl_Su {f : Nat → Int32} {k : Nat} {x : Int32} (h : rl_S f) (hx : cy_S x) : rl_S (upd f k x) := by
  intro j
  rw [vp_nar_short]
  by_cases e : j = k
  · rw [e, rl_us]; exact hx
  · rw [rl_un e]; exact rl_Sv h j
variable {g_count g_place g_end g_size g_large g_ready g_depth g_groups g_atom g_atomSize g_length g_found : Int32} {b_kind b_value b_op b_with b_one b_two b_copyOp b_copyWith b_copyOne b_copyTwo b_opened b_branch b_sizes b_jumps b_groupOf b_text : Nat → Int32} {b_met : Nat → Int64} {b_todo b_notes : Nat → Int32}
theorem cy_emit {post : SY → Prop} {en : Nat} {p0 p1 p2 p3 : Int32} (he : en < 160) (b0 : cy_B p0) (b1 : cy_B p1) (s2 : cy_S p2) (s3 : cy_S p3)
    (h : post (g_count, g_place, nI (en + 1), g_size, 0, g_ready, g_depth, g_groups, g_atom, g_atomSize, g_length, g_found, b_kind, b_value, upd b_op en p0, upd b_with en p1, upd b_one en p2, upd b_two en p3, b_copyOp, b_copyWith, b_copyOne, b_copyTwo, b_opened, b_branch, b_sizes, b_jumps, b_groupOf, b_text, b_met, b_todo, b_notes)) : wpY_emit post (g_count, g_place, nI en, g_size, 0, g_ready, g_depth, g_groups, g_atom, g_atomSize, g_length, g_found, b_kind, b_value, b_op, b_with, b_one, b_two, b_copyOp, b_copyWith, b_copyOne, b_copyTwo, b_opened, b_branch, b_sizes, b_jumps, b_groupOf, b_text, b_met, b_todo, b_notes) p0 p1 p2 p3 := by
  have hv : vp_in (nI en) 160 := vp_in_nI he (by omega)
  have ec : (nI en).toNatClampNeg = en := nI_clamp (by omega)
  exact br_t rfl ⟨hv, nm_r (by rw [ec, cy_nB b0]) ⟨hv, nm_r (by rw [ec, cy_nB b1]) ⟨hv, nm_r (by rw [ec, cy_nS s2]) (nm_r (nI_1 en) ⟨hv, nm_r (by rw [ec, cy_nS s3]) h⟩)⟩⟩⟩
theorem cy_emit1 {post : SY → Prop} {p0 p1 p2 p3 : Int32} (h : post (g_count, g_place, g_end, g_size, 1, g_ready, g_depth, g_groups, g_atom, g_atomSize, g_length, g_found, b_kind, b_value, b_op, b_with, b_one, b_two, b_copyOp, b_copyWith, b_copyOne, b_copyTwo, b_opened, b_branch, b_sizes, b_jumps, b_groupOf, b_text, b_met, b_todo, b_notes)) : wpY_emit post (g_count, g_place, g_end, g_size, 1, g_ready, g_depth, g_groups, g_atom, g_atomSize, g_length, g_found, b_kind, b_value, b_op, b_with, b_one, b_two, b_copyOp, b_copyWith, b_copyOne, b_copyTwo, b_opened, b_branch, b_sizes, b_jumps, b_groupOf, b_text, b_met, b_todo, b_notes) p0 p1 p2 p3 := br_f (by decide) h
theorem cy_grow {post : SY → Prop} {sz k : Nat} (hs : sz + k < 2 ^ 31) (h : post (g_count, g_place, g_end, nI (sz + k), cq_la (sz + k), g_ready, g_depth, g_groups, g_atom, g_atomSize, g_length, g_found, b_kind, b_value, b_op, b_with, b_one, b_two, b_copyOp, b_copyWith, b_copyOne, b_copyTwo, b_opened, b_branch, b_sizes, b_jumps, b_groupOf, b_text, b_met, b_todo, b_notes)) : wpY_grow post (g_count, g_place, g_end, nI sz, cq_la sz, g_ready, g_depth, g_groups, g_atom, g_atomSize, g_length, g_found, b_kind, b_value, b_op, b_with, b_one, b_two, b_copyOp, b_copyWith, b_copyOne, b_copyTwo, b_opened, b_branch, b_sizes, b_jumps, b_groupOf, b_text, b_met, b_todo, b_notes) (nI k) := by
  refine nm_r (nI_add sz k) ?_
  by_cases e : sz + k ≤ 36
  · rw [cq_la0 e] at h
    rw [cq_la0 (show sz ≤ 36 by omega)]
    exact br_t (nI_le (b := 36) e (by omega)) h
  · rw [cq_la1 (show 36 < sz + k by omega)] at h
    exact br_f (nI_ge (a := 36) (by omega) hs) h
theorem cy_grow1 {post : SY → Prop} {k : Int32} (h : post (g_count, g_place, g_end, g_size + k, 1, g_ready, g_depth, g_groups, g_atom, g_atomSize, g_length, g_found, b_kind, b_value, b_op, b_with, b_one, b_two, b_copyOp, b_copyWith, b_copyOne, b_copyTwo, b_opened, b_branch, b_sizes, b_jumps, b_groupOf, b_text, b_met, b_todo, b_notes)) : wpY_grow post (g_count, g_place, g_end, g_size, 1, g_ready, g_depth, g_groups, g_atom, g_atomSize, g_length, g_found, b_kind, b_value, b_op, b_with, b_one, b_two, b_copyOp, b_copyWith, b_copyOne, b_copyTwo, b_opened, b_branch, b_sizes, b_jumps, b_groupOf, b_text, b_met, b_todo, b_notes) k :=
  nm_e (br_c (fun _ => h) (fun _ => h))
theorem cy_singleC {post : Int32 → SY → Prop} {en sz : Nat} {p0 p1 : Int32} (he : en < 160) (hs : sz + 1 ≤ 36) (b0 : cy_B p0) (b1 : cy_B p1)
    (h : post 1 (g_count, g_place, nI (en + 1), nI (sz + 1), 0, g_ready, g_depth, g_groups, nI en, 1, g_length, g_found, b_kind, b_value, upd b_op en p0, upd b_with en p1, upd b_one en 1, upd b_two en 0, b_copyOp, b_copyWith, b_copyOne, b_copyTwo, b_opened, b_branch, b_sizes, b_jumps, b_groupOf, b_text, b_met, b_todo, b_notes)) : wpY_single post (g_count, g_place, nI en, nI sz, cq_la sz, g_ready, g_depth, g_groups, g_atom, g_atomSize, g_length, g_found, b_kind, b_value, b_op, b_with, b_one, b_two, b_copyOp, b_copyWith, b_copyOne, b_copyTwo, b_opened, b_branch, b_sizes, b_jumps, b_groupOf, b_text, b_met, b_todo, b_notes) p0 p1 := by
  unfold wpY_single
  refine cy_grow (sz := sz) (k := 1) (by omega) ?_
  rw [cq_la0 hs]
  exact cy_emit he b0 b1 (cy_Sn (n := 1) (by omega)) (cy_Sn (n := 0) (by omega)) h
theorem cy_singleL {post : Int32 → SY → Prop} {sz : Nat} {p0 p1 : Int32} (hs : 36 < sz + 1) (hs2 : sz < 1000)
    (h : post 1 (g_count, g_place, g_end, nI (sz + 1), 1, g_ready, g_depth, g_groups, g_end, 1, g_length, g_found, b_kind, b_value, b_op, b_with, b_one, b_two, b_copyOp, b_copyWith, b_copyOne, b_copyTwo, b_opened, b_branch, b_sizes, b_jumps, b_groupOf, b_text, b_met, b_todo, b_notes)) : wpY_single post (g_count, g_place, g_end, nI sz, cq_la sz, g_ready, g_depth, g_groups, g_atom, g_atomSize, g_length, g_found, b_kind, b_value, b_op, b_with, b_one, b_two, b_copyOp, b_copyWith, b_copyOne, b_copyTwo, b_opened, b_branch, b_sizes, b_jumps, b_groupOf, b_text, b_met, b_todo, b_notes) p0 p1 := by
  unfold wpY_single
  refine cy_grow (sz := sz) (k := 1) (by omega) ?_
  rw [cq_la1 hs]
  exact cy_emit1 h
theorem cy_single1 {post : Int32 → SY → Prop} {p0 p1 : Int32} (h : post 1 (g_count, g_place, g_end, g_size + 1, 1, g_ready, g_depth, g_groups, g_end, 1, g_length, g_found, b_kind, b_value, b_op, b_with, b_one, b_two, b_copyOp, b_copyWith, b_copyOne, b_copyTwo, b_opened, b_branch, b_sizes, b_jumps, b_groupOf, b_text, b_met, b_todo, b_notes)) : wpY_single post (g_count, g_place, g_end, g_size, 1, g_ready, g_depth, g_groups, g_atom, g_atomSize, g_length, g_found, b_kind, b_value, b_op, b_with, b_one, b_two, b_copyOp, b_copyWith, b_copyOne, b_copyTwo, b_opened, b_branch, b_sizes, b_jumps, b_groupOf, b_text, b_met, b_todo, b_notes) p0 p1 := by
  unfold wpY_single
  refine cy_grow1 ?_
  exact cy_emit1 h
/-- a plain bracket -/
theorem cy_open0 {post : SY → Prop} {en dp : Nat} (he : en < 1000) (hd : dp < 25)
    (h : post (g_count, g_place, nI en, g_size, g_large, g_ready, nI (dp + 1), g_groups, (-1), g_atomSize, g_length, g_found, b_kind, b_value, b_op, b_with, b_one, b_two, b_copyOp, b_copyWith, b_copyOne, b_copyTwo, upd b_opened dp (nI en), upd b_branch dp (nI en), upd b_sizes dp (vp_nar .short g_size.toInt16.toInt32), upd b_jumps dp (-1), upd b_groupOf dp (nI 0), b_text, b_met, b_todo, b_notes)) : wpY_open post (g_count, g_place, nI en, g_size, g_large, g_ready, nI dp, g_groups, g_atom, g_atomSize, g_length, g_found, b_kind, b_value, b_op, b_with, b_one, b_two, b_copyOp, b_copyWith, b_copyOne, b_copyTwo, b_opened, b_branch, b_sizes, b_jumps, b_groupOf, b_text, b_met, b_todo, b_notes) (nI 0) := by
  have hv : vp_in (nI dp) 25 := vp_in_nI hd (by omega)
  have ec : (nI dp).toNatClampNeg = dp := nI_clamp (by omega)
  have m1 : vp_nar .short (-1) = -1 := by rw [vp_nar_short]; decide
  refine ⟨hv, nm_r (by rw [ec, cy_nS (cy_Sn (show en < 32768 by omega))]) ⟨hv, nm_r (by rw [ec]) ⟨hv, nm_r (by rw [ec, cy_nB (cy_Bn (show 0 < 128 by omega))]) ⟨hv, nm_r (by rw [ec, m1]) (br_t (by decide) (nm_r (nI_1 dp) ⟨hv, nm_r (by rw [ec, cy_nS (cy_Sn (show en < 32768 by omega))]) h⟩))⟩⟩⟩⟩
/-- a group -/
theorem cy_openC {post : SY → Prop} {en dp sz g : Nat} (he : en < 160) (hd : dp < 25) (hg : 1 ≤ g) (hg3 : g ≤ 3) (hs : sz + 2 ≤ 36)
    (h : post (g_count, g_place, nI (en + 1), nI (sz + 2), 0, g_ready, nI (dp + 1), g_groups, (-1), g_atomSize, g_length, g_found, b_kind, b_value, upd b_op en 5, upd b_with en (nI (2 * g)), upd b_one en 1, upd b_two en 0, b_copyOp, b_copyWith, b_copyOne, b_copyTwo, upd b_opened dp (nI en), upd b_branch dp (nI (en + 1)), upd b_sizes dp (nI sz), upd b_jumps dp (-1), upd b_groupOf dp (nI g), b_text, b_met, b_todo, b_notes)) : wpY_open post (g_count, g_place, nI en, nI sz, cq_la sz, g_ready, nI dp, g_groups, g_atom, g_atomSize, g_length, g_found, b_kind, b_value, b_op, b_with, b_one, b_two, b_copyOp, b_copyWith, b_copyOne, b_copyTwo, b_opened, b_branch, b_sizes, b_jumps, b_groupOf, b_text, b_met, b_todo, b_notes) (nI g) := by
  have hv : vp_in (nI dp) 25 := vp_in_nI hd (by omega)
  have ec : (nI dp).toNatClampNeg = dp := nI_clamp (by omega)
  have m1 : vp_nar .short (-1) = -1 := by rw [vp_nar_short]; decide
  refine ⟨hv, nm_r (by rw [ec, cy_nS (cy_Sn (show en < 32768 by omega))]) ⟨hv, nm_r (by rw [ec, cy_nS (cy_Sn (show sz < 32768 by omega))]) ⟨hv, nm_r (by rw [ec, cy_nB (cy_Bn (show g < 128 by omega))]) ⟨hv, nm_r (by rw [ec, m1]) (br_f (nI_nle (by omega) (by omega)) ?_)⟩⟩⟩⟩
  refine cy_grow (k := 2) (by omega) ?_
  rw [cq_la0 hs, show 2 * nI g = nI (2 * g) from pk_mul 2 g]
  refine cy_emit he (cy_Bn (n := 5) (by omega)) (cy_Bn (by omega)) (cy_Sn (n := 1) (by omega)) (cy_Sn (n := 0) (by omega)) ?_
  exact nm_r (nI_1 dp) ⟨hv, nm_r (by rw [ec, cy_nS (cy_Sn (show en + 1 < 32768 by omega))]) h⟩
theorem cy_openL {post : SY → Prop} {en dp sz g : Nat} (he : en < 1000) (hd : dp < 25) (hg : 1 ≤ g) (hg3 : g ≤ 3) (hs : 36 < sz + 2) (hs2 : sz < 1000)
    (h : post (g_count, g_place, nI en, nI (sz + 2), 1, g_ready, nI (dp + 1), g_groups, (-1), g_atomSize, g_length, g_found, b_kind, b_value, b_op, b_with, b_one, b_two, b_copyOp, b_copyWith, b_copyOne, b_copyTwo, upd b_opened dp (nI en), upd b_branch dp (nI en), upd b_sizes dp (nI sz), upd b_jumps dp (-1), upd b_groupOf dp (nI g), b_text, b_met, b_todo, b_notes)) : wpY_open post (g_count, g_place, nI en, nI sz, cq_la sz, g_ready, nI dp, g_groups, g_atom, g_atomSize, g_length, g_found, b_kind, b_value, b_op, b_with, b_one, b_two, b_copyOp, b_copyWith, b_copyOne, b_copyTwo, b_opened, b_branch, b_sizes, b_jumps, b_groupOf, b_text, b_met, b_todo, b_notes) (nI g) := by
  have hv : vp_in (nI dp) 25 := vp_in_nI hd (by omega)
  have ec : (nI dp).toNatClampNeg = dp := nI_clamp (by omega)
  have m1 : vp_nar .short (-1) = -1 := by rw [vp_nar_short]; decide
  refine ⟨hv, nm_r (by rw [ec, cy_nS (cy_Sn (show en < 32768 by omega))]) ⟨hv, nm_r (by rw [ec, cy_nS (cy_Sn (show sz < 32768 by omega))]) ⟨hv, nm_r (by rw [ec, cy_nB (cy_Bn (show g < 128 by omega))]) ⟨hv, nm_r (by rw [ec, m1]) (br_f (nI_nle (by omega) (by omega)) ?_)⟩⟩⟩⟩
  refine cy_grow (k := 2) (by omega) ?_
  rw [cq_la1 hs]
  refine cy_emit1 ?_
  exact nm_r (nI_1 dp) ⟨hv, nm_r (by rw [ec, cy_nS (cy_Sn (show en < 32768 by omega))]) h⟩
theorem cy_open1 {post : SY → Prop} {en dp g : Nat} (he : en < 1000) (hd : dp < 25) (hg : 1 ≤ g) (hg3 : g ≤ 3)
    (h : post (g_count, g_place, nI en, g_size + 2, 1, g_ready, nI (dp + 1), g_groups, (-1), g_atomSize, g_length, g_found, b_kind, b_value, b_op, b_with, b_one, b_two, b_copyOp, b_copyWith, b_copyOne, b_copyTwo, upd b_opened dp (nI en), upd b_branch dp (nI en), upd b_sizes dp (vp_nar .short g_size.toInt16.toInt32), upd b_jumps dp (-1), upd b_groupOf dp (nI g), b_text, b_met, b_todo, b_notes)) : wpY_open post (g_count, g_place, nI en, g_size, 1, g_ready, nI dp, g_groups, g_atom, g_atomSize, g_length, g_found, b_kind, b_value, b_op, b_with, b_one, b_two, b_copyOp, b_copyWith, b_copyOne, b_copyTwo, b_opened, b_branch, b_sizes, b_jumps, b_groupOf, b_text, b_met, b_todo, b_notes) (nI g) := by
  have hv : vp_in (nI dp) 25 := vp_in_nI hd (by omega)
  have ec : (nI dp).toNatClampNeg = dp := nI_clamp (by omega)
  have m1 : vp_nar .short (-1) = -1 := by rw [vp_nar_short]; decide
  refine ⟨hv, nm_r (by rw [ec, cy_nS (cy_Sn (show en < 32768 by omega))]) ⟨hv, nm_r (by rw [ec]) ⟨hv, nm_r (by rw [ec, cy_nB (cy_Bn (show g < 128 by omega))]) ⟨hv, nm_r (by rw [ec, m1]) (br_f (nI_nle (by omega) (by omega)) ?_)⟩⟩⟩⟩
  refine cy_grow1 ?_
  refine cy_emit1 ?_
  exact nm_r (nI_1 dp) ⟨hv, nm_r (by rw [ec, cy_nS (cy_Sn (show en < 32768 by omega))]) h⟩
end YB
end
section
section YC
def cy_sh (f : Nat → Int32) (i e : Nat) : Nat → Int32 := fun j => if i < j ∧ j ≤ e then f (j - 1) else f j
theorem cy_sh_e (f : Nat → Int32) (e : Nat) : cy_sh f e e = f := by
  funext j; exact if_neg (by omega)
theorem cy_sh_s {f : Nat → Int32} {i e : Nat} (h : i + 1 ≤ e) : upd (cy_sh f (i + 1) e) (i + 1) (cy_sh f (i + 1) e i) = cy_sh f i e := by
  funext j
  unfold upd cy_sh
  by_cases h1 : j = i + 1
  · rw [if_pos h1, if_neg (by omega), if_pos (by omega), h1, Nat.add_sub_cancel]
  · rw [if_neg h1]
    by_cases h2 : i + 1 < j ∧ j ≤ e
    · rw [if_pos h2, if_pos (by omega)]
    · rw [if_neg h2, if_neg (by omega)]
theorem cy_sh_lo {f : Nat → Int32} {i e j : Nat} (h : j ≤ i) : cy_sh f i e j = f j := if_neg (by omega)
theorem cy_sh_hi {f : Nat → Int32} {i e j : Nat} (h : i ≤ j) (h2 : j < e) : cy_sh f i e (j + 1) = f j := by
  unfold cy_sh; rw [if_pos (by omega), Nat.add_sub_cancel]
theorem cy_sh_B {f : Nat → Int32} {i e : Nat} (h : rl_B f) : rl_B (cy_sh f i e) := by
  intro j
  unfold cy_sh
  split
  · exact h _
  · exact h _
theorem cy_sh_S {f : Nat → Int32} {i e : Nat} (h : rl_S f) : rl_S (cy_sh f i e) := by
  intro j
  unfold cy_sh
  split
  · exact h _
  · exact h _
theorem cy_nb3 : vp_nar .byte 3 = 3 := by rw [vp_nar_byte]; decide
theorem cy_ns1 : vp_nar .short 1 = 1 := by rw [vp_nar_short]; decide
/-- the jumps that wait, mended -/
def cy_pt (en : Nat) : List Nat → (Nat → Int32) → (Nat → Int32)
  | [], F => F
  | j :: J, F => cy_pt en J (upd F j (nI (en - j)))
theorem cy_pt_n {en : Nat} : ∀ (J : List Nat) (F : Nat → Int32) (j : Nat), ¬ j ∈ J → cy_pt en J F j = F j
  | [], _, _, _ => rfl
  | i :: J, F, j, h => by
    show cy_pt en J (upd F i (nI (en - i))) j = _
    rw [cy_pt_n J _ j (fun h' => h (List.mem_cons_of_mem _ h')), rl_un (fun e => h (by rw [e]; exact List.mem_cons_self))]
theorem cy_pt_m {en : Nat} : ∀ (J : List Nat) (F : Nat → Int32) (j : Nat), j ∈ J → cy_pt en J F j = nI (en - j)
  | [], _, _, h => by cases h
  | i :: J, F, j, h => by
    show cy_pt en J (upd F i (nI (en - i))) j = _
    by_cases hj : j ∈ J
    · exact cy_pt_m J _ j hj
    · rw [cy_pt_n J _ j hj]
      rcases List.mem_cons.mp h with e | e
      · rw [e, rl_us]
      · exact absurd e hj
theorem cy_pt_S {en : Nat} (he : en < 1000) : ∀ (J : List Nat) (F : Nat → Int32), rl_S F → rl_S (cy_pt en J F)
  | [], _, h => h
  | j :: J, F, h => cy_pt_S he J _ (rl_Su h (cy_Sn (by omega)))
variable {g_count g_place g_end g_size g_large g_ready g_depth g_groups g_atom g_atomSize g_length g_found : Int32} {b_kind b_value b_op b_with b_one b_two b_copyOp b_copyWith b_copyOne b_copyTwo b_opened b_branch b_sizes b_jumps b_groupOf b_text : Nat → Int32} {b_met : Nat → Int64} {b_todo b_notes : Nat → Int32}
theorem cy_alt30 {post : SY → Prop} {lv en br sz : Nat} {jm : Int32} (hl : lv < 25) (hen : en + 1 < 160) (hbr : br ≤ en) (hb : b_branch lv = nI br) (hj : b_jumps lv = jm) (hjS : cy_S jm) (B1 : rl_B b_op) (B2 : rl_B b_with) (S1 : rl_S b_one) (S2 : rl_S b_two)
    (h : post (g_count, g_place, nI (en + 2), g_size, 0, g_ready, g_depth, g_groups, g_atom, g_atomSize, g_length, g_found, b_kind, b_value, upd (upd (cy_sh b_op br en) br 3) (en + 1) 4, upd (cy_sh b_with br en) (en + 1) 0, upd (upd (cy_sh b_one br en) br 1) (en + 1) jm, upd (upd (cy_sh b_two br en) br (nI (en + 2 - br))) (en + 1) 0, b_copyOp, b_copyWith, b_copyOne, b_copyTwo, b_opened, upd b_branch lv (nI (en + 2)), b_sizes, upd b_jumps lv (nI (en + 1)), b_groupOf, b_text, b_met, b_todo, b_notes)) : ∀ (d i : Nat), br + d = i → i ≤ en →
    wY_alternative_30 post (nI lv) g_count g_place (nI en) g_size 0 g_ready g_depth g_groups g_atom g_atomSize g_length g_found (d + 1) (nI i) b_kind b_value (cy_sh b_op i en) (cy_sh b_with i en) (cy_sh b_one i en) (cy_sh b_two i en) b_copyOp b_copyWith b_copyOne b_copyTwo b_opened b_branch b_sizes b_jumps b_groupOf b_text b_met b_todo b_notes := by
  have hv : vp_in (nI lv) 25 := vp_in_nI hl (by omega)
  have ec : (nI lv).toNatClampNeg = lv := nI_clamp (by omega)
  have hvb : vp_in (nI br) 160 := vp_in_nI (by omega) (by omega)
  have eb : (nI br).toNatClampNeg = br := nI_clamp (by omega)
  intro d
  induction d with
  | zero =>
    intro i hi hie
    obtain rfl : br = i := by omega
    refine ⟨hv, ?_⟩
    rw [ec, hb, hj]
    refine br_t (nI_le (Nat.le_refl _) (by omega)) (nm_r (nI_1 en) ⟨hv, nm_e ?_⟩)
    rw [eb]
    refine ⟨hvb, nm_r (by rw [cy_nb3]) ⟨hvb, nm_r (by rw [cy_ns1]) ⟨hvb, nm_r (e' := upd (cy_sh b_two br en) br (nI (en + 2 - br))) ?_ ⟨hv, ?_⟩⟩⟩⟩
    · rw [nI_1, pk_sub (show br ≤ en + 1 + 1 by omega), show en + 1 + 1 - br = en + 2 - br by omega, cy_nS (cy_Sn (by omega))]
    · refine cy_emit (en := en + 1) (by omega) (cy_Bn (n := 4) (by omega)) (cy_Bn (n := 0) (by omega)) hjS (cy_Sn (n := 0) (by omega)) ?_
      exact ⟨hv, nm_r (by rw [cy_nS (cy_Sn (show en + 1 < 32768 by omega))]) ⟨hv, nm_r (by rw [cy_nS (cy_Sn (show en + 1 + 1 < 32768 by omega))]) h⟩⟩
  | succ d ih =>
    intro i hi hie
    obtain ⟨i, rfl⟩ : ∃ k, i = k + 1 := ⟨i - 1, by omega⟩
    have hv1 : vp_in (nI i) 160 := vp_in_nI (by omega) (by omega)
    have hv2 : vp_in (nI (i + 1)) 160 := vp_in_nI (by omega) (by omega)
    have e1 : (nI i).toNatClampNeg = i := nI_clamp (by omega)
    have e2 : (nI (i + 1)).toNatClampNeg = i + 1 := nI_clamp (by omega)
    refine ⟨hv, ?_⟩
    rw [ec, hb, nI_pred, e1, e2]
    refine br_f (nI_ge (by omega) (by omega)) ⟨hv1, hv2, nm_r (e' := cy_sh b_op i en) ?_ ⟨hv1, hv2, nm_r (e' := cy_sh b_with i en) ?_ ⟨hv1, hv2, nm_r (e' := cy_sh b_one i en) ?_ ⟨hv1, hv2, nm_r (e' := cy_sh b_two i en) ?_ (nm_r (pk_m1 i) (ih i (by omega) (by omega)))⟩⟩⟩⟩
    · rw [cy_sh_B B1, cy_sh_s (by omega)]
    · rw [cy_sh_B B2, cy_sh_s (by omega)]
    · rw [cy_sh_S S1, cy_sh_s (by omega)]
    · rw [cy_sh_S S2, cy_sh_s (by omega)]
theorem cy_altC {post : SY → Prop} {lv en br sz : Nat} {jm : Int32} (hl : lv < 25) (hen : en + 1 < 160) (hbr : br ≤ en) (hs : sz + 1 ≤ 36) (hb : b_branch lv = nI br) (hj : b_jumps lv = jm) (hjS : cy_S jm) (B1 : rl_B b_op) (B2 : rl_B b_with) (S1 : rl_S b_one) (S2 : rl_S b_two)
    (h : post (g_count, g_place, nI (en + 2), nI (sz + 1), 0, g_ready, nI (lv + 1), g_groups, (-1), g_atomSize, g_length, g_found, b_kind, b_value, upd (upd (cy_sh b_op br en) br 3) (en + 1) 4, upd (cy_sh b_with br en) (en + 1) 0, upd (upd (cy_sh b_one br en) br 1) (en + 1) jm, upd (upd (cy_sh b_two br en) br (nI (en + 2 - br))) (en + 1) 0, b_copyOp, b_copyWith, b_copyOne, b_copyTwo, b_opened, upd b_branch lv (nI (en + 2)), b_sizes, upd b_jumps lv (nI (en + 1)), b_groupOf, b_text, b_met, b_todo, b_notes)) : wpY_alternative post (g_count, g_place, nI en, nI sz, cq_la sz, g_ready, nI (lv + 1), g_groups, g_atom, g_atomSize, g_length, g_found, b_kind, b_value, b_op, b_with, b_one, b_two, b_copyOp, b_copyWith, b_copyOne, b_copyTwo, b_opened, b_branch, b_sizes, b_jumps, b_groupOf, b_text, b_met, b_todo, b_notes) := by
  refine nm_r (nI_pred lv) ?_
  refine cy_grow (sz := sz) (k := 1) (by omega) ?_
  rw [cq_la0 hs]
  refine br_t rfl ⟨en - br + 1, ?_⟩
  have := cy_alt30 (sz := sz) hl hen hbr hb hj hjS B1 B2 S1 S2 h (en - br) en (by omega) (Nat.le_refl _)
  rw [cy_sh_e, cy_sh_e, cy_sh_e, cy_sh_e] at this
  exact this
theorem cy_altL {post : SY → Prop} {lv sz : Nat} (hs : 36 < sz + 1) (hs2 : sz < 1000)
    (h : post (g_count, g_place, g_end, nI (sz + 1), 1, g_ready, nI (lv + 1), g_groups, (-1), g_atomSize, g_length, g_found, b_kind, b_value, b_op, b_with, b_one, b_two, b_copyOp, b_copyWith, b_copyOne, b_copyTwo, b_opened, b_branch, b_sizes, b_jumps, b_groupOf, b_text, b_met, b_todo, b_notes)) : wpY_alternative post (g_count, g_place, g_end, nI sz, cq_la sz, g_ready, nI (lv + 1), g_groups, g_atom, g_atomSize, g_length, g_found, b_kind, b_value, b_op, b_with, b_one, b_two, b_copyOp, b_copyWith, b_copyOne, b_copyTwo, b_opened, b_branch, b_sizes, b_jumps, b_groupOf, b_text, b_met, b_todo, b_notes) := by
  refine nm_r (nI_pred lv) ?_
  refine cy_grow (sz := sz) (k := 1) (by omega) ?_
  rw [cq_la1 hs]
  exact br_f (by decide) h
theorem cy_alt1 {post : SY → Prop} {lv : Nat} (h : post (g_count, g_place, g_end, g_size + 1, 1, g_ready, nI (lv + 1), g_groups, (-1), g_atomSize, g_length, g_found, b_kind, b_value, b_op, b_with, b_one, b_two, b_copyOp, b_copyWith, b_copyOne, b_copyTwo, b_opened, b_branch, b_sizes, b_jumps, b_groupOf, b_text, b_met, b_todo, b_notes)) : wpY_alternative post (g_count, g_place, g_end, g_size, 1, g_ready, nI (lv + 1), g_groups, g_atom, g_atomSize, g_length, g_found, b_kind, b_value, b_op, b_with, b_one, b_two, b_copyOp, b_copyWith, b_copyOne, b_copyTwo, b_opened, b_branch, b_sizes, b_jumps, b_groupOf, b_text, b_met, b_todo, b_notes) := by
  refine nm_r (nI_pred lv) ?_
  refine cy_grow1 ?_
  exact br_f (by decide) h
/-- close -/
theorem cy_close26 {post : SY → Prop} {lv en : Nat} {m : Nat → fg_I} (hen : en < 160) : ∀ (J : List Nat) (F : Nat → Int32) (jm : Int32), fg_JC m J jm → (∀ j, j ∈ J → j < en ∧ F j = (m j).2.2.1) →
    wY_close_55 post (nI lv) g_count g_place (nI en) g_size g_large g_ready g_depth g_groups g_atom g_atomSize g_length g_found b_kind b_value b_op b_with (cy_pt en J F) b_two b_copyOp b_copyWith b_copyOne b_copyTwo b_opened b_branch b_sizes b_jumps b_groupOf b_text b_met b_todo b_notes → wY_close_26 post (nI lv) g_count g_place (nI en) g_size g_large g_ready g_depth g_groups g_atom g_atomSize g_length g_found (J.length + 1) jm b_kind b_value b_op b_with F b_two b_copyOp b_copyWith b_copyOne b_copyTwo b_opened b_branch b_sizes b_jumps b_groupOf b_text b_met b_todo b_notes
  | [], F, jm, hJ, _, h => by
    have : jm = -1 := hJ
    rw [this]
    exact br_t (by decide) h
  | j :: J, F, jm, hJ, hF, h => by
    obtain ⟨h1, h2, h3⟩ := hJ
    obtain ⟨f1, f2⟩ := hF j List.mem_cons_self
    have hv : vp_in (nI j) 160 := vp_in_nI (by omega) (by omega)
    have ec : (nI j).toNatClampNeg = j := nI_clamp (by omega)
    rw [h1]
    refine br_f (nI_pos (by omega)) ⟨hv, nm_r (e' := (m j).2.2.1) (by rw [ec]; exact f2) ⟨hv, nm_r (e' := upd F j (nI (en - j))) ?_ ?_⟩⟩
    · rw [ec, pk_sub (by omega), cy_nS (cy_Sn (by omega))]
    · exact cy_close26 hen J (upd F j (nI (en - j))) _ h3 (fun i hi => ⟨(hF i (List.mem_cons_of_mem _ hi)).1, by rw [rl_un (by have := h2 i hi; omega)]; exact (hF i (List.mem_cons_of_mem _ hi)).2⟩) h
theorem cy_close81 {post : SY → Prop} {lv : Nat} (hl : lv < 25) (h : post (g_count, g_place, g_end, g_size, g_large, g_ready, g_depth, g_groups, b_opened lv, g_size - b_sizes lv, g_length, g_found, b_kind, b_value, b_op, b_with, b_one, b_two, b_copyOp, b_copyWith, b_copyOne, b_copyTwo, b_opened, b_branch, b_sizes, b_jumps, b_groupOf, b_text, b_met, b_todo, b_notes)) : wY_close_81 post (nI lv) g_count g_place g_end g_size g_large g_ready g_depth g_groups g_atom g_atomSize g_length g_found b_kind b_value b_op b_with b_one b_two b_copyOp b_copyWith b_copyOne b_copyTwo b_opened b_branch b_sizes b_jumps b_groupOf b_text b_met b_todo b_notes := by
  have hv : vp_in (nI lv) 25 := vp_in_nI hl (by omega)
  have ec : (nI lv).toNatClampNeg = lv := nI_clamp (by omega)
  exact ⟨hv, nm_r (by rw [ec]) ⟨hv, nm_r (by rw [ec]) h⟩⟩
theorem cy_close55_0 {post : SY → Prop} {lv : Nat} (hl : lv < 25) (hg : b_groupOf lv = nI 0) (h : post (g_count, g_place, g_end, g_size, g_large, g_ready, g_depth, g_groups, b_opened lv, g_size - b_sizes lv, g_length, g_found, b_kind, b_value, b_op, b_with, b_one, b_two, b_copyOp, b_copyWith, b_copyOne, b_copyTwo, b_opened, b_branch, b_sizes, b_jumps, b_groupOf, b_text, b_met, b_todo, b_notes)) : wY_close_55 post (nI lv) g_count g_place g_end g_size g_large g_ready g_depth g_groups g_atom g_atomSize g_length g_found b_kind b_value b_op b_with b_one b_two b_copyOp b_copyWith b_copyOne b_copyTwo b_opened b_branch b_sizes b_jumps b_groupOf b_text b_met b_todo b_notes := by
  have hv : vp_in (nI lv) 25 := vp_in_nI hl (by omega)
  have ec : (nI lv).toNatClampNeg = lv := nI_clamp (by omega)
  refine ⟨hv, br_t (by rw [ec, hg]; decide) (cy_close81 hl h)⟩
theorem cy_close55_g {post : SY → Prop} {lv g en : Nat} (hl : lv < 25) (hen : en < 160) (hg1 : 1 ≤ g) (hg3 : g ≤ 3) (hg : b_groupOf lv = nI g) (h : post (g_count, g_place, nI (en + 1), g_size, 0, g_ready, g_depth, g_groups, b_opened lv, g_size - b_sizes lv, g_length, g_found, b_kind, b_value, upd b_op en 5, upd b_with en (nI (2 * g + 1)), upd b_one en 1, upd b_two en 0, b_copyOp, b_copyWith, b_copyOne, b_copyTwo, b_opened, b_branch, b_sizes, b_jumps, b_groupOf, b_text, b_met, b_todo, b_notes)) : wY_close_55 post (nI lv) g_count g_place (nI en) g_size 0 g_ready g_depth g_groups g_atom g_atomSize g_length g_found b_kind b_value b_op b_with b_one b_two b_copyOp b_copyWith b_copyOne b_copyTwo b_opened b_branch b_sizes b_jumps b_groupOf b_text b_met b_todo b_notes := by
  have hv : vp_in (nI lv) 25 := vp_in_nI hl (by omega)
  have ec : (nI lv).toNatClampNeg = lv := nI_clamp (by omega)
  refine ⟨hv, br_f (by rw [ec, hg]; exact nI_nle (by omega) (by omega)) ⟨hv, ?_⟩⟩
  rw [ec, hg, show 2 * nI g + 1 = nI (2 * g + 1) by rw [show 2 * nI g = nI (2 * g) from pk_mul 2 g, nI_1]]
  exact cy_emit hen (cy_Bn (n := 5) (by omega)) (cy_Bn (by omega)) (cy_Sn (n := 1) (by omega)) (cy_Sn (n := 0) (by omega)) (cy_close81 hl h)
theorem cy_close55_1 {post : SY → Prop} {lv : Nat} (hl : lv < 25) (h : post (g_count, g_place, g_end, g_size, 1, g_ready, g_depth, g_groups, b_opened lv, g_size - b_sizes lv, g_length, g_found, b_kind, b_value, b_op, b_with, b_one, b_two, b_copyOp, b_copyWith, b_copyOne, b_copyTwo, b_opened, b_branch, b_sizes, b_jumps, b_groupOf, b_text, b_met, b_todo, b_notes)) : wY_close_55 post (nI lv) g_count g_place g_end g_size 1 g_ready g_depth g_groups g_atom g_atomSize g_length g_found b_kind b_value b_op b_with b_one b_two b_copyOp b_copyWith b_copyOne b_copyTwo b_opened b_branch b_sizes b_jumps b_groupOf b_text b_met b_todo b_notes := by
  have hv : vp_in (nI lv) 25 := vp_in_nI hl (by omega)
  have ec : (nI lv).toNatClampNeg = lv := nI_clamp (by omega)
  refine ⟨hv, br_c (fun _ => cy_close81 hl h) (fun _ => ⟨hv, ?_⟩)⟩
  exact cy_emit1 (cy_close81 hl h)
theorem cy_close1 {post : SY → Prop} {lv : Nat} (hl : lv < 25) (h : post (g_count, g_place, g_end, g_size, 1, g_ready, nI lv, g_groups, b_opened lv, g_size - b_sizes lv, g_length, g_found, b_kind, b_value, b_op, b_with, b_one, b_two, b_copyOp, b_copyWith, b_copyOne, b_copyTwo, b_opened, b_branch, b_sizes, b_jumps, b_groupOf, b_text, b_met, b_todo, b_notes)) : wpY_close post (g_count, g_place, g_end, g_size, 1, g_ready, nI (lv + 1), g_groups, g_atom, g_atomSize, g_length, g_found, b_kind, b_value, b_op, b_with, b_one, b_two, b_copyOp, b_copyWith, b_copyOne, b_copyTwo, b_opened, b_branch, b_sizes, b_jumps, b_groupOf, b_text, b_met, b_todo, b_notes) :=
  nm_r (nI_pred lv) (nm_r (nI_pred lv) (br_f (by decide) (cy_close55_1 hl h)))
theorem cy_closeC {post : SY → Prop} {lv en : Nat} {J : List Nat} {m : Nat → fg_I} (hl : lv < 25) (hen : en < 160) (hJ : fg_JC m J (b_jumps lv)) (hF : ∀ j, j ∈ J → j < en ∧ b_one j = (m j).2.2.1)
    (h : wY_close_55 post (nI lv) g_count g_place (nI en) g_size 0 g_ready (nI lv) g_groups g_atom g_atomSize g_length g_found b_kind b_value b_op b_with (cy_pt en J b_one) b_two b_copyOp b_copyWith b_copyOne b_copyTwo b_opened b_branch b_sizes b_jumps b_groupOf b_text b_met b_todo b_notes) : wpY_close post (g_count, g_place, nI en, g_size, 0, g_ready, nI (lv + 1), g_groups, g_atom, g_atomSize, g_length, g_found, b_kind, b_value, b_op, b_with, b_one, b_two, b_copyOp, b_copyWith, b_copyOne, b_copyTwo, b_opened, b_branch, b_sizes, b_jumps, b_groupOf, b_text, b_met, b_todo, b_notes) := by
  have hv : vp_in (nI lv) 25 := vp_in_nI hl (by omega)
  have ec : (nI lv).toNatClampNeg = lv := nI_clamp (by omega)
  refine nm_r (nI_pred lv) (nm_r (nI_pred lv) (br_t rfl ⟨hv, nm_r (e' := b_jumps lv) (by rw [ec]) ⟨J.length + 1, ?_⟩⟩))
  exact cy_close26 hen J b_one (b_jumps lv) hJ hF h
end YC
end
section
section YQ
def cy_ps (f c : Nat → Int32) (e n : Nat) : Nat → Int32 := fun p => if e ≤ p ∧ p < e + n then c (p - e) else f p
theorem cy_ps_0 (f c : Nat → Int32) (e : Nat) : cy_ps f c e 0 = f := by
  funext p; exact if_neg (by omega)
theorem cy_ps_s {f c : Nat → Int32} {e i : Nat} : upd (cy_ps f c e i) (e + i) (c i) = cy_ps f c e (i + 1) := by
  funext p
  unfold upd cy_ps
  by_cases h : p = e + i
  · rw [if_pos h, if_pos (by omega), h, Nat.add_sub_cancel_left]
  · rw [if_neg h]
    by_cases h2 : e ≤ p ∧ p < e + i
    · rw [if_pos h2, if_pos (by omega)]
    · rw [if_neg h2, if_neg (by omega)]
theorem cy_ps_in {f c : Nat → Int32} {e n j : Nat} (h : j < n) : cy_ps f c e n (e + j) = c j := by
  unfold cy_ps; rw [if_pos (by omega), Nat.add_sub_cancel_left]
theorem cy_ps_out {f c : Nat → Int32} {e n p : Nat} (h : p < e ∨ e + n ≤ p) : cy_ps f c e n p = f p := if_neg (by omega)
theorem cy_ps_B {f c : Nat → Int32} {e n : Nat} (h : rl_B f) (hc : ∀ j, j < n → cy_B (c j)) : rl_B (cy_ps f c e n) := by
  intro p
  rw [vp_nar_byte]
  unfold cy_ps
  by_cases h2 : e ≤ p ∧ p < e + n
  · rw [if_pos h2]; exact hc _ (by omega)
  · rw [if_neg h2]; exact rl_Bv h p
theorem cy_ps_S {f c : Nat → Int32} {e n : Nat} (h : rl_S f) (hc : ∀ j, j < n → cy_S (c j)) : rl_S (cy_ps f c e n) := by
  intro p
  rw [vp_nar_short]
  unfold cy_ps
  by_cases h2 : e ≤ p ∧ p < e + n
  · rw [if_pos h2]; exact hc _ (by omega)
  · rw [if_neg h2]; exact rl_Sv h p
theorem fg_q_ps {O W F G o w f g : Nat → Int32} {e n j : Nat} (h : j < n) : fg_q (cy_ps O o e n) (cy_ps W w e n) (cy_ps F f e n) (cy_ps G g e n) (e + j) = fg_q o w f g j := by
  unfold fg_q; rw [cy_ps_in h, cy_ps_in h, cy_ps_in h, cy_ps_in h]
theorem fg_q_pn {O W F G o w f g : Nat → Int32} {e n p : Nat} (h : p < e ∨ e + n ≤ p) : fg_q (cy_ps O o e n) (cy_ps W w e n) (cy_ps F f e n) (cy_ps G g e n) p = fg_q O W F G p := by
  unfold fg_q; rw [cy_ps_out h, cy_ps_out h, cy_ps_out h, cy_ps_out h]
/-- the buffer of the copied atom -/
def cy_cc (c f : Nat → Int32) (o i : Nat) : Nat → Int32 := fun j => if j < i then f (o + j) else c j
theorem cy_cc_0 (c f : Nat → Int32) (o : Nat) : cy_cc c f o 0 = c := by
  funext j; exact if_neg (by omega)
theorem cy_cc_s {c f : Nat → Int32} {o i : Nat} : upd (cy_cc c f o i) i (f (o + i)) = cy_cc c f o (i + 1) := by
  funext j
  unfold upd cy_cc
  by_cases h : j = i
  · rw [if_pos h, if_pos (by omega), h]
  · rw [if_neg h]
    by_cases h2 : j < i
    · rw [if_pos h2, if_pos (by omega)]
    · rw [if_neg h2, if_neg (by omega)]
theorem cy_cc_in {c f : Nat → Int32} {o i j : Nat} (h : j < i) : cy_cc c f o i j = f (o + j) := if_pos h
variable {g_count g_place g_end g_size g_large g_ready g_depth g_groups g_atom g_atomSize g_length g_found : Int32} {b_kind b_value b_op b_with b_one b_two b_copyOp b_copyWith b_copyOne b_copyTwo b_opened b_branch b_sizes b_jumps b_groupOf b_text : Nat → Int32} {b_met : Nat → Int64} {b_todo b_notes : Nat → Int32}
theorem cy_paste {post : SY → Prop} {en n : Nat} (hn : en + n ≤ 160) (B1 : ∀ j, j < n → cy_B (b_copyOp j)) (B2 : ∀ j, j < n → cy_B (b_copyWith j)) (S1 : ∀ j, j < n → cy_S (b_copyOne j)) (S2 : ∀ j, j < n → cy_S (b_copyTwo j))
    (h : post (g_count, g_place, nI (en + n), g_size, 0, g_ready, g_depth, g_groups, g_atom, g_atomSize, g_length, g_found, b_kind, b_value, cy_ps b_op b_copyOp en n, cy_ps b_with b_copyWith en n, cy_ps b_one b_copyOne en n, cy_ps b_two b_copyTwo en n, b_copyOp, b_copyWith, b_copyOne, b_copyTwo, b_opened, b_branch, b_sizes, b_jumps, b_groupOf, b_text, b_met, b_todo, b_notes)) : wpY_paste post (g_count, g_place, nI en, g_size, 0, g_ready, g_depth, g_groups, g_atom, g_atomSize, g_length, g_found, b_kind, b_value, b_op, b_with, b_one, b_two, b_copyOp, b_copyWith, b_copyOne, b_copyTwo, b_opened, b_branch, b_sizes, b_jumps, b_groupOf, b_text, b_met, b_todo, b_notes) (nI n) := by
  have key : ∀ (d i : Nat), i + d = n → wY_paste_2 post (nI n) (d + 1) (nI i) g_count g_place (nI (en + i)) g_size 0 g_ready g_depth g_groups g_atom g_atomSize g_length g_found b_kind b_value (cy_ps b_op b_copyOp en i) (cy_ps b_with b_copyWith en i) (cy_ps b_one b_copyOne en i) (cy_ps b_two b_copyTwo en i) b_copyOp b_copyWith b_copyOne b_copyTwo b_opened b_branch b_sizes b_jumps b_groupOf b_text b_met b_todo b_notes := by
    intro d
    induction d with
    | zero =>
      intro i hi
      obtain rfl : i = n := by omega
      exact br_t (nI_le (Nat.le_refl _) (by omega)) h
    | succ d ih =>
      intro i hi
      have hv : vp_in (nI i) 160 := vp_in_nI (by omega) (by omega)
      have ec : (nI i).toNatClampNeg = i := nI_clamp (by omega)
      refine br_f (nI_ge (by omega) (by omega)) ⟨hv, hv, hv, hv, ?_⟩
      rw [ec]
      refine cy_emit (by omega) (B1 i (by omega)) (B2 i (by omega)) (S1 i (by omega)) (S2 i (by omega)) ?_
      refine nm_r (nI_1 i) ?_
      rw [cy_ps_s, cy_ps_s, cy_ps_s, cy_ps_s]
      exact ih (i + 1) (by omega)
  refine ⟨n + 1, ?_⟩
  have := key n 0 (by omega)
  rw [cy_ps_0, cy_ps_0, cy_ps_0, cy_ps_0, Nat.add_zero, nI_0] at this
  exact this
theorem cy_q169 {post : SY → Prop} {x1 x3 x4 x5 : Int32} {o n : Nat} (hn : o + n ≤ 160) (B1 : rl_B b_op) (B2 : rl_B b_with) (S1 : rl_S b_one) (S2 : rl_S b_two)
    (h : ∃ k, wY_quantify_269 post x1 x3 x4 x5 (nI n) k 0 g_count g_place (nI o) g_size g_large g_ready g_depth g_groups (nI o) g_atomSize g_length g_found b_kind b_value b_op b_with b_one b_two (cy_cc b_copyOp b_op o n) (cy_cc b_copyWith b_with o n) (cy_cc b_copyOne b_one o n) (cy_cc b_copyTwo b_two o n) b_opened b_branch b_sizes b_jumps b_groupOf b_text b_met b_todo b_notes) : ∀ (d i : Nat), i + d = n →
    wY_quantify_169 post x1 x3 x4 x5 (nI n) g_count g_place g_end g_size g_large g_ready g_depth g_groups (nI o) g_atomSize g_length g_found (d + 1) (nI i) b_kind b_value b_op b_with b_one b_two (cy_cc b_copyOp b_op o i) (cy_cc b_copyWith b_with o i) (cy_cc b_copyOne b_one o i) (cy_cc b_copyTwo b_two o i) b_opened b_branch b_sizes b_jumps b_groupOf b_text b_met b_todo b_notes := by
  intro d
  induction d with
  | zero =>
    intro i hi
    obtain rfl : i = n := by omega
    exact br_t (nI_le (Nat.le_refl _) (by omega)) h
  | succ d ih =>
    intro i hi
    have hv : vp_in (nI i) 160 := vp_in_nI (by omega) (by omega)
    have hv2 : vp_in (nI (o + i)) 160 := vp_in_nI (by omega) (by omega)
    have ec : (nI i).toNatClampNeg = i := nI_clamp (by omega)
    have ec2 : (nI (o + i)).toNatClampNeg = o + i := nI_clamp (by omega)
    refine br_f (nI_ge (by omega) (by omega)) ?_
    rw [nI_add, ec, ec2]
    refine ⟨hv2, hv, nm_r (e' := cy_cc b_copyOp b_op o (i + 1)) (by rw [B1, cy_cc_s]) ⟨hv2, hv, nm_r (e' := cy_cc b_copyWith b_with o (i + 1)) (by rw [B2, cy_cc_s]) ⟨hv2, hv, nm_r (e' := cy_cc b_copyOne b_one o (i + 1)) (by rw [S1, cy_cc_s]) ⟨hv2, hv, nm_r (e' := cy_cc b_copyTwo b_two o (i + 1)) (by rw [S2, cy_cc_s]) (nm_r (nI_1 i) (ih (i + 1) (by omega)))⟩⟩⟩⟩
end YQ
end
section
section YR
def cy_p1 (f c : Nat → Int32) (o n : Nat) : Nat → Nat → Int32
  | 0 => f
  | k + 1 => cy_ps (cy_p1 f c o n k) c (o + k * n) n
def cy_p2 (f c : Nat → Int32) (v : Nat → Int32) (b n : Nat) : Nat → Nat → Int32
  | 0 => f
  | i + 1 => cy_ps (upd (cy_p2 f c v b n i) (b + i * (n + 1)) (v i)) c (b + i * (n + 1) + 1) n
theorem cy_p1_B {f c : Nat → Int32} {o n : Nat} (h : rl_B f) (hc : ∀ j, j < n → cy_B (c j)) : ∀ k, rl_B (cy_p1 f c o n k)
  | 0 => h
  | k + 1 => cy_ps_B (cy_p1_B h hc k) hc
theorem cy_p1_S {f c : Nat → Int32} {o n : Nat} (h : rl_S f) (hc : ∀ j, j < n → cy_S (c j)) : ∀ k, rl_S (cy_p1 f c o n k)
  | 0 => h
  | k + 1 => cy_ps_S (cy_p1_S h hc k) hc
theorem cy_p2_B {f c v : Nat → Int32} {b n : Nat} (h : rl_B f) (hc : ∀ j, j < n → cy_B (c j)) (hv : ∀ i, cy_B (v i)) : ∀ k, rl_B (cy_p2 f c v b n k)
  | 0 => h
  | k + 1 => cy_ps_B (rl_Bu (cy_p2_B h hc hv k) (hv k)) hc
theorem cy_p2_S {f c v : Nat → Int32} {b n N : Nat} (h : rl_S f) (hc : ∀ j, j < n → cy_S (c j)) (hv : ∀ i, i < N → cy_S (v i)) : ∀ k, k ≤ N → rl_S (cy_p2 f c v b n k)
  | 0, _ => h
  | k + 1, hk => cy_ps_S (rl_Su (cy_p2_S h hc hv k (by omega)) (hv k (by omega))) hc
/-- the first copies -/
theorem cy_p1_q {O W F G o w f g : Nat → Int32} {s n : Nat} : ∀ k, (∀ p, p < s → fg_q (cy_p1 O o s n k) (cy_p1 W w s n k) (cy_p1 F f s n k) (cy_p1 G g s n k) p = fg_q O W F G p) ∧ (∀ c j, c < k → j < n → fg_q (cy_p1 O o s n k) (cy_p1 W w s n k) (cy_p1 F f s n k) (cy_p1 G g s n k) (s + c * n + j) = fg_q o w f g j)
  | 0 => ⟨fun _ _ => rfl, fun c _ h => by omega⟩
  | k + 1 => by
    obtain ⟨h1, h2⟩ := cy_p1_q (O := O) (W := W) (F := F) (G := G) (o := o) (w := w) (f := f) (g := g) (s := s) (n := n) k
    refine ⟨fun p hp => ?_, fun c j hc hj => ?_⟩
    · show fg_q (cy_ps _ _ _ _) (cy_ps _ _ _ _) (cy_ps _ _ _ _) (cy_ps _ _ _ _) p = _
      rw [fg_q_pn (Or.inl (by omega)), h1 p hp]
    · show fg_q (cy_ps _ _ _ _) (cy_ps _ _ _ _) (cy_ps _ _ _ _) (cy_ps _ _ _ _) _ = _
      by_cases e : c = k
      · rw [e, fg_q_ps hj]
      · have : (c + 1) * n ≤ k * n := Nat.mul_le_mul_right n (by omega)
        rw [Nat.succ_mul] at this
        rw [fg_q_pn (Or.inl (by omega)), h2 c j (by omega) hj]
/-- the optional copies -/
theorem cy_p2_q {O W F G o w f g v0 v1 v2 v3 : Nat → Int32} {b n : Nat} : ∀ k, (∀ p, p < b → fg_q (cy_p2 O o v0 b n k) (cy_p2 W w v1 b n k) (cy_p2 F f v2 b n k) (cy_p2 G g v3 b n k) p = fg_q O W F G p) ∧
    (∀ c, c < k → fg_q (cy_p2 O o v0 b n k) (cy_p2 W w v1 b n k) (cy_p2 F f v2 b n k) (cy_p2 G g v3 b n k) (b + c * (n + 1)) = (v0 c, v1 c, v2 c, v3 c)) ∧
    (∀ c j, c < k → j < n → fg_q (cy_p2 O o v0 b n k) (cy_p2 W w v1 b n k) (cy_p2 F f v2 b n k) (cy_p2 G g v3 b n k) (b + c * (n + 1) + 1 + j) = fg_q o w f g j)
  | 0 => ⟨fun _ _ => rfl, fun c h => by omega, fun c _ h => by omega⟩
  | k + 1 => by
    obtain ⟨h1, h2, h3⟩ := cy_p2_q (O := O) (W := W) (F := F) (G := G) (o := o) (w := w) (f := f) (g := g) (v0 := v0) (v1 := v1) (v2 := v2) (v3 := v3) (b := b) (n := n) k
    have hm : ∀ c, c < k → c * (n + 1) + n + 1 ≤ k * (n + 1) := fun c hc => by
      have : (c + 1) * (n + 1) ≤ k * (n + 1) := Nat.mul_le_mul_right (n + 1) (by omega)
      rw [Nat.succ_mul] at this; omega
    refine ⟨fun p hp => ?_, fun c hc => ?_, fun c j hc hj => ?_⟩
    · show fg_q (cy_ps _ _ _ _) (cy_ps _ _ _ _) (cy_ps _ _ _ _) (cy_ps _ _ _ _) p = _
      rw [fg_q_pn (Or.inl (by omega)), fg_q_un (by omega), h1 p hp]
    · show fg_q (cy_ps _ _ _ _) (cy_ps _ _ _ _) (cy_ps _ _ _ _) (cy_ps _ _ _ _) _ = _
      by_cases e : c = k
      · rw [e, fg_q_pn (Or.inl (by omega)), fg_q_us]
      · have := hm c (by omega)
        rw [fg_q_pn (Or.inl (by omega)), fg_q_un (by omega), h2 c (by omega)]
    · show fg_q (cy_ps _ _ _ _) (cy_ps _ _ _ _) (cy_ps _ _ _ _) (cy_ps _ _ _ _) _ = _
      by_cases e : c = k
      · rw [e, fg_q_ps hj]
      · have := hm c (by omega)
        rw [fg_q_pn (Or.inl (by omega)), fg_q_un (by omega), h3 c j (by omega) hj]
theorem cy_z {n i opt : Nat} (h : i ≤ opt) : opt * (n + 1) - i * (n + 1) = (opt - i) * (n + 1) := by rw [Nat.sub_mul]
variable {g_count g_place g_end g_size g_large g_ready g_depth g_groups g_atom g_atomSize g_length g_found : Int32} {b_kind b_value b_op b_with b_one b_two b_copyOp b_copyWith b_copyOne b_copyTwo b_opened b_branch b_sizes b_jumps b_groupOf b_text : Nat → Int32} {b_met : Nat → Int64} {b_todo b_notes : Nat → Int32}
theorem cy_q398 {post : SY → Prop} {en n : Nat} {z1 z0 : Int32} (hn : en + n + 2 ≤ 160) (hz1 : cy_S z1) (hz0 : cy_S z0) (B1 : ∀ j, j < n → cy_B (b_copyOp j)) (B2 : ∀ j, j < n → cy_B (b_copyWith j)) (S1 : ∀ j, j < n → cy_S (b_copyOne j)) (S2 : ∀ j, j < n → cy_S (b_copyTwo j))
    (h : post (g_count, g_place, nI (en + n + 2), g_size, 0, g_ready, g_depth, g_groups, g_atom, g_atomSize, g_length, g_found, b_kind, b_value, upd (cy_ps (upd b_op en 3) b_copyOp (en + 1) n) (en + n + 1) 4, upd (cy_ps (upd b_with en 0) b_copyWith (en + 1) n) (en + n + 1) 0, upd (cy_ps (upd b_one en z1) b_copyOne (en + 1) n) (en + n + 1) (-(nI n) - 1), upd (cy_ps (upd b_two en z0) b_copyTwo (en + 1) n) (en + n + 1) 0, b_copyOp, b_copyWith, b_copyOne, b_copyTwo, b_opened, b_branch, b_sizes, b_jumps, b_groupOf, b_text, b_met, b_todo, b_notes)) : wY_quantify_398 post (nI n) z0 z1 0 3 g_count g_place (nI en) g_size 0 g_ready g_depth g_groups g_atom g_atomSize g_length g_found b_kind b_value b_op b_with b_one b_two b_copyOp b_copyWith b_copyOne b_copyTwo b_opened b_branch b_sizes b_jumps b_groupOf b_text b_met b_todo b_notes := by
  unfold wY_quantify_398
  refine cy_emit (by omega) (cy_Bn (n := 3) (by omega)) (cy_Bn (n := 0) (by omega)) hz1 hz0 ?_
  refine cy_paste (by omega) B1 B2 S1 S2 ?_
  rw [show en + 1 + n = en + n + 1 by omega]
  exact cy_emit (by omega) (cy_Bn (n := 4) (by omega)) (cy_Bn (n := 0) (by omega)) (cy_Sneg n (by omega)) (cy_Sn (n := 0) (by omega)) h
theorem cy_q304 {post : SY → Prop} {kk b n opt : Nat} {x5 : Int32} (hk : kk ≤ 15) (ho : opt ≤ 4) (hn : b + opt * (n + 1) ≤ 160) (B1 : ∀ j, j < n → cy_B (b_copyOp j)) (B2 : ∀ j, j < n → cy_B (b_copyWith j)) (S1 : ∀ j, j < n → cy_S (b_copyOne j)) (S2 : ∀ j, j < n → cy_S (b_copyTwo j))
    (h : ∀ k, wY_quantify_304 post (nI kk) (nI opt) x5 (nI n) (nI (b + opt * (n + 1))) (k + 1) (nI opt) g_count g_place (nI (b + opt * (n + 1))) g_size 0 g_ready g_depth g_groups g_atom g_atomSize g_length g_found b_kind b_value (cy_p2 b_op b_copyOp (fun _ => 3) b n opt) (cy_p2 b_with b_copyWith (fun _ => 0) b n opt) (cy_p2 b_one b_copyOne (fun i => if kk = 12 then nI ((opt - i) * (n + 1)) else 1) b n opt) (cy_p2 b_two b_copyTwo (fun i => if kk = 12 then 1 else nI ((opt - i) * (n + 1))) b n opt) b_copyOp b_copyWith b_copyOne b_copyTwo b_opened b_branch b_sizes b_jumps b_groupOf b_text b_met b_todo b_notes) : ∀ (d i : Nat), i + d = opt →
    wY_quantify_304 post (nI kk) (nI opt) x5 (nI n) (nI (b + opt * (n + 1))) (d + 1) (nI i) g_count g_place (nI (b + i * (n + 1))) g_size 0 g_ready g_depth g_groups g_atom g_atomSize g_length g_found b_kind b_value (cy_p2 b_op b_copyOp (fun _ => 3) b n i) (cy_p2 b_with b_copyWith (fun _ => 0) b n i) (cy_p2 b_one b_copyOne (fun i => if kk = 12 then nI ((opt - i) * (n + 1)) else 1) b n i) (cy_p2 b_two b_copyTwo (fun i => if kk = 12 then 1 else nI ((opt - i) * (n + 1))) b n i) b_copyOp b_copyWith b_copyOne b_copyTwo b_opened b_branch b_sizes b_jumps b_groupOf b_text b_met b_todo b_notes := by
  intro d
  induction d with
  | zero =>
    intro i hi
    obtain rfl : i = opt := by omega
    exact h 0
  | succ d ih =>
    intro i hi
    have hm : i * (n + 1) + n + 1 ≤ opt * (n + 1) := by
      have : (i + 1) * (n + 1) ≤ opt * (n + 1) := Nat.mul_le_mul_right (n + 1) (by omega)
      rw [Nat.succ_mul] at this; omega
    have e1 : nI (b + opt * (n + 1)) - nI (b + i * (n + 1)) = nI ((opt - i) * (n + 1)) := by
      rw [pk_sub (by omega), ← cy_z (by omega)]; congr 1; omega
    have hz : (opt - i) * (n + 1) < 32768 := by rw [← cy_z (by omega)]; omega
    have I := ih (i + 1) (by omega)
    rw [show b + (i + 1) * (n + 1) = b + i * (n + 1) + 1 + n by rw [Nat.succ_mul]; omega] at I
    refine br_f (nI_ge (by omega) (by omega)) (nm_r e1 ?_)
    by_cases e : kk = 12
    · have ek : nI kk = 12 := by rw [e]; rfl
      refine br_t ek (br_t ek ?_)
      unfold wY_quantify_347
      refine cy_emit (by omega) (cy_Bn (n := 3) (by omega)) (cy_Bn (n := 0) (by omega)) (cy_Sn hz) (cy_Sn (n := 1) (by omega)) ?_
      refine cy_paste (by omega) B1 B2 S1 S2 (nm_r (nI_1 i) ?_)
      have f1 : cy_p2 b_one b_copyOne (fun i => if kk = 12 then nI ((opt - i) * (n + 1)) else 1) b n (i + 1) = cy_ps (upd (cy_p2 b_one b_copyOne (fun i => if kk = 12 then nI ((opt - i) * (n + 1)) else 1) b n i) (b + i * (n + 1)) (nI ((opt - i) * (n + 1)))) b_copyOne (b + i * (n + 1) + 1) n := by
        show cy_ps (upd _ _ (if kk = 12 then _ else _)) _ _ _ = _
        rw [if_pos e]
      have f2 : cy_p2 b_two b_copyTwo (fun i => if kk = 12 then 1 else nI ((opt - i) * (n + 1))) b n (i + 1) = cy_ps (upd (cy_p2 b_two b_copyTwo (fun i => if kk = 12 then 1 else nI ((opt - i) * (n + 1))) b n i) (b + i * (n + 1)) 1) b_copyTwo (b + i * (n + 1) + 1) n := by
        show cy_ps (upd _ _ (if kk = 12 then _ else _)) _ _ _ = _
        rw [if_pos e]
      rw [f1, f2] at I
      exact I
    · have ek : ¬ nI kk = 12 := fun h => e ((nI_eq (b := 12) (by omega) (by omega)).mp h)
      refine br_f ek (br_f ek ?_)
      unfold wY_quantify_347
      refine cy_emit (by omega) (cy_Bn (n := 3) (by omega)) (cy_Bn (n := 0) (by omega)) (cy_Sn (n := 1) (by omega)) (cy_Sn hz) ?_
      refine cy_paste (by omega) B1 B2 S1 S2 (nm_r (nI_1 i) ?_)
      have f1 : cy_p2 b_one b_copyOne (fun i => if kk = 12 then nI ((opt - i) * (n + 1)) else 1) b n (i + 1) = cy_ps (upd (cy_p2 b_one b_copyOne (fun i => if kk = 12 then nI ((opt - i) * (n + 1)) else 1) b n i) (b + i * (n + 1)) 1) b_copyOne (b + i * (n + 1) + 1) n := by
        show cy_ps (upd _ _ (if kk = 12 then _ else _)) _ _ _ = _
        rw [if_neg e]
      have f2 : cy_p2 b_two b_copyTwo (fun i => if kk = 12 then 1 else nI ((opt - i) * (n + 1))) b n (i + 1) = cy_ps (upd (cy_p2 b_two b_copyTwo (fun i => if kk = 12 then 1 else nI ((opt - i) * (n + 1))) b n i) (b + i * (n + 1)) (nI ((opt - i) * (n + 1)))) b_copyTwo (b + i * (n + 1) + 1) n := by
        show cy_ps (upd _ _ (if kk = 12 then _ else _)) _ _ _ = _
        rw [if_neg e]
      rw [f1, f2] at I
      exact I
theorem cy_q269 {post : SY → Prop} {kk o n least opt : Nat} {x5 : Int32} (hk : kk ≤ 15) (hl : least ≤ 4) (ho : opt ≤ 4) (hn : o + least * n + opt * (n + 1) ≤ 160) (B1 : ∀ j, j < n → cy_B (b_copyOp j)) (B2 : ∀ j, j < n → cy_B (b_copyWith j)) (S1 : ∀ j, j < n → cy_S (b_copyOne j)) (S2 : ∀ j, j < n → cy_S (b_copyTwo j))
    (h : ∃ k, wY_quantify_304 post (nI kk) (nI opt) x5 (nI n) (nI (o + least * n + opt * (n + 1))) k 0 g_count g_place (nI (o + least * n)) g_size 0 g_ready g_depth g_groups g_atom g_atomSize g_length g_found b_kind b_value (cy_p1 b_op b_copyOp o n least) (cy_p1 b_with b_copyWith o n least) (cy_p1 b_one b_copyOne o n least) (cy_p1 b_two b_copyTwo o n least) b_copyOp b_copyWith b_copyOne b_copyTwo b_opened b_branch b_sizes b_jumps b_groupOf b_text b_met b_todo b_notes) : ∀ (d i : Nat), i + d = least →
    wY_quantify_269 post (nI kk) (nI least) (nI opt) x5 (nI n) (d + 1) (nI i) g_count g_place (nI (o + i * n)) g_size 0 g_ready g_depth g_groups g_atom g_atomSize g_length g_found b_kind b_value (cy_p1 b_op b_copyOp o n i) (cy_p1 b_with b_copyWith o n i) (cy_p1 b_one b_copyOne o n i) (cy_p1 b_two b_copyTwo o n i) b_copyOp b_copyWith b_copyOne b_copyTwo b_opened b_branch b_sizes b_jumps b_groupOf b_text b_met b_todo b_notes := by
  intro d
  induction d with
  | zero =>
    intro i hi
    obtain rfl : i = least := by omega
    refine br_t (nI_le (Nat.le_refl _) (by omega)) (nm_r ?_ h)
    rw [nI_1, pk_mul, nI_add]
  | succ d ih =>
    intro i hi
    have hm : i * n + n ≤ least * n := by
      have : (i + 1) * n ≤ least * n := Nat.mul_le_mul_right n (by omega)
      rw [Nat.succ_mul] at this; omega
    refine br_f (nI_ge (by omega) (by omega)) ?_
    refine cy_paste (by omega) B1 B2 S1 S2 (nm_r (nI_1 i) ?_)
    have I := ih (i + 1) (by omega)
    rw [show o + (i + 1) * n = o + i * n + n by rw [Nat.succ_mul]; omega] at I
    exact I
end YR
end
section
section YS
theorem qf_at_b (o n least i : Nat) : qf_at o n least (least + i) = o + least * n + i * (n + 1) := by
  unfold qf_at
  rw [Nat.add_mul, Nat.mul_add, Nat.mul_one, show least + i - least = i by omega]
  omega
theorem qf_at_s {o n least c : Nat} (h : c ≤ least) : qf_at o n least c = o + c * n := by
  unfold qf_at; omega
/-- what a quantifier leaves in the program -/
def yq_R (kk o n least opt st : Nat) (m m' : Nat → fg_I) : Prop :=
  (∀ p, p < o → m' p = m p) ∧
  (∀ c j, c < least + opt → j < n → m' (qf_ca o n least c + j) = m (o + j)) ∧
  (∀ c, c < least + opt → least ≤ c → ((kk = 12 ∧ qf_S m' (qf_at o n least c) (qf_at o n least (least + opt)) (qf_at o n least c + 1)) ∨ (¬ kk = 12 ∧ qf_S m' (qf_at o n least c) (qf_at o n least c + 1) (qf_at o n least (least + opt))))) ∧
  (st = 1 → (∀ j, j < n → m' (qf_at o n least (least + opt) + 1 + j) = m (o + j)) ∧
    ((kk ≤ 9 ∧ qf_S m' (qf_at o n least (least + opt)) (qf_at o n least (least + opt) + 1) (qf_at o n least (least + opt) + n + 2)) ∨ (9 < kk ∧ qf_S m' (qf_at o n least (least + opt)) (qf_at o n least (least + opt) + n + 2) (qf_at o n least (least + opt) + 1))) ∧
    qf_J m' (qf_at o n least (least + opt) + n + 1) (qf_at o n least (least + opt)))
theorem cy_jmp (e n : Nat) : nI (e + n + 1) + (-(nI n) - 1) = nI e := by
  rw [← nI_1, ← nI_add]; grind
variable {g_count g_place g_end g_size g_large g_ready g_depth g_groups g_atom g_atomSize g_length g_found : Int32} {b_kind b_value b_op b_with b_one b_two b_copyOp b_copyWith b_copyOne b_copyTwo b_opened b_branch b_sizes b_jumps b_groupOf b_text : Nat → Int32} {b_met : Nat → Int64} {b_todo b_notes : Nat → Int32}
theorem cy_q269C {kk o n least opt st : Nat} (hk : kk ≤ 15) (hl : least ≤ 4) (ho : opt ≤ 4) (hst : st ≤ 1) (hon : o + n ≤ 160) (hn : qf_at o n least (least + opt) + st * (n + 2) ≤ 160) (B1 : rl_B b_op) (B2 : rl_B b_with) (S1 : rl_S b_one) (S2 : rl_S b_two) :
    ∃ (O W F G : Nat → Int32), rl_B O ∧ rl_B W ∧ rl_S F ∧ rl_S G ∧ yq_R kk o n least opt st (fg_q b_op b_with b_one b_two) (fg_q O W F G) ∧
      (∀ post : SY → Prop, post (g_count, g_place, nI (qf_at o n least (least + opt) + st * (n + 2)), g_size, 0, g_ready, g_depth, g_groups, g_atom, g_atomSize, g_length, g_found, b_kind, b_value, O, W, F, G, cy_cc b_copyOp b_op o n, cy_cc b_copyWith b_with o n, cy_cc b_copyOne b_one o n, cy_cc b_copyTwo b_two o n, b_opened, b_branch, b_sizes, b_jumps, b_groupOf, b_text, b_met, b_todo, b_notes) →
        ∃ k, wY_quantify_269 post (nI kk) (nI least) (nI opt) (nI st) (nI n) k 0 g_count g_place (nI o) g_size 0 g_ready g_depth g_groups g_atom g_atomSize g_length g_found b_kind b_value b_op b_with b_one b_two (cy_cc b_copyOp b_op o n) (cy_cc b_copyWith b_with o n) (cy_cc b_copyOne b_one o n) (cy_cc b_copyTwo b_two o n) b_opened b_branch b_sizes b_jumps b_groupOf b_text b_met b_todo b_notes) := by
  have hE := qf_at_b o n least opt
  rw [hE] at hn ⊢
  have C1 : ∀ j, j < n → cy_B (cy_cc b_copyOp b_op o n j) := fun j hj => by rw [cy_cc_in hj]; exact rl_Bv B1 _
  have C2 : ∀ j, j < n → cy_B (cy_cc b_copyWith b_with o n j) := fun j hj => by rw [cy_cc_in hj]; exact rl_Bv B2 _
  have C3 : ∀ j, j < n → cy_S (cy_cc b_copyOne b_one o n j) := fun j hj => by rw [cy_cc_in hj]; exact rl_Sv S1 _
  have C4 : ∀ j, j < n → cy_S (cy_cc b_copyTwo b_two o n j) := fun j hj => by rw [cy_cc_in hj]; exact rl_Sv S2 _
  have cq : ∀ j, j < n → fg_q (cy_cc b_copyOp b_op o n) (cy_cc b_copyWith b_with o n) (cy_cc b_copyOne b_one o n) (cy_cc b_copyTwo b_two o n) j = fg_q b_op b_with b_one b_two (o + j) := fun j hj => by
    unfold fg_q; rw [cy_cc_in hj, cy_cc_in hj, cy_cc_in hj, cy_cc_in hj]
  obtain ⟨P1, P2⟩ := cy_p1_q (O := b_op) (W := b_with) (F := b_one) (G := b_two) (o := cy_cc b_copyOp b_op o n) (w := cy_cc b_copyWith b_with o n) (f := cy_cc b_copyOne b_one o n) (g := cy_cc b_copyTwo b_two o n) (s := o) (n := n) least
  obtain ⟨Q1, Q2, Q3⟩ := cy_p2_q (O := cy_p1 b_op (cy_cc b_copyOp b_op o n) o n least) (W := cy_p1 b_with (cy_cc b_copyWith b_with o n) o n least) (F := cy_p1 b_one (cy_cc b_copyOne b_one o n) o n least) (G := cy_p1 b_two (cy_cc b_copyTwo b_two o n) o n least) (o := cy_cc b_copyOp b_op o n) (w := cy_cc b_copyWith b_with o n) (f := cy_cc b_copyOne b_one o n) (g := cy_cc b_copyTwo b_two o n) (v0 := fun _ => 3) (v1 := fun _ => 0) (v2 := fun i => if kk = 12 then nI ((opt - i) * (n + 1)) else 1) (v3 := fun i => if kk = 12 then 1 else nI ((opt - i) * (n + 1))) (b := o + least * n) (n := n) opt
  have hz : ∀ i, i < opt → (opt - i) * (n + 1) < 32768 := fun i hi => by
    have : (opt - i) * (n + 1) ≤ opt * (n + 1) := Nat.mul_le_mul_right (n + 1) (by omega)
    omega
  have hv2 : ∀ i, i < opt → cy_S ((fun i => if kk = 12 then nI ((opt - i) * (n + 1)) else 1) i) := fun i hi => by
    dsimp only
    split
    · exact cy_Sn (hz i hi)
    · exact cy_Sn (n := 1) (by omega)
  have hv3 : ∀ i, i < opt → cy_S ((fun i => if kk = 12 then 1 else nI ((opt - i) * (n + 1))) i) := fun i hi => by
    dsimp only
    split
    · exact cy_Sn (n := 1) (by omega)
    · exact cy_Sn (hz i hi)
  have R1 := cy_p2_B (v := fun _ => 3) (b := o + least * n) (cy_p1_B (o := o) B1 C1 least) C1 (fun _ => cy_Bn (n := 3) (by omega)) opt
  have R2 := cy_p2_B (v := fun _ => 0) (b := o + least * n) (cy_p1_B (o := o) B2 C2 least) C2 (fun _ => cy_Bn (n := 0) (by omega)) opt
  have R3 := cy_p2_S (b := o + least * n) (cy_p1_S (o := o) S1 C3 least) C3 hv2 opt (Nat.le_refl _)
  have R4 := cy_p2_S (b := o + least * n) (cy_p1_S (o := o) S2 C4 least) C4 hv3 opt (Nat.le_refl _)
  -- the part without a star
  have low : ∀ p, p < o → fg_q (cy_p2 (cy_p1 b_op (cy_cc b_copyOp b_op o n) o n least) (cy_cc b_copyOp b_op o n) (fun _ => 3) (o + least * n) n opt) (cy_p2 (cy_p1 b_with (cy_cc b_copyWith b_with o n) o n least) (cy_cc b_copyWith b_with o n) (fun _ => 0) (o + least * n) n opt) (cy_p2 (cy_p1 b_one (cy_cc b_copyOne b_one o n) o n least) (cy_cc b_copyOne b_one o n) (fun i => if kk = 12 then nI ((opt - i) * (n + 1)) else 1) (o + least * n) n opt) (cy_p2 (cy_p1 b_two (cy_cc b_copyTwo b_two o n) o n least) (cy_cc b_copyTwo b_two o n) (fun i => if kk = 12 then 1 else nI ((opt - i) * (n + 1))) (o + least * n) n opt) p = fg_q b_op b_with b_one b_two p := fun p hp => by rw [Q1 p (by omega), P1 p hp]
  generalize hO : cy_p2 (cy_p1 b_op (cy_cc b_copyOp b_op o n) o n least) (cy_cc b_copyOp b_op o n) (fun _ => 3) (o + least * n) n opt = O at *
  generalize hW : cy_p2 (cy_p1 b_with (cy_cc b_copyWith b_with o n) o n least) (cy_cc b_copyWith b_with o n) (fun _ => 0) (o + least * n) n opt = W at *
  generalize hF : cy_p2 (cy_p1 b_one (cy_cc b_copyOne b_one o n) o n least) (cy_cc b_copyOne b_one o n) (fun i => if kk = 12 then nI ((opt - i) * (n + 1)) else 1) (o + least * n) n opt = F at *
  generalize hG : cy_p2 (cy_p1 b_two (cy_cc b_copyTwo b_two o n) o n least) (cy_cc b_copyTwo b_two o n) (fun i => if kk = 12 then 1 else nI ((opt - i) * (n + 1))) (o + least * n) n opt = G at *
  have A2 : ∀ c j, c < least + opt → j < n → fg_q O W F G (qf_ca o n least c + j) = fg_q b_op b_with b_one b_two (o + j) := by
    intro c j hc hj
    by_cases e : c < least
    · have e1 : qf_ca o n least c = o + c * n := by
        unfold qf_ca; rw [if_neg (by omega), qf_at_s (by omega), Nat.add_zero]
      have : (c + 1) * n ≤ least * n := Nat.mul_le_mul_right n (by omega)
      rw [Nat.succ_mul] at this
      rw [e1, Q1 _ (by omega), P2 c j e hj, cq j hj]
    · obtain ⟨i, rfl⟩ : ∃ i, c = least + i := ⟨c - least, by omega⟩
      have e1 : qf_ca o n least (least + i) = o + least * n + i * (n + 1) + 1 := by
        unfold qf_ca; rw [if_pos (by omega), qf_at_b]
      rw [e1, Q3 i j (by omega) hj, cq j hj]
  have A3 : ∀ c, c < least + opt → least ≤ c → ((kk = 12 ∧ qf_S (fg_q O W F G) (qf_at o n least c) (o + least * n + opt * (n + 1)) (qf_at o n least c + 1)) ∨ (¬ kk = 12 ∧ qf_S (fg_q O W F G) (qf_at o n least c) (qf_at o n least c + 1) (o + least * n + opt * (n + 1)))) := by
    intro c hc hlc
    obtain ⟨i, rfl⟩ : ∃ i, c = least + i := ⟨c - least, by omega⟩
    have hq := Q2 i (by omega)
    have hs : nI (o + least * n + i * (n + 1)) + nI ((opt - i) * (n + 1)) = nI (o + least * n + opt * (n + 1)) := by
      have : i * (n + 1) ≤ opt * (n + 1) := Nat.mul_le_mul_right (n + 1) (by omega)
      rw [nI_add, ← cy_z (by omega)]; congr 1; omega
    rw [qf_at_b]
    by_cases e : kk = 12
    · rw [if_pos e, if_pos e] at hq
      exact Or.inl ⟨e, by rw [hq], by rw [hq]; exact hs, by rw [hq]; exact nI_1 _⟩
    · rw [if_neg e, if_neg e] at hq
      exact Or.inr ⟨e, by rw [hq], by rw [hq]; exact nI_1 _, by rw [hq]; exact hs⟩
  have key : ∀ post : SY → Prop, (∀ k, wY_quantify_304 post (nI kk) (nI opt) (nI st) (nI n) (nI (o + least * n + opt * (n + 1))) (k + 1) (nI opt) g_count g_place (nI (o + least * n + opt * (n + 1))) g_size 0 g_ready g_depth g_groups g_atom g_atomSize g_length g_found b_kind b_value O W F G (cy_cc b_copyOp b_op o n) (cy_cc b_copyWith b_with o n) (cy_cc b_copyOne b_one o n) (cy_cc b_copyTwo b_two o n) b_opened b_branch b_sizes b_jumps b_groupOf b_text b_met b_todo b_notes) →
      ∃ k, wY_quantify_269 post (nI kk) (nI least) (nI opt) (nI st) (nI n) k 0 g_count g_place (nI o) g_size 0 g_ready g_depth g_groups g_atom g_atomSize g_length g_found b_kind b_value b_op b_with b_one b_two (cy_cc b_copyOp b_op o n) (cy_cc b_copyWith b_with o n) (cy_cc b_copyOne b_one o n) (cy_cc b_copyTwo b_two o n) b_opened b_branch b_sizes b_jumps b_groupOf b_text b_met b_todo b_notes := by
    intro post h
    have T := cy_q269 (post := post) (kk := kk) (o := o) (n := n) (least := least) (opt := opt) (x5 := nI st) (g_count := g_count) (g_place := g_place) (g_size := g_size) (g_ready := g_ready) (g_depth := g_depth) (g_groups := g_groups) (g_atom := g_atom) (g_atomSize := g_atomSize) (g_length := g_length) (g_found := g_found) (b_kind := b_kind) (b_value := b_value) (b_op := b_op) (b_with := b_with) (b_one := b_one) (b_two := b_two) (b_copyOp := cy_cc b_copyOp b_op o n) (b_copyWith := cy_cc b_copyWith b_with o n) (b_copyOne := cy_cc b_copyOne b_one o n) (b_copyTwo := cy_cc b_copyTwo b_two o n) (b_opened := b_opened) (b_branch := b_branch) (b_sizes := b_sizes) (b_jumps := b_jumps) (b_groupOf := b_groupOf) (b_text := b_text) (b_met := b_met) (b_todo := b_todo) (b_notes := b_notes) hk hl ho (by omega) C1 C2 C3 C4 ⟨opt + 1, by
      have U := cy_q304 (post := post) (kk := kk) (b := o + least * n) (n := n) (opt := opt) (x5 := nI st) (g_count := g_count) (g_place := g_place) (g_size := g_size) (g_ready := g_ready) (g_depth := g_depth) (g_groups := g_groups) (g_atom := g_atom) (g_atomSize := g_atomSize) (g_length := g_length) (g_found := g_found) (b_kind := b_kind) (b_value := b_value) (b_op := cy_p1 b_op (cy_cc b_copyOp b_op o n) o n least) (b_with := cy_p1 b_with (cy_cc b_copyWith b_with o n) o n least) (b_one := cy_p1 b_one (cy_cc b_copyOne b_one o n) o n least) (b_two := cy_p1 b_two (cy_cc b_copyTwo b_two o n) o n least) (b_copyOp := cy_cc b_copyOp b_op o n) (b_copyWith := cy_cc b_copyWith b_with o n) (b_copyOne := cy_cc b_copyOne b_one o n) (b_copyTwo := cy_cc b_copyTwo b_two o n) (b_opened := b_opened) (b_branch := b_branch) (b_sizes := b_sizes) (b_jumps := b_jumps) (b_groupOf := b_groupOf) (b_text := b_text) (b_met := b_met) (b_todo := b_todo) (b_notes := b_notes) hk ho (by omega) C1 C2 C3 C4 (by rw [hO, hW, hF, hG]; exact h) opt 0 (by omega)
      rw [Nat.zero_mul, Nat.add_zero] at U
      exact U⟩ least 0 (by omega)
    rw [Nat.zero_mul, Nat.add_zero] at T
    exact ⟨_, T⟩
  have hle : nI opt ≤ nI opt := nI_le (Nat.le_refl _) (by omega)
  have hst01 : st = 0 ∨ st = 1 := by omega
  rcases hst01 with rfl | rfl
  · refine ⟨O, W, F, G, R1, R2, R3, R4, ⟨low, A2, by rw [hE]; exact A3, fun h => by omega⟩, fun post h => key post (fun k => ?_)⟩
    rw [Nat.zero_mul, Nat.add_zero] at h
    exact br_t hle (br_t rfl h)
  · rw [Nat.one_mul] at hn
    have fin : ∀ (z1 z0 : Int32), cy_S z1 → cy_S z0 → ((kk ≤ 9 ∧ z1 = 1 ∧ z0 = nI (n + 2)) ∨ (9 < kk ∧ z1 = nI (n + 2) ∧ z0 = 1)) →
        ∃ (O W F G : Nat → Int32), rl_B O ∧ rl_B W ∧ rl_S F ∧ rl_S G ∧ yq_R kk o n least opt 1 (fg_q b_op b_with b_one b_two) (fg_q O W F G) ∧
          (∀ post : SY → Prop, post (g_count, g_place, nI (o + least * n + opt * (n + 1) + 1 * (n + 2)), g_size, 0, g_ready, g_depth, g_groups, g_atom, g_atomSize, g_length, g_found, b_kind, b_value, O, W, F, G, cy_cc b_copyOp b_op o n, cy_cc b_copyWith b_with o n, cy_cc b_copyOne b_one o n, cy_cc b_copyTwo b_two o n, b_opened, b_branch, b_sizes, b_jumps, b_groupOf, b_text, b_met, b_todo, b_notes) →
            ∃ k, wY_quantify_269 post (nI kk) (nI least) (nI opt) (nI 1) (nI n) k 0 g_count g_place (nI o) g_size 0 g_ready g_depth g_groups g_atom g_atomSize g_length g_found b_kind b_value b_op b_with b_one b_two (cy_cc b_copyOp b_op o n) (cy_cc b_copyWith b_with o n) (cy_cc b_copyOne b_one o n) (cy_cc b_copyTwo b_two o n) b_opened b_branch b_sizes b_jumps b_groupOf b_text b_met b_todo b_notes) := by
      intro z1 z0 hz1 hz0 hzz
      generalize hEE : o + least * n + opt * (n + 1) = E at *
      refine ⟨upd (cy_ps (upd O E 3) (cy_cc b_copyOp b_op o n) (E + 1) n) (E + n + 1) 4, upd (cy_ps (upd W E 0) (cy_cc b_copyWith b_with o n) (E + 1) n) (E + n + 1) 0, upd (cy_ps (upd F E z1) (cy_cc b_copyOne b_one o n) (E + 1) n) (E + n + 1) (-(nI n) - 1), upd (cy_ps (upd G E z0) (cy_cc b_copyTwo b_two o n) (E + 1) n) (E + n + 1) 0,
        rl_Bu (cy_ps_B (rl_Bu R1 (cy_Bn (n := 3) (by omega))) C1) (cy_Bn (n := 4) (by omega)), rl_Bu (cy_ps_B (rl_Bu R2 (cy_Bn (n := 0) (by omega))) C2) (cy_Bn (n := 0) (by omega)), rl_Su (cy_ps_S (rl_Su R3 hz1) C3) (cy_Sneg n (by omega)), rl_Su (cy_ps_S (rl_Su R4 hz0) C4) (cy_Sn (n := 0) (by omega)), ?_, ?_⟩
      · have lowE : ∀ p, p < E → fg_q (upd (cy_ps (upd O E 3) (cy_cc b_copyOp b_op o n) (E + 1) n) (E + n + 1) 4) (upd (cy_ps (upd W E 0) (cy_cc b_copyWith b_with o n) (E + 1) n) (E + n + 1) 0) (upd (cy_ps (upd F E z1) (cy_cc b_copyOne b_one o n) (E + 1) n) (E + n + 1) (-(nI n) - 1)) (upd (cy_ps (upd G E z0) (cy_cc b_copyTwo b_two o n) (E + 1) n) (E + n + 1) 0) p = fg_q O W F G p := fun p hp => by
          rw [fg_q_un (by omega), fg_q_pn (Or.inl (by omega)), fg_q_un (by omega)]
        have atE : fg_q (upd (cy_ps (upd O E 3) (cy_cc b_copyOp b_op o n) (E + 1) n) (E + n + 1) 4) (upd (cy_ps (upd W E 0) (cy_cc b_copyWith b_with o n) (E + 1) n) (E + n + 1) 0) (upd (cy_ps (upd F E z1) (cy_cc b_copyOne b_one o n) (E + 1) n) (E + n + 1) (-(nI n) - 1)) (upd (cy_ps (upd G E z0) (cy_cc b_copyTwo b_two o n) (E + 1) n) (E + n + 1) 0) E = (3, 0, z1, z0) := by
          rw [fg_q_un (by omega), fg_q_pn (Or.inl (by omega)), fg_q_us]
        have caE : ∀ c, c < least + opt → qf_ca o n least c + n ≤ E := fun c hc => by
          rw [qf_ca_n]
          have := qf_at_le o n least (show c + 1 ≤ least + opt by omega)
          omega
        have atl : ∀ c, c < least + opt → qf_at o n least c < E ∨ ¬ least ≤ c := fun c hc => by
          by_cases h : least ≤ c
          · left
            have := caE c hc
            unfold qf_ca at this
            rw [if_pos h] at this
            omega
          · exact Or.inr h
        refine ⟨fun p hp => by rw [lowE p (by omega)]; exact low p hp, fun c j hc hj => by rw [lowE _ (by have := caE c hc; omega)]; exact A2 c j hc hj, ?_, fun _ => ⟨?_, ?_, ?_⟩⟩
        · rw [hE]
          intro c hc hlc
          have hlt := (atl c hc).resolve_right (fun h => h hlc)
          unfold qf_S
          rw [lowE _ hlt]
          exact A3 c hc hlc
        · rw [hE]
          intro j hj
          rw [fg_q_un (by omega), fg_q_ps hj, cq j hj]
        · rw [hE]
          unfold qf_S
          rw [atE]
          rcases hzz with ⟨k1, k2, k3⟩ | ⟨k1, k2, k3⟩
          · exact Or.inl ⟨k1, rfl, by rw [k2]; exact nI_1 E, by rw [k3, nI_add]; rfl⟩
          · exact Or.inr ⟨k1, rfl, by rw [k2, nI_add]; rfl, by rw [k3]; exact nI_1 E⟩
        · rw [hE]
          unfold qf_J
          rw [fg_q_us]
          exact ⟨rfl, cy_jmp E n⟩
      · intro post h
        rw [Nat.one_mul] at h
        refine key post (fun k => br_t hle (br_f (by decide) ?_))
        rcases hzz with ⟨k1, k2, k3⟩ | ⟨k1, k2, k3⟩
        · have h9 : nI kk ≤ 9 := nI_le (b := 9) k1 (by omega)
          refine br_t h9 (br_t h9 ?_)
          rw [show nI n + 2 = z0 by rw [k3]; exact nI_add n 2, show (1 : Int32) = z1 from k2.symm]
          exact cy_q398 (by omega) hz1 hz0 C1 C2 C3 C4 h
        · have h9 : ¬ nI kk ≤ 9 := nI_ge (a := 9) k1 (by omega)
          refine br_f h9 (br_f h9 ?_)
          rw [show nI n + 2 = z1 by rw [k2]; exact nI_add n 2, show (1 : Int32) = z0 from k3.symm]
          exact cy_q398 (by omega) hz1 hz0 C1 C2 C3 C4 h
    by_cases h9 : kk ≤ 9
    · exact fin 1 (nI (n + 2)) (cy_Sn (n := 1) (by omega)) (cy_Sn (by omega)) (Or.inl ⟨h9, rfl, rfl⟩)
    · exact fin (nI (n + 2)) 1 (cy_Sn (by omega)) (cy_Sn (n := 1) (by omega)) (Or.inr ⟨by omega, rfl, rfl⟩)
end YS
end
section
section CI
/-! the invariant of the building, both sides -/
def cp_lag (g : Nat) (le : Int32) : Nat := 2 * cp_gb g + (if le = -2 then 0 else 1)
def cp_sum (g : Nat → Nat) (le : Nat → Int32) : Nat → Nat
  | 0 => 0
  | d + 1 => cp_sum g le d + cp_lag (g d) (le d)
theorem cp_sum_f {g g' : Nat → Nat} {le le' : Nat → Int32} : ∀ d, (∀ i, i < d → g' i = g i ∧ le' i = le i) → cp_sum g' le' d = cp_sum g le d
  | 0, _ => rfl
  | d + 1, h => by
    show cp_sum g' le' d + cp_lag (g' d) (le' d) = cp_sum g le d + cp_lag (g d) (le d)
    rw [cp_sum_f d (fun i hi => h i (by omega)), (h d (by omega)).1, (h d (by omega)).2]
def cq_u (f : Nat → Nat) (k v : Nat) : Nat → Nat := fun j => if j = k then v else f j
theorem cq_us {f : Nat → Nat} {k v : Nat} : cq_u f k v k = v := if_pos rfl
theorem cq_un {f : Nat → Nat} {k v j : Nat} (h : j ≠ k) : cq_u f k v j = f j := if_neg h
def cq_uJ (f : Nat → List Nat) (k : Nat) (v : List Nat) : Nat → List Nat := fun j => if j = k then v else f j
theorem cq_uJs {f : Nat → List Nat} {k : Nat} {v : List Nat} : cq_uJ f k v k = v := if_pos rfl
theorem cq_uJn {f : Nat → List Nat} {k j : Nat} {v : List Nat} (h : j ≠ k) : cq_uJ f k v j = f j := if_neg h
theorem cq_v_up {n k : Nat} {y : Int32} (h : cq_v n y) (hn : n ≤ k) : cq_v k y := by
  rcases h with h | ⟨q, q1, q2⟩
  · exact Or.inl h
  · exact Or.inr ⟨q, by omega, q2⟩
theorem cq_v_m2 {n : Nat} {y : Int32} (h : cq_v n y) (hn : n ≤ 1000) : ¬ y = -2 := by
  rcases h with h | ⟨q, q1, q2⟩
  · rw [h]; decide
  · rw [q2]
    intro e
    have := nI_pos (n := q) (by omega)
    rw [e] at this
    exact this (by decide)
theorem cq_v_mo {n : Nat} {t y : Int32} (ht : cq_v n t) (hy : cq_v n y) : cq_v n (fg_mo t y) := by
  unfold fg_mo
  split
  · exact ht
  · exact hy
theorem cq_mo_m {t y : Int32} (h : fg_mo t y = -1) : y = -1 ∧ t = -1 := by
  unfold fg_mo at h
  split at h
  · rename_i e; exact ⟨e, h⟩
  · rename_i e; exact absurd h e
def cq_D (gg lsN bsN od : Nat → Nat) (lg ls le bs be opd szs gof : Nat → Int32) (d : Nat) : Prop :=
  lg d = nI (gg d) ∧ gof d = nI (gg d) ∧ gg d ≤ 3 ∧ ls d = nI (lsN d) ∧ bs d = nI (bsN d) ∧ szs d = nI (lsN d + cp_sum gg le d) ∧ lsN d ≤ bsN d ∧ bsN d ≤ lsN (d + 1) ∧ cq_v (lsN (d + 1)) (be d) ∧ (be d = -1 → bsN d = lsN (d + 1)) ∧ opd d = nI (od d) ∧ od d ≤ 80 ∧ (le d = -2 → bsN d = lsN d)
def cq_C (lv pc en : Nat) (gg lsN bsN od br : Nat → Nat) (J : Nat → List Nat) (ae : Int32) (m x : Nat → fg_I) (le be brn jmp : Nat → Int32) : Prop :=
  (∀ d, d ≤ lv → brn d = nI (br d) ∧ cp_L m x (gg d) (le d) (jmp d) (be d) (od d) (br d) (od (d + 1)) (lsN d) (bsN d) (lsN (d + 1)) (J d)) ∧ fg_F m x (od (lv + 1)) en (lsN (lv + 1)) pc ae
def cq_K (lv pc en sz : Nat) (gg lsN bsN od br : Nat → Nat) (J : Nat → List Nat) (ae : Int32) (m x : Nat → fg_I) (lg ls le bs be opd brn szs jmp gof : Nat → Int32) : Prop :=
  lv ≤ 24 ∧ pc ≤ 36 ∧ en ≤ 80 ∧ lsN 0 = 0 ∧ gg 0 = 0 ∧ od 0 = 0 ∧ lsN (lv + 1) ≤ pc ∧ od (lv + 1) ≤ 80 ∧ sz = pc + cp_sum gg le (lv + 1) ∧ cq_v pc ae ∧ (ae = -1 → lsN (lv + 1) = pc) ∧
  (∀ d, d ≤ lv → cq_D gg lsN bsN od lg ls le bs be opd szs gof d) ∧
  (sz ≤ 36 → cq_C lv pc en gg lsN bsN od br J ae m x le be brn jmp)
section
variable {lv pc en sz : Nat} {gg lsN bsN od br : Nat → Nat} {J : Nat → List Nat} {ae : Int32} {m x m' x' : Nat → fg_I} {lg ls le bs be opd brn szs jmp gof : Nat → Int32}
theorem cq_mono (hD : ∀ d, d ≤ lv → cq_D gg lsN bsN od lg ls le bs be opd szs gof d) : ∀ k d, d + k ≤ lv + 1 → lsN d ≤ lsN (d + k)
  | 0, d, _ => Nat.le_refl _
  | k + 1, d, h => by
    have h1 := cq_mono hD k d (by omega)
    obtain ⟨_, _, _, _, _, _, a, b, _⟩ := hD (d + k) (by omega)
    rw [show d + (k + 1) = d + k + 1 by omega]
    omega
theorem cq_omono (hC : ∀ d, d ≤ lv → brn d = nI (br d) ∧ cp_L m x (gg d) (le d) (jmp d) (be d) (od d) (br d) (od (d + 1)) (lsN d) (bsN d) (lsN (d + 1)) (J d)) : ∀ k d, d + k ≤ lv + 1 → od d ≤ od (d + k)
  | 0, d, _ => Nat.le_refl _
  | k + 1, d, h => by
    have h1 := cq_omono hC k d (by omega)
    obtain ⟨a, b, _⟩ := cp_L_le (hC (d + k) (by omega)).2
    rw [show d + (k + 1) = d + k + 1 by omega]
    omega
/-- the program is at most twice the size -/
theorem cq_bound (h0 : lsN 0 = 0) (o0 : od 0 = 0) (hC : ∀ d, d ≤ lv → brn d = nI (br d) ∧ cp_L m x (gg d) (le d) (jmp d) (be d) (od d) (br d) (od (d + 1)) (lsN d) (bsN d) (lsN (d + 1)) (J d)) : ∀ k, k ≤ lv + 1 → od k ≤ 2 * lsN k + 2 * cp_sum gg le k
  | 0, _ => by rw [o0]; omega
  | k + 1, h => by
    have h1 := cq_bound h0 o0 hC k (by omega)
    obtain ⟨_, _, c, d, e⟩ := cp_L_le (hC k (by omega)).2
    show od (k + 1) ≤ 2 * lsN (k + 1) + 2 * (cp_sum gg le k + cp_lag (gg k) (le k))
    unfold cp_lag
    have := cp_gb_le (gg k)
    split at e <;> rename_i hh
    · rw [if_pos hh]; omega
    · rw [if_neg hh]; omega
theorem cq_en (h : cq_K lv pc en sz gg lsN bsN od br J ae m x lg ls le bs be opd brn szs jmp gof) (hs : sz ≤ 36) : en ≤ 2 * sz := by
  obtain ⟨k1, k2, k3, k4, k5, k6, k7, k8, k9, k10, k11, k12, k13⟩ := h
  obtain ⟨c1, c2⟩ := k13 hs
  have h1 := cq_bound k4 k6 c1 (lv + 1) (Nat.le_refl _)
  have h2 := c2.1
  have h3 := c2.2.2.1
  omega
/-- another atom in the place of the waiting one -/
theorem cq_atom {pc' en' sz' : Nat} {ae' : Int32} (h : cq_K lv pc en sz gg lsN bsN od br J ae m x lg ls le bs be opd brn szs jmp gof)
    (hp : pc' ≤ 36) (he : en' ≤ 80) (hs : sz' + pc = sz + pc') (hl : lsN (lv + 1) ≤ pc') (hv : cq_v pc' ae') (hm1 : ae' = -1 → lsN (lv + 1) = pc') (hle : pc ≤ pc')
    (hC : sz' ≤ 36 → fg_F m x (od (lv + 1)) en (lsN (lv + 1)) pc ae → fg_F m' x' (od (lv + 1)) en' (lsN (lv + 1)) pc' ae' ∧ (∀ j, j < od (lv + 1) → m' j = m j) ∧ (∀ p, p < lsN (lv + 1) → x' p = x p)) :
    cq_K lv pc' en' sz' gg lsN bsN od br J ae' m' x' lg ls le bs be opd brn szs jmp gof := by
  obtain ⟨k1, k2, k3, k4, k5, k6, k7, k8, k9, k10, k11, k12, k13⟩ := h
  refine ⟨k1, hp, he, k4, k5, k6, hl, k8, by omega, hv, hm1, k12, fun hs' => ?_⟩
  obtain ⟨c1, c2⟩ := k13 (by omega)
  obtain ⟨d1, d2, d3⟩ := hC hs' c2
  refine ⟨fun d hd => ⟨(c1 d hd).1, cp_L_frame (c1 d hd).2 (fun j j1 j2 => d2 j ?_) (fun p p1 p2 => d3 p ?_)⟩, d1⟩
  · have := cq_omono c1 (lv - d) (d + 1) (by omega)
    rw [show d + 1 + (lv - d) = lv + 1 by omega] at this
    omega
  · have := cq_mono k12 (lv - d) (d + 1) (by omega)
    rw [show d + 1 + (lv - d) = lv + 1 by omega] at this
    omega
/-- the waiting atom joins its branch -/
theorem cq_join (h : cq_K lv pc en sz gg lsN bsN od br J ae m x lg ls le bs be opd brn szs jmp gof)
    (hx1 : ∀ p, bsN lv ≤ p → p < lsN (lv + 1) → x' p = fg_px (fg_mo ae) (x p)) (hx2 : ∀ p, p < bsN lv ∨ lsN (lv + 1) ≤ p → x' p = x p) :
    cq_K lv pc en sz gg (cq_u lsN (lv + 1) pc) bsN (cq_u od (lv + 1) en) br J (-1) m x' lg ls le bs (upd be lv (fg_mo ae (be lv))) opd brn szs jmp gof := by
  obtain ⟨k1, k2, k3, k4, k5, k6, k7, k8, k9, k10, k11, k12, k13⟩ := h
  refine ⟨k1, k2, k3, by rw [cq_un (by omega)]; exact k4, k5, by rw [cq_un (by omega)]; exact k6, by rw [cq_us]; exact Nat.le_refl _, by rw [cq_us]; exact k3, k9, Or.inl rfl, fun _ => cq_us, fun d hd => ?_, fun hs' => ?_⟩
  · obtain ⟨e1, e2, e3, e4, e5, e6, e7, e8, e9, e10, e11, e12, e13⟩ := k12 d hd
    by_cases e : d = lv
    · subst e
      refine ⟨e1, e2, e3, by rw [cq_un (by omega)]; exact e4, e5, by rw [cq_un (by omega)]; exact e6, by rw [cq_un (by omega)]; exact e7, by rw [cq_us]; omega, by rw [rl_us, cq_us]; exact cq_v_mo k10 (cq_v_up e9 k7), fun hh => ?_, by rw [cq_un (by omega)]; exact e11, by rw [cq_un (by omega)]; exact e12, by rw [cq_un (by omega)]; exact e13⟩
      rw [rl_us] at hh
      obtain ⟨h1, h2⟩ := cq_mo_m hh
      rw [cq_us, e10 h1, k11 h2]
    · rw [show cq_D gg (cq_u lsN (lv + 1) pc) bsN (cq_u od (lv + 1) en) lg ls le bs (upd be lv (fg_mo ae (be lv))) opd szs gof d = cq_D gg lsN bsN od lg ls le bs be opd szs gof d by
        unfold cq_D
        rw [cq_un (by omega), cq_un (by omega), cq_un (by omega), rl_un e]]
      exact k12 d hd
  · obtain ⟨c1, c2⟩ := k13 hs'
    refine ⟨fun d hd => ⟨(c1 d hd).1, ?_⟩, ?_⟩
    · by_cases e : d = lv
      · subst e
        rw [cq_us, cq_us, rl_us, cq_un (by omega), cq_un (by omega)]
        obtain ⟨_, _, b3, b4, _⟩ := cp_L_le (c1 d hd).2
        exact cp_join (c1 d hd).2 c2 (by omega) (fun p p1 p2 => hx2 p (Or.inl p2)) hx1 (fun p p1 p2 => hx2 p (Or.inr p1))
      · rw [cq_un (by omega), cq_un (by omega), cq_un (by omega), cq_un (by omega), rl_un e]
        have h1 := cq_mono k12 (lv - (d + 1)) (d + 1) (by omega)
        rw [show d + 1 + (lv - (d + 1)) = lv by omega] at h1
        obtain ⟨_, _, b3, b4, _⟩ := cp_L_le (c1 lv (Nat.le_refl _)).2
        exact cp_L_frame (c1 d hd).2 (fun _ _ _ => rfl) (fun p p1 p2 => hx2 p (Or.inl (by omega)))
    · rw [cq_us, cq_us]
      exact fg_empty m x' en pc
end
end CI
end
section
section CJ
variable {lv pc en sz : Nat} {gg lsN bsN od br : Nat → Nat} {J : Nat → List Nat} {m x m' x' : Nat → fg_I} {lg ls le bs be opd brn szs jmp gof : Nat → Int32}
theorem cp_lag_2 (g : Nat) : cp_lag g (-2) = 2 * cp_gb g := by unfold cp_lag; rw [if_pos rfl]; omega
/-- a bracket opens -/
theorem cq_open {g en' : Nat} {brn' : Nat → Int32} (h : cq_K lv pc en sz gg lsN bsN od br J (-1) m x lg ls le bs be opd brn szs jmp gof) (hl : lv + 1 ≤ 24) (hg : g ≤ 3) (hls : lsN (lv + 1) = pc) (hod : od (lv + 1) = en) (he : en' ≤ 80)
    (hb : ∀ d, d ≤ lv → brn' d = brn d)
    (hC : sz + 2 * cp_gb g ≤ 36 → en' = en + cp_gb g ∧ brn' (lv + 1) = nI en' ∧ (∀ j, j < en → m' j = m j) ∧ (0 < g → (m' en).1 = 5 ∧ (m' en).2.1 = nI (2 * g) ∧ (m' en).2.2.1 = 1)) :
    cq_K (lv + 1) pc en' (sz + 2 * cp_gb g) (cq_u gg (lv + 1) g) (cq_u lsN (lv + 2) pc) (cq_u bsN (lv + 1) pc) (cq_u od (lv + 2) en') (cq_u br (lv + 1) en') (cq_uJ J (lv + 1) []) (-1) m' x (upd lg (lv + 1) (nI g)) (upd ls (lv + 1) (nI pc)) (upd le (lv + 1) (-2)) (upd bs (lv + 1) (nI pc)) (upd be (lv + 1) (-1)) (upd opd (lv + 1) (nI en)) brn' (upd szs (lv + 1) (nI sz)) (upd jmp (lv + 1) (-1)) (upd gof (lv + 1) (nI g)) := by
  obtain ⟨k1, k2, k3, k4, k5, k6, k7, k8, k9, k10, k11, k12, k13⟩ := h
  have hsum : ∀ d, d ≤ lv + 1 → cp_sum (cq_u gg (lv + 1) g) (upd le (lv + 1) (-2)) d = cp_sum gg le d := fun d hd => cp_sum_f d (fun i hi => ⟨cq_un (by omega), rl_un (by omega)⟩)
  refine ⟨hl, k2, he, by rw [cq_un (by omega)]; exact k4, by rw [cq_un (by omega)]; exact k5, by rw [cq_un (by omega)]; exact k6, by rw [cq_us]; exact Nat.le_refl _, by rw [cq_us]; exact he, ?_, Or.inl rfl, fun _ => cq_us, fun d hd => ?_, fun hs' => ?_⟩
  · show sz + 2 * cp_gb g = pc + (cp_sum (cq_u gg (lv + 1) g) (upd le (lv + 1) (-2)) (lv + 1) + cp_lag (cq_u gg (lv + 1) g (lv + 1)) (upd le (lv + 1) (-2) (lv + 1)))
    rw [hsum _ (Nat.le_refl _), cq_us, rl_us, cp_lag_2]
    omega
  · by_cases e : d = lv + 1
    · subst e
      refine ⟨by rw [rl_us, cq_us], by rw [rl_us, cq_us], by rw [cq_us]; exact hg, by rw [rl_us, cq_un (by omega), hls], by rw [rl_us, cq_us], ?_, by rw [cq_un (by omega), cq_us, hls]; exact Nat.le_refl _, by rw [cq_us, cq_us]; exact Nat.le_refl _, by rw [rl_us]; exact Or.inl rfl, fun _ => by rw [cq_us, cq_us], by rw [rl_us, cq_un (by omega), hod], by rw [cq_un (by omega)]; exact k8, fun _ => by rw [cq_us, cq_un (by omega), hls]⟩
      rw [rl_us, cq_un (by omega), hsum _ (Nat.le_refl _), hls, k9]
    · have hd' : d ≤ lv := by omega
      obtain ⟨e1, e2, e3, e4, e5, e6, e7, e8, e9, e10, e11, e12, e13⟩ := k12 d hd'
      refine ⟨by rw [rl_un e, cq_un e]; exact e1, by rw [rl_un e, cq_un e]; exact e2, by rw [cq_un e]; exact e3, by rw [rl_un e, cq_un (by omega)]; exact e4, by rw [rl_un e, cq_un e]; exact e5, by rw [rl_un e, cq_un (by omega), hsum d (by omega)]; exact e6, by rw [cq_un (by omega), cq_un e]; exact e7, by rw [cq_un e, cq_un (by omega)]; exact e8, by rw [rl_un e, cq_un (by omega)]; exact e9, fun hh => by rw [rl_un e] at hh; rw [cq_un e, cq_un (by omega)]; exact e10 hh, by rw [rl_un e, cq_un (by omega)]; exact e11, by rw [cq_un (by omega)]; exact e12, fun hh => by rw [rl_un e] at hh; rw [cq_un e, cq_un (by omega)]; exact e13 hh⟩
  · obtain ⟨c1, c2⟩ := k13 (by omega)
    obtain ⟨q1, q2, q3, q4⟩ := hC hs'
    refine ⟨fun d hd => ?_, ?_⟩
    · by_cases e : d = lv + 1
      · subst e
        rw [cq_us, cq_us, cq_us, rl_us, rl_us, rl_us, cq_un (show lv + 1 ≠ lv + 2 by omega), cq_us, cq_un (show lv + 1 ≠ lv + 2 by omega), cq_us, cq_uJs, hod, hls]
        exact ⟨q2, q4, Or.inl ⟨rfl, q1, rfl, rfl⟩, fg_empty m' x en' pc⟩
      · have hd' : d ≤ lv := by omega
        rw [cq_un e, cq_un e, rl_un e, rl_un e, rl_un e, cq_un (show d ≠ lv + 2 by omega), cq_un (show d + 1 ≠ lv + 2 by omega), cq_un (show d ≠ lv + 2 by omega), cq_un e, cq_un (show d + 1 ≠ lv + 2 by omega), cq_uJn e, hb d hd']
        refine ⟨(c1 d hd').1, cp_L_frame (c1 d hd').2 (fun j j1 j2 => q3 j ?_) (fun _ _ _ => rfl)⟩
        have := cq_omono c1 (lv - d) (d + 1) (by omega)
        rw [show d + 1 + (lv - d) = lv + 1 by omega, hod] at this
        omega
    · rw [cq_us, cq_us]
      exact fg_empty m' x en' pc
/-- a bar -/
theorem cq_bar {en' pc' : Nat} {e1 : Int32} {brn' jmp' : Nat → Int32} (h : cq_K lv pc en sz gg lsN bsN od br J (-1) m x lg ls le bs be opd brn szs jmp gof) (hls : lsN (lv + 1) = pc) (hod : od (lv + 1) = en) (he : en' ≤ 80) (hp : pc' ≤ 36)
    (hf : (le lv = -2 ∧ e1 = be lv ∧ pc' = pc) ∨ (¬ le lv = -2 ∧ e1 = nI pc ∧ pc' = pc + 1 ∧ (x' pc).1 = 4 ∧ (x' pc).2.2 = (le lv, be lv)))
    (hx : ∀ p, p < pc → x' p = x p) (hb : ∀ d, d < lv → brn' d = brn d ∧ jmp' d = jmp d)
    (hC : sz + 1 ≤ 36 → en' = en + 2 ∧ brn' lv = nI (en + 2) ∧ jmp' lv = nI (en + 1) ∧ (∀ j, j < br lv → m' j = m j) ∧ (∀ j, br lv ≤ j → j < en → m' (j + 1) = m j) ∧ (m' (br lv)).1 = 3 ∧ nI (br lv) + (m' (br lv)).2.2.1 = nI (br lv + 1) ∧ nI (br lv) + (m' (br lv)).2.2.2 = nI (en + 2) ∧ (m' (en + 1)).1 = 4 ∧ (m' (en + 1)).2.2.1 = jmp lv) :
    ∃ J', cq_K lv pc' en' (sz + 1) gg (cq_u lsN (lv + 1) pc') (cq_u bsN lv pc') (cq_u od (lv + 1) en') (cq_u br lv (en + 2)) J' (-1) m' x' lg ls (upd le lv e1) (upd bs lv (nI pc')) (upd be lv (-1)) opd brn' szs jmp' gof := by
  obtain ⟨k1, k2, k3, k4, k5, k6, k7, k8, k9, k10, k11, k12, k13⟩ := h
  have hbe : ¬ be lv = -2 := cq_v_m2 (k12 lv (Nat.le_refl _)).2.2.2.2.2.2.2.2.1 (by omega)
  have he1 : ¬ e1 = -2 := by
    rcases hf with ⟨_, h, _⟩ | ⟨_, h, _⟩
    · rw [h]; exact hbe
    · exact cq_v_m2 (n := pc + 1) (Or.inr ⟨pc, by omega, h⟩) (by omega)
  have hsum : ∀ d, d ≤ lv → cp_sum gg (upd le lv e1) d = cp_sum gg le d := fun d hd => cp_sum_f d (fun i hi => ⟨rfl, rl_un (by omega)⟩)
  have hpc : pc ≤ pc' := by rcases hf with ⟨_, _, h⟩ | ⟨_, _, h, _⟩ <;> omega
  have code : sz + 1 ≤ 36 → ∃ J', cp_L m' x' (gg lv) e1 (nI (en + 1)) (-1) (od lv) (en + 2) (en + 2) (lsN lv) pc' pc' J' := by
    intro hs'
    obtain ⟨c1, c2⟩ := k13 (by omega)
    obtain ⟨q1, q2, q3, q4, q5, q6, q7, q8, q9, q10⟩ := hC hs'
    have L := (c1 lv (Nat.le_refl _)).2
    rw [hod, hls] at L
    exact cp_bar L (fun j _ j2 => q4 j j2) q5 q6 q7 q8 q9 q10 (fun p _ p2 => hx p p2) hbe (by omega) hf
  have ⟨J0, hJ0⟩ : ∃ J0 : List Nat, sz + 1 ≤ 36 → cp_L m' x' (gg lv) e1 (nI (en + 1)) (-1) (od lv) (en + 2) (en + 2) (lsN lv) pc' pc' J0 := by
    by_cases hs' : sz + 1 ≤ 36
    · obtain ⟨J0, h0⟩ := code hs'
      exact ⟨J0, fun _ => h0⟩
    · exact ⟨[], fun h => absurd h hs'⟩
  refine ⟨cq_uJ J lv J0, k1, hp, he, by rw [cq_un (by omega)]; exact k4, k5, by rw [cq_un (by omega)]; exact k6, by rw [cq_us]; exact Nat.le_refl _, by rw [cq_us]; exact he, ?_, Or.inl rfl, fun _ => cq_us, fun d hd => ?_, fun hs' => ?_⟩
  · show sz + 1 = pc' + (cp_sum gg (upd le lv e1) lv + cp_lag (gg lv) (upd le lv e1 lv))
    have k9' : sz = pc + (cp_sum gg le lv + cp_lag (gg lv) (le lv)) := k9
    rw [hsum _ (Nat.le_refl _), rl_us]
    unfold cp_lag at k9' ⊢
    rw [if_neg he1]
    rcases hf with ⟨h1, _, h⟩ | ⟨h1, _, h, _⟩
    · rw [if_pos h1] at k9'; omega
    · rw [if_neg h1] at k9'; omega
  · obtain ⟨f1, f2, f3, f4, f5, f6, f7, f8, f9, f10, f11, f12, f13⟩ := k12 d hd
    by_cases e : d = lv
    · subst e
      exact ⟨f1, f2, f3, by rw [cq_un (by omega)]; exact f4, by rw [rl_us, cq_us], by rw [cq_un (by omega), hsum d (Nat.le_refl _)]; exact f6, by rw [cq_un (by omega), cq_us]; omega, by rw [cq_us, cq_us]; exact Nat.le_refl _, by rw [rl_us]; exact Or.inl rfl, fun _ => by rw [cq_us, cq_us], by rw [cq_un (by omega)]; exact f11, by rw [cq_un (by omega)]; exact f12, fun hh => by rw [rl_us] at hh; exact absurd hh he1⟩
    · exact ⟨f1, f2, f3, by rw [cq_un (by omega)]; exact f4, by rw [rl_un e, cq_un e]; exact f5, by rw [cq_un (by omega), hsum d (by omega)]; exact f6, by rw [cq_un (by omega), cq_un e]; exact f7, by rw [cq_un e, cq_un (by omega)]; exact f8, by rw [rl_un e, cq_un (by omega)]; exact f9, fun hh => by rw [rl_un e] at hh; rw [cq_un e, cq_un (by omega)]; exact f10 hh, by rw [cq_un (by omega)]; exact f11, by rw [cq_un (by omega)]; exact f12, fun hh => by rw [rl_un e] at hh; rw [cq_un e, cq_un (by omega)]; exact f13 hh⟩
  · obtain ⟨c1, c2⟩ := k13 (by omega)
    obtain ⟨q1, q2, q3, q4, q5, q6, q7, q8, q9, q10⟩ := hC hs'
    refine ⟨fun d hd => ?_, ?_⟩
    · by_cases e : d = lv
      · subst e
        rw [cq_us, rl_us, rl_us, cq_us, cq_us, cq_us, cq_uJs, cq_un (show d ≠ d + 1 by omega), cq_un (show d ≠ d + 1 by omega), q3, q1]
        exact ⟨q2, hJ0 hs'⟩
      · rw [cq_un e, rl_un e, rl_un e, cq_un e, cq_un (show d + 1 ≠ lv + 1 by omega), cq_un (show d + 1 ≠ lv + 1 by omega), cq_uJn e, cq_un (show d ≠ lv + 1 by omega), cq_un (show d ≠ lv + 1 by omega), (hb d (by omega)).1, (hb d (by omega)).2]
        refine ⟨(c1 d hd).1, cp_L_frame (c1 d hd).2 (fun j j1 j2 => q4 j ?_) (fun p p1 p2 => hx p ?_)⟩
        · have h1 := cq_omono c1 (lv - (d + 1)) (d + 1) (by omega)
          rw [show d + 1 + (lv - (d + 1)) = lv by omega] at h1
          obtain ⟨b1, _⟩ := cp_L_le (c1 lv (Nat.le_refl _)).2
          omega
        · have h1 := cq_mono k12 (lv - d) (d + 1) (by omega)
          rw [show d + 1 + (lv - d) = lv + 1 by omega, hls] at h1
          omega
    · rw [cq_us, cq_us, q1]
      exact fg_empty m' x' (en + 2) pc'
/-- a bracket closes -/
theorem cq_close {l en' pc1 pc' : Nat} {e1 ae' : Int32} {x1 : Nat → fg_I} (h : cq_K (l + 1) pc en sz gg lsN bsN od br J (-1) m x lg ls le bs be opd brn szs jmp gof) (hls : lsN (l + 2) = pc) (hod : od (l + 2) = en) (he : en' ≤ 80) (hp : pc' ≤ 36)
    (hf : (le (l + 1) = -2 ∧ e1 = be (l + 1) ∧ pc1 = pc) ∨ (¬ le (l + 1) = -2 ∧ e1 = nI pc ∧ pc1 = pc + 1 ∧ (x1 pc).1 = 4 ∧ (x1 pc).2.2 = (le (l + 1), be (l + 1))))
    (hx : ∀ p, p < pc → x1 p = x p)
    (hg : (gg (l + 1) = 0 ∧ pc' = pc1 ∧ ae' = e1 ∧ x' = x1) ∨ (0 < gg (l + 1) ∧ pc' = pc1 + 2 ∧ ae' = nI (pc1 + 1) ∧ (∀ p, lsN (l + 1) ≤ p → p < pc1 → x' p = fg_px (fg_mo (nI pc1)) (x1 p)) ∧ (∀ p, p < lsN (l + 1) → x' p = x1 p) ∧ x' pc1 = (3, nI (2 * (gg (l + 1) - 1) + 1), -1, -1) ∧ x' (pc1 + 1) = (3, nI (2 * (gg (l + 1) - 1)), fg_mo (nI pc1) e1, -1)))
    (hC : sz ≤ 36 → en' = en + cp_gb (gg (l + 1)) ∧ (∀ j, j < en → (¬ le (l + 1) = -2 → ¬ j ∈ J (l + 1)) → m' j = m j) ∧ (¬ le (l + 1) = -2 → ∀ j, j ∈ J (l + 1) → (m' j).1 = 4 ∧ nI j + (m' j).2.2.1 = nI en) ∧ (0 < gg (l + 1) → (m' en).1 = 5 ∧ (m' en).2.1 = nI (2 * gg (l + 1) + 1) ∧ (m' en).2.2.1 = 1)) :
    cq_K l pc' en' sz gg lsN bsN od br J ae' m' x' lg ls (upd le (l + 1) e1) (upd bs (l + 1) (nI pc1)) (upd be (l + 1) (-1)) opd brn szs jmp gof ∧ lsN (l + 1) ≤ pc ∧ sz = lsN (l + 1) + cp_sum gg le (l + 1) + (pc' - lsN (l + 1)) := by
  obtain ⟨k1, k2, k3, k4, k5, k6, k7, k8, k9, k10, k11, k12, k13⟩ := h
  obtain ⟨f1, f2, f3, f4, f5, f6, f7, f8, f9, f10, f11, f12, f13⟩ := k12 (l + 1) (Nat.le_refl _)
  have hsum : ∀ d, d ≤ l + 1 → cp_sum gg (upd le (l + 1) e1) d = cp_sum gg le d := fun d hd => cp_sum_f d (fun i hi => ⟨rfl, rl_un (by omega)⟩)
  have hlp : lsN (l + 1) ≤ pc := by rw [hls] at f8; omega
  have hpc : pc ≤ pc1 := by rcases hf with ⟨_, _, h⟩ | ⟨_, _, h, _⟩ <;> omega
  have hpp : pc1 ≤ pc' := by rcases hg with ⟨_, h, _⟩ | ⟨_, h, _⟩ <;> omega
  have k9' : sz = pc + (cp_sum gg le (l + 1) + cp_lag (gg (l + 1)) (le (l + 1))) := k9
  have hlag : pc' = pc + cp_lag (gg (l + 1)) (le (l + 1)) := by
    unfold cp_lag cp_gb
    rcases hf with ⟨h1, _, h⟩ | ⟨h1, _, h, _⟩
    · rw [if_pos h1]
      rcases hg with ⟨g1, g2, _⟩ | ⟨g1, g2, _⟩
      · rw [if_neg (by omega)]; omega
      · rw [if_pos g1]; omega
    · rw [if_neg h1]
      rcases hg with ⟨g1, g2, _⟩ | ⟨g1, g2, _⟩
      · rw [if_neg (by omega)]; omega
      · rw [if_pos g1]; omega
  have hv1 : cq_v pc1 e1 := by
    rcases hf with ⟨h1, h2, h3⟩ | ⟨_, h2, h3, _⟩
    · rw [h2]
      rw [show l + 1 + 1 = l + 2 by omega, hls] at f9
      exact cq_v_up f9 hpc
    · exact Or.inr ⟨pc, by omega, h2⟩
  have hbe2 : be (l + 1) = -1 → bsN (l + 1) = pc := fun h => by rw [f10 h]; exact hls
  have hv' : cq_v pc' ae' := by
    rcases hg with ⟨_, g2, g3, _⟩ | ⟨_, g2, g3, _⟩
    · rw [g2, g3]; exact hv1
    · exact Or.inr ⟨pc1 + 1, by omega, g3⟩
  have hm1 : ae' = -1 → lsN (l + 1) = pc' := by
    intro ha
    rcases hg with ⟨_, g2, g3, _⟩ | ⟨_, g2, g3, _⟩
    · rw [g3] at ha
      rcases hf with ⟨h1, h2, h3⟩ | ⟨_, h2, h3, _⟩
      · rw [h2] at ha
        rw [g2, h3, ← hbe2 ha, f13 h1]
      · rw [h2] at ha
        exact absurd ha (fg_ne (by omega))
    · rw [g3] at ha
      exact absurd ha (fg_ne (by omega))
  refine ⟨⟨by omega, hp, he, k4, k5, k6, by omega, f12, ?_, hv', hm1, fun d hd => ?_, fun hs' => ?_⟩, hlp, by omega⟩
  · rw [hsum _ (Nat.le_refl _)]; omega
  · obtain ⟨q1, q2, q3, q4, q5, q6, q7, q8, q9, q10, q11, q12, q13⟩ := k12 d (by omega)
    have e : d ≠ l + 1 := by omega
    exact ⟨q1, q2, q3, q4, by rw [rl_un e]; exact q5, by rw [hsum d (by omega)]; exact q6, q7, q8, by rw [rl_un e]; exact q9, fun hh => by rw [rl_un e] at hh; exact q10 hh, q11, q12, fun hh => by rw [rl_un e] at hh; exact q13 hh⟩
  · obtain ⟨c1, c2⟩ := k13 hs'
    obtain ⟨q1, q2, q3, q4⟩ := hC hs'
    have L := (c1 (l + 1) (Nat.le_refl _)).2
    rw [show l + 1 + 1 = l + 2 by omega, hod, hls] at L
    obtain ⟨b1, b2, b3, b4, _⟩ := cp_L_le L
    have hlow : ∀ j, j < od (l + 1) → m' j = m j := fun j hj => q2 j (by omega) (fun hne hjJ => by
      rcases L.2.1 with ⟨a1, _⟩ | ⟨_, a2, _⟩
      · exact hne a1
      · have := cp_mem a2 hjJ; omega)
    obtain ⟨D1, D2⟩ := cp_done (m' := m') (x' := x1) (pc' := pc1) (le' := e1) L (by omega) (fun j j1 j2 j3 => q2 j j2 j3) q3 (fun p _ p2 => hx p p2) hf
    refine ⟨fun d hd => ?_, ?_⟩
    · have e : d ≠ l + 1 := by omega
      rw [rl_un e, rl_un e]
      refine ⟨(c1 d (by omega)).1, cp_L_frame (c1 d (by omega)).2 (fun j j1 j2 => hlow j ?_) (fun p p1 p2 => ?_)⟩
      · have h1 := cq_omono c1 (l - d) (d + 1) (by omega)
        rw [show d + 1 + (l - d) = l + 1 by omega] at h1
        omega
      · have h1 := cq_mono k12 (l - d) (d + 1) (by omega)
        rw [show d + 1 + (l - d) = l + 1 by omega] at h1
        rcases hg with ⟨_, _, _, g4⟩ | ⟨_, _, _, _, g5, _⟩
        · rw [g4, hx p (by omega)]
        · rw [g5 p (by omega), hx p (by omega)]
    · rcases hg with ⟨g1, g2, g3, g4⟩ | ⟨g1, g2, g3, g4, g5, g6, g7⟩
      · have e0 : cp_gb (gg (l + 1)) = 0 := by unfold cp_gb; rw [if_neg (by omega)]
        rw [e0, Nat.add_zero] at D1 q1
        rw [g2, g3, g4, q1]
        exact D1
      · have e0 : cp_gb (gg (l + 1)) = 1 := if_pos g1
        rw [e0] at D1 q1
        obtain ⟨n1, n2, n3⟩ := D2 g1
        obtain ⟨r1, r2, r3⟩ := q4 g1
        rw [g2, g3, q1]
        refine fg_grp D1 (by omega) g4 n3 r3 (by rw [g6]) (by rw [g7]) ?_ ?_
        · refine Or.inr (Or.inr (Or.inr ⟨n1, by rw [g7], 2 * (gg (l + 1) - 1), by omega, by rw [g7], ?_⟩))
          rw [n2]; congr 1; omega
        · refine Or.inr (Or.inr (Or.inr ⟨r1, by rw [g6], 2 * (gg (l + 1) - 1) + 1, by omega, by rw [g6], ?_⟩))
          rw [r2]; congr 1; omega
end CJ
end
section
section YT
/-- the numbers of a quantifier: at least, optional, star -/
def yq_K (kk : Nat) (v : Int32) (least opt st : Nat) : Prop :=
  (kk = 7 ∧ least = 0 ∧ opt = 0 ∧ st = 1) ∨ (kk = 8 ∧ least = 1 ∧ opt = 0 ∧ st = 1) ∨ (kk = 9 ∧ least = 0 ∧ opt = 1 ∧ st = 0) ∨ (kk = 10 ∧ least = 0 ∧ opt = 0 ∧ st = 1) ∨ (kk = 11 ∧ least = 1 ∧ opt = 0 ∧ st = 1) ∨ (kk = 12 ∧ least = 0 ∧ opt = 1 ∧ st = 0) ∨ (kk = 14 ∧ st = 0 ∧ least ≤ 4 ∧ 1 ≤ least + opt ∧ least + opt ≤ 4 ∧ v = nI (8 * least + (least + opt)))
theorem yq_K_b {kk : Nat} {v : Int32} {least opt st : Nat} (h : yq_K kk v least opt st) : kk ≤ 15 ∧ least ≤ 4 ∧ opt ≤ 4 ∧ st ≤ 1 ∧ 1 ≤ least + opt + st := by
  unfold yq_K at h; omega
theorem yq_14 {least opt : Nat} (h1 : 1 ≤ least + opt) (h2 : least + opt ≤ 4) : nI (8 * least + (least + opt)) / 8 = nI least ∧ (nI (8 * least + (least + opt)) - nI (8 * least + (least + opt)) / 8 * 8) - nI least = nI opt := by
  have e1 : nI (8 * least + (least + opt)) / 8 = nI least := by
    rw [show (8 : Int32) = nI 8 from rfl, pk_div (by omega) (by omega) (by omega)]
    congr 1; omega
  have e2 : nI (8 * least + (least + opt)) - nI (8 * least + (least + opt)) / 8 * 8 = nI (least + opt) := by
    rw [show (8 : Int32) = nI 8 from rfl, pk_rem (by omega) (by omega) (by omega)]
    congr 1; omega
  refine ⟨e1, ?_⟩
  rw [e2, pk_sub (by omega)]
  congr 1; omega
variable {g_count g_place g_end g_size g_large g_ready g_depth g_groups g_atom g_atomSize g_length g_found : Int32} {b_kind b_value b_op b_with b_one b_two b_copyOp b_copyWith b_copyOne b_copyTwo b_opened b_branch b_sizes b_jumps b_groupOf b_text : Nat → Int32} {b_met : Nat → Int64} {b_todo b_notes : Nat → Int32}
theorem cy_disp {post : SY → Prop} {kk least opt st : Nat} {v : Int32} (hK : yq_K kk v least opt st) (h : wY_quantify_94 post (nI kk) (nI least) (nI opt) (nI st) g_count g_place g_end g_size g_large g_ready g_depth g_groups g_atom g_atomSize g_length g_found b_kind b_value b_op b_with b_one b_two b_copyOp b_copyWith b_copyOne b_copyTwo b_opened b_branch b_sizes b_jumps b_groupOf b_text b_met b_todo b_notes) : wpY_quantify post (g_count, g_place, g_end, g_size, g_large, g_ready, g_depth, g_groups, g_atom, g_atomSize, g_length, g_found, b_kind, b_value, b_op, b_with, b_one, b_two, b_copyOp, b_copyWith, b_copyOne, b_copyTwo, b_opened, b_branch, b_sizes, b_jumps, b_groupOf, b_text, b_met, b_todo, b_notes) (nI kk) v := by
  rcases hK with ⟨rfl, rfl, rfl, rfl⟩ | ⟨rfl, rfl, rfl, rfl⟩ | ⟨rfl, rfl, rfl, rfl⟩ | ⟨rfl, rfl, rfl, rfl⟩ | ⟨rfl, rfl, rfl, rfl⟩ | ⟨rfl, rfl, rfl, rfl⟩ | ⟨rfl, rfl, h1, h2, h3, rfl⟩
  · exact br_f (by decide) (br_f (by decide) (br_f (by decide) (br_f (by decide) (br_f (by decide) (br_f (by decide) (br_t rfl h))))))
  · exact br_t rfl (br_f (by decide) (br_f (by decide) (br_f (by decide) (br_f (by decide) (br_t rfl h)))))
  · exact br_f (by decide) (br_f (by decide) (br_f (by decide) (br_t rfl (br_f (by decide) (br_f (by decide) (br_f (by decide) (br_f (by decide) h)))))))
  · exact br_f (by decide) (br_f (by decide) (br_f (by decide) (br_f (by decide) (br_f (by decide) (br_f (by decide) (br_f (by decide) (br_f (by decide) (br_t rfl h))))))))
  · exact br_f (by decide) (br_t rfl (br_f (by decide) (br_f (by decide) (br_f (by decide) (br_f (by decide) (br_f (by decide) (br_f (by decide) (br_t rfl h))))))))
  · exact br_f (by decide) (br_f (by decide) (br_f (by decide) (br_f (by decide) (br_t rfl (br_f (by decide) (br_f (by decide) (br_f (by decide) (br_f (by decide) h))))))))
  · obtain ⟨e1, e2⟩ := yq_14 h2 h3
    refine br_f (by decide) (br_f (by decide) (br_t rfl ⟨by decide, br_f (by decide) (br_f (by decide) (br_t rfl ⟨by decide, ?_⟩))⟩))
    rw [e1] at e2
    rw [e1, e2]
    exact br_f (by decide) (br_f (by decide) (br_f (by decide) (br_f (by decide) h)))
/-- the sum of pieces that a quantifier adds -/
def yq_P (least opt st A : Nat) : Nat := (least + opt + st) * A + opt + st - A
theorem yq_P_le {least opt st A : Nat} (h : 1 ≤ least + opt + st) : A ≤ (least + opt + st) * A + opt + st := by
  have : 1 * A ≤ (least + opt + st) * A := Nat.mul_le_mul_right A h
  omega
theorem cy_94 {post : SY → Prop} {kk least opt st A : Nat} (hst : st ≤ 1) (hc : 1 ≤ least + opt + st)
    (h : ∀ z0 z1 : Int32, z1 + z0 - nI A = nI (yq_P least opt st A) → wY_quantify_133 post (nI kk) (nI least) (nI opt) (nI st) z0 z1 g_count g_place g_end g_size g_large g_ready g_depth g_groups g_atom (nI A) g_length g_found b_kind b_value b_op b_with b_one b_two b_copyOp b_copyWith b_copyOne b_copyTwo b_opened b_branch b_sizes b_jumps b_groupOf b_text b_met b_todo b_notes) : wY_quantify_94 post (nI kk) (nI least) (nI opt) (nI st) g_count g_place g_end g_size g_large g_ready g_depth g_groups g_atom (nI A) g_length g_found b_kind b_value b_op b_with b_one b_two b_copyOp b_copyWith b_copyOne b_copyTwo b_opened b_branch b_sizes b_jumps b_groupOf b_text b_met b_todo b_notes := by
  have hle := yq_P_le (A := A) hc
  have hst01 : st = 0 ∨ st = 1 := by omega
  rcases hst01 with rfl | rfl
  · refine br_t rfl (nm_r (e' := nI (least + opt + 0)) ?_ (br_t rfl ?_))
    · rw [nI_add]; exact Int32.add_zero _
    · refine h _ _ ?_
      rw [pk_mul, nI_add]
      unfold yq_P
      rw [← pk_sub hle]
      congr 1
      exact Int32.add_zero _
  · refine br_f (by decide) (nm_r (e' := nI (least + opt + 1)) ?_ (br_f (by decide) ?_))
    · rw [nI_add]; exact nI_1 _
    · refine h _ _ ?_
      rw [pk_mul, nI_add, nI_1]
      unfold yq_P
      rw [← pk_sub hle]
theorem cy_quantC {kk o n least opt st A sz : Nat} {v : Int32} (hK : yq_K kk v least opt st) (hs : sz + yq_P least opt st A ≤ 36) (hon : o + n ≤ 160) (hn : qf_at o n least (least + opt) + st * (n + 2) ≤ 160) (B1 : rl_B b_op) (B2 : rl_B b_with) (S1 : rl_S b_one) (S2 : rl_S b_two) :
    ∃ (O W F G c1 c2 c3 c4 : Nat → Int32), rl_B O ∧ rl_B W ∧ rl_S F ∧ rl_S G ∧ yq_R kk o n least opt st (fg_q b_op b_with b_one b_two) (fg_q O W F G) ∧
      (∀ post : SY → Prop, post (g_count, g_place, nI (qf_at o n least (least + opt) + st * (n + 2)), nI (sz + yq_P least opt st A), 0, g_ready, g_depth, g_groups, nI o, nI A, g_length, g_found, b_kind, b_value, O, W, F, G, c1, c2, c3, c4, b_opened, b_branch, b_sizes, b_jumps, b_groupOf, b_text, b_met, b_todo, b_notes) → wpY_quantify post (g_count, g_place, nI (o + n), nI sz, cq_la sz, g_ready, g_depth, g_groups, nI o, nI A, g_length, g_found, b_kind, b_value, b_op, b_with, b_one, b_two, b_copyOp, b_copyWith, b_copyOne, b_copyTwo, b_opened, b_branch, b_sizes, b_jumps, b_groupOf, b_text, b_met, b_todo, b_notes) (nI kk) v) := by
  obtain ⟨k1, k2, k3, k4, k5⟩ := yq_K_b hK
  obtain ⟨O, W, F, G, a1, a2, a3, a4, a5, a6⟩ := cy_q269C (g_count := g_count) (g_place := g_place) (g_size := nI (sz + yq_P least opt st A)) (g_ready := g_ready) (g_depth := g_depth) (g_groups := g_groups) (g_atom := nI o) (g_atomSize := nI A) (g_length := g_length) (g_found := g_found) (b_kind := b_kind) (b_value := b_value) (b_op := b_op) (b_with := b_with) (b_one := b_one) (b_two := b_two) (b_copyOp := b_copyOp) (b_copyWith := b_copyWith) (b_copyOne := b_copyOne) (b_copyTwo := b_copyTwo) (b_opened := b_opened) (b_branch := b_branch) (b_sizes := b_sizes) (b_jumps := b_jumps) (b_groupOf := b_groupOf) (b_text := b_text) (b_met := b_met) (b_todo := b_todo) (b_notes := b_notes) (kk := kk) (o := o) (n := n) (least := least) (opt := opt) (st := st) k1 k2 k3 k4 hon hn B1 B2 S1 S2
  refine ⟨O, W, F, G, cy_cc b_copyOp b_op o n, cy_cc b_copyWith b_with o n, cy_cc b_copyOne b_one o n, cy_cc b_copyTwo b_two o n, a1, a2, a3, a4, a5, fun post h => cy_disp hK (cy_94 k4 k5 (fun z0 z1 hz => nm_r hz ?_))⟩
  refine cy_grow (sz := sz) (k := yq_P least opt st A) (by omega) ?_
  rw [cq_la0 hs]
  refine br_t rfl (nm_r (e' := nI n) (by rw [pk_sub (by omega)]; congr 1; omega) ⟨n + 1, ?_⟩)
  have T := cy_q169 (x1 := nI kk) (x3 := nI least) (x4 := nI opt) (x5 := nI st) (g_count := g_count) (g_place := g_place) (g_end := nI (o + n)) (g_size := nI (sz + yq_P least opt st A)) (g_large := 0) (g_ready := g_ready) (g_depth := g_depth) (g_groups := g_groups) (g_atomSize := nI A) (g_length := g_length) (g_found := g_found) (b_kind := b_kind) (b_value := b_value) (b_op := b_op) (b_with := b_with) (b_one := b_one) (b_two := b_two) (b_copyOp := b_copyOp) (b_copyWith := b_copyWith) (b_copyOne := b_copyOne) (b_copyTwo := b_copyTwo) (b_opened := b_opened) (b_branch := b_branch) (b_sizes := b_sizes) (b_jumps := b_jumps) (b_groupOf := b_groupOf) (b_text := b_text) (b_met := b_met) (b_todo := b_todo) (b_notes := b_notes) hon B1 B2 S1 S2 (a6 post h) n 0 (by omega)
  rw [cy_cc_0, cy_cc_0, cy_cc_0, cy_cc_0] at T
  exact T
theorem cy_quantL {post : SY → Prop} {kk least opt st A sz : Nat} {v : Int32} (hK : yq_K kk v least opt st) (hs : 36 < sz + yq_P least opt st A) (hs2 : sz + yq_P least opt st A < 2 ^ 31)
    (h : post (g_count, g_place, g_end, nI (sz + yq_P least opt st A), 1, g_ready, g_depth, g_groups, g_atom, nI A, g_length, g_found, b_kind, b_value, b_op, b_with, b_one, b_two, b_copyOp, b_copyWith, b_copyOne, b_copyTwo, b_opened, b_branch, b_sizes, b_jumps, b_groupOf, b_text, b_met, b_todo, b_notes)) : wpY_quantify post (g_count, g_place, g_end, nI sz, cq_la sz, g_ready, g_depth, g_groups, g_atom, nI A, g_length, g_found, b_kind, b_value, b_op, b_with, b_one, b_two, b_copyOp, b_copyWith, b_copyOne, b_copyTwo, b_opened, b_branch, b_sizes, b_jumps, b_groupOf, b_text, b_met, b_todo, b_notes) (nI kk) v := by
  obtain ⟨k1, k2, k3, k4, k5⟩ := yq_K_b hK
  refine cy_disp hK (cy_94 k4 k5 (fun z0 z1 hz => nm_r hz ?_))
  refine cy_grow (sz := sz) (k := yq_P least opt st A) hs2 ?_
  rw [cq_la1 hs]
  exact br_f (by decide) h
theorem cy_q133_1 {post : SY → Prop} {x1 x3 x4 x5 z0 z1 : Int32} (h : ∀ s, post (g_count, g_place, g_end, s, 1, g_ready, g_depth, g_groups, g_atom, g_atomSize, g_length, g_found, b_kind, b_value, b_op, b_with, b_one, b_two, b_copyOp, b_copyWith, b_copyOne, b_copyTwo, b_opened, b_branch, b_sizes, b_jumps, b_groupOf, b_text, b_met, b_todo, b_notes)) : wY_quantify_133 post x1 x3 x4 x5 z0 z1 g_count g_place g_end g_size 1 g_ready g_depth g_groups g_atom g_atomSize g_length g_found b_kind b_value b_op b_with b_one b_two b_copyOp b_copyWith b_copyOne b_copyTwo b_opened b_branch b_sizes b_jumps b_groupOf b_text b_met b_todo b_notes := by
  refine nm_e ?_
  refine cy_grow1 ?_
  exact br_f (by decide) (h _)
theorem cy_q94_1 {post : SY → Prop} {x1 x3 x4 z0 : Int32} (h : ∀ s, post (g_count, g_place, g_end, s, 1, g_ready, g_depth, g_groups, g_atom, g_atomSize, g_length, g_found, b_kind, b_value, b_op, b_with, b_one, b_two, b_copyOp, b_copyWith, b_copyOne, b_copyTwo, b_opened, b_branch, b_sizes, b_jumps, b_groupOf, b_text, b_met, b_todo, b_notes)) : wY_quantify_94 post x1 x3 x4 z0 g_count g_place g_end g_size 1 g_ready g_depth g_groups g_atom g_atomSize g_length g_found b_kind b_value b_op b_with b_one b_two b_copyOp b_copyWith b_copyOne b_copyTwo b_opened b_branch b_sizes b_jumps b_groupOf b_text b_met b_todo b_notes :=
  br_c (fun _ => nm_e (br_c (fun _ => cy_q133_1 h) (fun _ => cy_q133_1 h))) (fun _ => nm_e (br_c (fun _ => cy_q133_1 h) (fun _ => cy_q133_1 h)))
theorem cy_q63_1 {post : SY → Prop} {x1 x3 z0 : Int32} (h : ∀ s, post (g_count, g_place, g_end, s, 1, g_ready, g_depth, g_groups, g_atom, g_atomSize, g_length, g_found, b_kind, b_value, b_op, b_with, b_one, b_two, b_copyOp, b_copyWith, b_copyOne, b_copyTwo, b_opened, b_branch, b_sizes, b_jumps, b_groupOf, b_text, b_met, b_todo, b_notes)) : wY_quantify_63 post x1 x3 z0 g_count g_place g_end g_size 1 g_ready g_depth g_groups g_atom g_atomSize g_length g_found b_kind b_value b_op b_with b_one b_two b_copyOp b_copyWith b_copyOne b_copyTwo b_opened b_branch b_sizes b_jumps b_groupOf b_text b_met b_todo b_notes :=
  br_c (fun _ => cy_q94_1 h) (fun _ => br_c (fun _ => cy_q94_1 h) (fun _ => br_c (fun _ => cy_q94_1 h) (fun _ => br_c (fun _ => cy_q94_1 h) (fun _ => cy_q94_1 h))))
theorem cy_q30_1 {post : SY → Prop} {x1 x2 z0 : Int32} (h : ∀ s, post (g_count, g_place, g_end, s, 1, g_ready, g_depth, g_groups, g_atom, g_atomSize, g_length, g_found, b_kind, b_value, b_op, b_with, b_one, b_two, b_copyOp, b_copyWith, b_copyOne, b_copyTwo, b_opened, b_branch, b_sizes, b_jumps, b_groupOf, b_text, b_met, b_todo, b_notes)) : wY_quantify_30 post x1 x2 z0 g_count g_place g_end g_size 1 g_ready g_depth g_groups g_atom g_atomSize g_length g_found b_kind b_value b_op b_with b_one b_two b_copyOp b_copyWith b_copyOne b_copyTwo b_opened b_branch b_sizes b_jumps b_groupOf b_text b_met b_todo b_notes :=
  br_c (fun _ => cy_q63_1 h) (fun _ => br_c (fun _ => cy_q63_1 h) (fun _ => br_c (fun _ => ⟨by decide, cy_q63_1 h⟩) (fun _ => cy_q63_1 h)))
theorem cy_quant1 {post : SY → Prop} {k v : Int32} (h : ∀ s, post (g_count, g_place, g_end, s, 1, g_ready, g_depth, g_groups, g_atom, g_atomSize, g_length, g_found, b_kind, b_value, b_op, b_with, b_one, b_two, b_copyOp, b_copyWith, b_copyOne, b_copyTwo, b_opened, b_branch, b_sizes, b_jumps, b_groupOf, b_text, b_met, b_todo, b_notes)) : wpY_quantify post (g_count, g_place, g_end, g_size, 1, g_ready, g_depth, g_groups, g_atom, g_atomSize, g_length, g_found, b_kind, b_value, b_op, b_with, b_one, b_two, b_copyOp, b_copyWith, b_copyOne, b_copyTwo, b_opened, b_branch, b_sizes, b_jumps, b_groupOf, b_text, b_met, b_todo, b_notes) k v :=
  br_c (fun _ => cy_q30_1 h) (fun _ => br_c (fun _ => cy_q30_1 h) (fun _ => br_c (fun _ => ⟨by decide, cy_q30_1 h⟩) (fun _ => cy_q30_1 h)))
end YT
end
section
section SY1
def cs_q (k : Nat) : Bool := (decide (7 ≤ k) && decide (k ≤ 12)) || decide (k = 14)
def cs_bad (k : Nat) (s : Nat × Nat × Bool) : Prop := (cs_q k = true ∧ s.2.2 = false) ∨ (k = 5 ∧ s.1 = 0) ∨ (k = 3 ∧ s.2.1 = 3)
def cs_b (k : Nat) : Bool := !(decide (k = 3) || decide (k = 4) || decide (k = 6) || cs_q k)
def cs_step (k : Nat) (s : Nat × Nat × Bool) : Nat × Nat × Bool := (if k = 3 ∨ k = 4 then s.1 + 1 else if k = 5 then s.1 - 1 else s.1, if k = 3 then s.2.1 + 1 else s.2.1, cs_b k)
def cs_st (kk : Nat → Nat) : Nat → Nat × Nat × Bool
  | 0 => (0, 0, false)
  | i + 1 => cs_step (kk i) (cs_st kk i)
def cs_I (b : Bool) : Int32 := if b = true then 1 else 0
theorem cs_qi {k : Nat} : cs_q k = true ↔ (7 ≤ k ∧ k ≤ 12) ∨ k = 14 := by unfold cs_q; simp
theorem cs_o (kk : Nat → Nat) : ∀ i, (cs_st kk i).1 ≤ i
  | 0 => Nat.le_refl _
  | i + 1 => by
    have := cs_o kk i
    show (if kk i = 3 ∨ kk i = 4 then (cs_st kk i).1 + 1 else if kk i = 5 then (cs_st kk i).1 - 1 else (cs_st kk i).1) ≤ i + 1
    split
    · omega
    · split <;> omega
theorem cs_g (kk : Nat → Nat) : ∀ i, (∀ j, j < i → ¬ cs_bad (kk j) (cs_st kk j)) → (cs_st kk i).2.1 ≤ 3
  | 0, _ => Nat.zero_le _
  | i + 1, h => by
    have h1 := cs_g kk i (fun j hj => h j (by omega))
    have h2 := h i (by omega)
    show (if kk i = 3 then (cs_st kk i).2.1 + 1 else (cs_st kk i).2.1) ≤ 3
    split
    · rename_i e
      have : ¬ (cs_st kk i).2.1 = 3 := fun e2 => h2 (Or.inr (Or.inr ⟨e, e2⟩))
      omega
    · exact h1
theorem ff_q {post : Int32 → Prop} {k : Nat} (hk : k ≤ 15) (h : post (cs_I (cs_q k))) : wpX_isQuantifier post (nI k) := by
  unfold cs_I at h
  by_cases h1 : k < 7
  · refine br_t (nI_lt (b := 7) h1 (by omega)) (br_f (fun e => ?_) ?_)
    · have := (nI_eq (b := 14) (by omega) (by omega)).mp e; omega
    · rw [if_neg (by rw [cs_qi]; omega)] at h; exact h
  · refine br_f (nI_nlt (b := 7) (by omega) (by omega)) ?_
    by_cases h2 : k ≤ 12
    · rw [if_pos (by rw [cs_qi]; omega)] at h
      exact br_t (nI_le (b := 12) h2 (by omega)) h
    · refine br_f (nI_ge (a := 12) (by omega) (by omega)) ?_
      by_cases h3 : k = 14
      · rw [if_pos (by rw [cs_qi]; omega)] at h
        exact br_t (by rw [h3]; rfl) h
      · rw [if_neg (by rw [cs_qi]; omega)] at h
        exact br_f (fun e => h3 ((nI_eq (b := 14) (by omega) (by omega)).mp e)) h
variable {f_tokens f_faultPlace f_length f_pieces f_patternEntry f_hasPattern f_tooLarge f_level f_groups f_atomStart f_atomEntry f_choices f_wayPiece f_wayPlace : Int32} {f_wayNotes : Int64} {f_hasResult f_resultStart f_resultEnd : Int32} {f_resultNotes : Int64} {a_tokenKind a_tokenValue a_text a_pieceKind a_pieceValue a_pieceNext a_pieceSecond a_levelGroup a_levelStart a_levelEntry a_branchStart a_branchEntry : Nat → Int32} {a_placesSeen : Nat → Int64} {a_choicePiece a_choicePlace : Nat → Int32} {a_choiceNotes : Nat → Int64}
theorem ff_39 {post : Int32 → Prop} {J9 : Int32 → Int32 → Int32 → Int32 → Prop} {k i : Nat} {s : Nat × Nat × Bool} (hk : k ≤ 15) (hb5 : ¬ (k = 5 ∧ s.1 = 0)) (hb3 : ¬ (k = 3 ∧ s.2.1 = 3)) (hs1 : s.1 < 100) (hs2 : s.2.1 < 100)
    (h : J9 (nI (cs_step k s).1) (nI (cs_step k s).2.1) (cs_I (cs_b k)) (nI (i + 1))) : wX_findFault_39 post J9 (nI s.1) (nI s.2.1) (nI i) (nI k) f_tokens f_faultPlace f_length f_pieces f_patternEntry f_hasPattern f_tooLarge f_level f_groups f_atomStart f_atomEntry f_choices f_wayPiece f_wayPlace f_wayNotes f_hasResult f_resultStart f_resultEnd f_resultNotes a_tokenKind a_tokenValue a_text a_pieceKind a_pieceValue a_pieceNext a_pieceSecond a_levelGroup a_levelStart a_levelEntry a_branchStart a_branchEntry a_placesSeen a_choicePiece a_choicePlace a_choiceNotes := by
  have ne : ∀ j, j < 100 → ¬ k = j → ¬ nI k = nI j := fun j hj hne e => hne ((nI_eq (by omega) (by omega)).mp e)
  by_cases k3 : k = 3
  · subst k3
    have g3 : ¬ nI s.2.1 = 3 := fun e => hb3 ⟨rfl, (nI_eq (b := 3) (by omega) (by omega)).mp e⟩
    exact br_f (by decide) (br_t rfl (br_f g3 (br_t rfl (br_f (by decide) (nm_r (nI_1 _) (br_t rfl (nm_r (nI_1 _) (br_f (by decide) (br_f (by decide) (nm_r (nI_1 i) h))))))))))
  · by_cases k4 : k = 4
    · subst k4
      exact br_f (by decide) (br_f (by decide) (br_f (by decide) (br_t rfl (br_f (by decide) (nm_r (nI_1 _) (br_f (by decide) (br_f (by decide) (br_f (by decide) (nm_r (nI_1 i) h)))))))))
    · have n3 := ne 3 (by omega) k3
      have n4 := ne 4 (by omega) k4
      by_cases k5 : k = 5
      · subst k5
        obtain ⟨o, ho⟩ : ∃ o, s.1 = o + 1 := ⟨s.1 - 1, by omega⟩
        have h' : J9 (nI o) (nI s.2.1) 1 (nI (i + 1)) := by
          have : (cs_step 5 s).1 = o := by
            show s.1 - 1 = o
            omega
          rw [this] at h
          exact h
        rw [ho]
        refine br_t rfl (br_f (nI_ne0 (by omega) (by omega)) (br_f (by decide) (br_f (by decide) (br_f (by decide) (br_t rfl (br_f (by decide) (br_t rfl (nm_r (pk_m1 o) (br_t rfl (br_f (by decide) ?_))))))))))
        refine ff_q (k := 5) (by omega) ?_
        exact br_t rfl (nm_r (nI_1 i) h')
      · have n5 := ne 5 (by omega) k5
        have e1 : (cs_step k s).1 = s.1 := by
          show (if k = 3 ∨ k = 4 then s.1 + 1 else if k = 5 then s.1 - 1 else s.1) = s.1
          rw [if_neg (by omega), if_neg k5]
        have e2 : (cs_step k s).2.1 = s.2.1 := by
          show (if k = 3 then s.2.1 + 1 else s.2.1) = s.2.1
          rw [if_neg k3]
        rw [e1, e2] at h
        refine br_f n5 (br_f n3 (br_f n3 (br_f n4 (br_t rfl (br_f n3 (br_f n5 (br_t rfl ?_)))))))
        by_cases k6 : k = 6
        · subst k6
          exact br_t rfl (nm_r (nI_1 i) h)
        · refine br_f (ne 6 (by omega) k6) ?_
          refine ff_q hk ?_
          have eb : cs_b k = !(cs_q k) := by unfold cs_b; simp [k3, k4, k6]
          rw [eb] at h
          cases hq : cs_q k with
          | true =>
            rw [hq] at h
            exact br_f (by decide) (nm_r (nI_1 i) h)
          | false =>
            rw [hq] at h
            exact br_t rfl (nm_r (nI_1 i) h)
/-- what the fault finder answers -/
def ff_R (kk : Nat → Nat) (c : Nat) (r : Int32) : Prop :=
  (r = -1 ∧ (∀ j, j < c → ¬ cs_bad (kk j) (cs_st kk j)) ∧ (cs_st kk c).1 = 0) ∨ (∃ i, i < c ∧ r = nI i ∧ (∀ j, j < i → ¬ cs_bad (kk j) (cs_st kk j)) ∧ cs_bad (kk i) (cs_st kk i)) ∨ (r = nI c ∧ (∀ j, j < c → ¬ cs_bad (kk j) (cs_st kk j)) ∧ 0 < (cs_st kk c).1)
theorem ff_loop {kk : Nat → Nat} {c : Nat} (hc : c ≤ 24) (hK : ∀ j, j < c → kk j ≤ 15 ∧ a_tokenKind j = nI (kk j)) : ∀ (d i : Nat), i + d = c → (∀ j, j < i → ¬ cs_bad (kk j) (cs_st kk j)) →
    ∃ r, ff_R kk c r ∧ ∀ post : Int32 → Prop, post r → wX_findFault_9 post (nI c) f_faultPlace f_length f_pieces f_patternEntry f_hasPattern f_tooLarge f_level f_groups f_atomStart f_atomEntry f_choices f_wayPiece f_wayPlace f_wayNotes f_hasResult f_resultStart f_resultEnd f_resultNotes a_tokenKind a_tokenValue a_text a_pieceKind a_pieceValue a_pieceNext a_pieceSecond a_levelGroup a_levelStart a_levelEntry a_branchStart a_branchEntry a_placesSeen a_choicePiece a_choicePlace a_choiceNotes (d + 1) (nI (cs_st kk i).1) (nI (cs_st kk i).2.1) (cs_I (cs_st kk i).2.2) (nI i) := by
  intro d
  induction d with
  | zero =>
    intro i hi hcl
    obtain rfl : i = c := by omega
    have ho := cs_o kk i
    have hle : nI i ≤ nI i := nI_le (Nat.le_refl _) (by omega)
    by_cases h0 : (cs_st kk i).1 = 0
    · exact ⟨-1, Or.inl ⟨rfl, hcl, h0⟩, fun post hp => br_t hle (br_t (by rw [h0]; decide) hp)⟩
    · exact ⟨nI i, Or.inr (Or.inr ⟨rfl, hcl, by omega⟩), fun post hp => br_t hle (br_f (nI_nle (by omega) (by omega)) hp)⟩
  | succ d ih =>
    intro i hi hcl
    obtain ⟨hk, hkk⟩ := hK i (by omega)
    have ho := cs_o kk i
    have hg := cs_g kk i hcl
    have hlt : ¬ nI c ≤ nI i := nI_ge (by omega) (by omega)
    have hv : vp_in (nI i) 24 := vp_in_nI (by omega) (by omega)
    have ec : a_tokenKind (nI i).toNatClampNeg = nI (kk i) := by rw [nI_clamp (by omega)]; exact hkk
    by_cases hbad : cs_bad (kk i) (cs_st kk i)
    · refine ⟨nI i, Or.inr (Or.inl ⟨i, by omega, rfl, hcl, hbad⟩), fun post hp => br_f hlt ⟨hv, nm_r ec ?_⟩⟩
      refine ff_q hk ?_
      rcases hbad with ⟨q1, q2⟩ | ⟨q1, q2⟩ | ⟨q1, q2⟩
      · rw [q1, q2]
        exact br_f (by decide) (br_t rfl hp)
      · rw [q1, q2]
        exact br_t rfl (br_t rfl (br_t rfl hp))
      · rw [q1, q2]
        exact br_t rfl (br_f (by decide) (br_t rfl (br_t rfl hp)))
    · obtain ⟨r, r1, r2⟩ := ih (i + 1) (by omega) (fun j hj => by
        by_cases e : j = i
        · rw [e]; exact hbad
        · exact hcl j (by omega))
      refine ⟨r, r1, fun post hp => br_f hlt ⟨hv, nm_r ec ?_⟩⟩
      have F := ff_39 (J9 := wX_findFault_9 post (nI c) f_faultPlace f_length f_pieces f_patternEntry f_hasPattern f_tooLarge f_level f_groups f_atomStart f_atomEntry f_choices f_wayPiece f_wayPlace f_wayNotes f_hasResult f_resultStart f_resultEnd f_resultNotes a_tokenKind a_tokenValue a_text a_pieceKind a_pieceValue a_pieceNext a_pieceSecond a_levelGroup a_levelStart a_levelEntry a_branchStart a_branchEntry a_placesSeen a_choicePiece a_choicePlace a_choiceNotes (d + 1)) (post := post) (i := i) (f_tokens := nI c) (f_faultPlace := f_faultPlace) (f_length := f_length) (f_pieces := f_pieces) (f_patternEntry := f_patternEntry) (f_hasPattern := f_hasPattern) (f_tooLarge := f_tooLarge) (f_level := f_level) (f_groups := f_groups) (f_atomStart := f_atomStart) (f_atomEntry := f_atomEntry) (f_choices := f_choices) (f_wayPiece := f_wayPiece) (f_wayPlace := f_wayPlace) (f_wayNotes := f_wayNotes) (f_hasResult := f_hasResult) (f_resultStart := f_resultStart) (f_resultEnd := f_resultEnd) (f_resultNotes := f_resultNotes) (a_tokenKind := a_tokenKind) (a_tokenValue := a_tokenValue) (a_text := a_text) (a_pieceKind := a_pieceKind) (a_pieceValue := a_pieceValue) (a_pieceNext := a_pieceNext) (a_pieceSecond := a_pieceSecond) (a_levelGroup := a_levelGroup) (a_levelStart := a_levelStart) (a_levelEntry := a_levelEntry) (a_branchStart := a_branchStart) (a_branchEntry := a_branchEntry) (a_placesSeen := a_placesSeen) (a_choicePiece := a_choicePiece) (a_choicePlace := a_choicePlace) (a_choiceNotes := a_choiceNotes) hk (fun h => hbad (Or.inr (Or.inl h))) (fun h => hbad (Or.inr (Or.inr h))) (by omega) (by omega) (r2 post hp)
      refine ff_q hk ?_
      cases hq : cs_q (kk i) with
      | false => exact br_t rfl F
      | true =>
        have hb : (cs_st kk i).2.2 = true := by
          cases hh : (cs_st kk i).2.2 with
          | true => rfl
          | false => exact absurd (Or.inl ⟨hq, hh⟩) hbad
        rw [hb]
        exact br_f (by decide) (br_f (by decide) F)
theorem ff_eval {kk : Nat → Nat} {c : Nat} (hc : c ≤ 24) (hK : ∀ j, j < c → kk j ≤ 15 ∧ a_tokenKind j = nI (kk j)) :
    ∃ r, ff_R kk c r ∧ ∀ post : Int32 → Prop, post r → wpX_findFault post (nI c, f_faultPlace, f_length, f_pieces, f_patternEntry, f_hasPattern, f_tooLarge, f_level, f_groups, f_atomStart, f_atomEntry, f_choices, f_wayPiece, f_wayPlace, f_wayNotes, f_hasResult, f_resultStart, f_resultEnd, f_resultNotes, a_tokenKind, a_tokenValue, a_text, a_pieceKind, a_pieceValue, a_pieceNext, a_pieceSecond, a_levelGroup, a_levelStart, a_levelEntry, a_branchStart, a_branchEntry, a_placesSeen, a_choicePiece, a_choicePlace, a_choiceNotes) := by
  obtain ⟨r, r1, r2⟩ := ff_loop (f_faultPlace := f_faultPlace) (f_length := f_length) (f_pieces := f_pieces) (f_patternEntry := f_patternEntry) (f_hasPattern := f_hasPattern) (f_tooLarge := f_tooLarge) (f_level := f_level) (f_groups := f_groups) (f_atomStart := f_atomStart) (f_atomEntry := f_atomEntry) (f_choices := f_choices) (f_wayPiece := f_wayPiece) (f_wayPlace := f_wayPlace) (f_wayNotes := f_wayNotes) (f_hasResult := f_hasResult) (f_resultStart := f_resultStart) (f_resultEnd := f_resultEnd) (f_resultNotes := f_resultNotes) (a_tokenKind := a_tokenKind) (a_tokenValue := a_tokenValue) (a_text := a_text) (a_pieceKind := a_pieceKind) (a_pieceValue := a_pieceValue) (a_pieceNext := a_pieceNext) (a_pieceSecond := a_pieceSecond) (a_levelGroup := a_levelGroup) (a_levelStart := a_levelStart) (a_levelEntry := a_levelEntry) (a_branchStart := a_branchStart) (a_branchEntry := a_branchEntry) (a_placesSeen := a_placesSeen) (a_choicePiece := a_choicePiece) (a_choicePlace := a_choicePlace) (a_choiceNotes := a_choiceNotes) hc hK c 0 (by omega) (fun j hj => by omega)
  exact ⟨r, r1, fun post hp => ⟨_, r2 post hp⟩⟩
end SY1
end
section
section XT
def xt_A (kk : Nat) (v pk pv : Int32) : Prop := (kk = 0 ∧ pk = 0 ∧ pv = (1 : Int32) <<< (v &&& 31)) ∨ (kk = 1 ∧ pk = 0 ∧ pv = 15) ∨ (kk = 2 ∧ pk = 0 ∧ pv = v) ∨ (kk = 13 ∧ pk = 1 ∧ pv = 0) ∨ (kk = 15 ∧ pk = 2 ∧ pv = 0)
variable {f_tokens f_faultPlace f_length f_pieces f_patternEntry f_hasPattern f_tooLarge f_level f_groups f_atomStart f_atomEntry f_choices f_wayPiece f_wayPlace : Int32} {f_wayNotes : Int64} {f_hasResult f_resultStart f_resultEnd : Int32} {f_resultNotes : Int64} {a_tokenKind a_tokenValue a_text a_pieceKind a_pieceValue a_pieceNext a_pieceSecond a_levelGroup a_levelStart a_levelEntry a_branchStart a_branchEntry : Nat → Int32} {a_placesSeen : Nat → Int64} {a_choicePiece a_choicePlace : Nat → Int32} {a_choiceNotes : Nat → Int64}
theorem xt_take {post : SX → Prop} {kk : Nat} {v pk pv : Int32} {F : SX → Prop} (hA : xt_A kk v pk pv) (he : ∀ post' : SX → Prop, (∀ u, F u → post' u) → wpX_addAtom post' (f_tokens, f_faultPlace, f_length, f_pieces, f_patternEntry, f_hasPattern, f_tooLarge, f_level, f_groups, f_atomStart, f_atomEntry, f_choices, f_wayPiece, f_wayPlace, f_wayNotes, f_hasResult, f_resultStart, f_resultEnd, f_resultNotes, a_tokenKind, a_tokenValue, a_text, a_pieceKind, a_pieceValue, a_pieceNext, a_pieceSecond, a_levelGroup, a_levelStart, a_levelEntry, a_branchStart, a_branchEntry, a_placesSeen, a_choicePiece, a_choicePlace, a_choiceNotes) pk pv) (h : ∀ u, F u → post u) : wpX_takeToken post (f_tokens, f_faultPlace, f_length, f_pieces, f_patternEntry, f_hasPattern, f_tooLarge, f_level, f_groups, f_atomStart, f_atomEntry, f_choices, f_wayPiece, f_wayPlace, f_wayNotes, f_hasResult, f_resultStart, f_resultEnd, f_resultNotes, a_tokenKind, a_tokenValue, a_text, a_pieceKind, a_pieceValue, a_pieceNext, a_pieceSecond, a_levelGroup, a_levelStart, a_levelEntry, a_branchStart, a_branchEntry, a_placesSeen, a_choicePiece, a_choicePlace, a_choiceNotes) (nI kk) v := by
  have k0 : ¬ nI kk < 0 := nI_pos (by unfold xt_A at hA; omega)
  have k15 : ¬ (15 : Int32) < nI kk := nI_nlt (a := 15) (by unfold xt_A at hA; omega) (by omega)
  refine br_f k0 (br_f k15 ?_)
  rcases hA with ⟨rfl, rfl, rfl⟩ | ⟨rfl, rfl, rfl⟩ | ⟨rfl, rfl, rfl⟩ | ⟨rfl, rfl, rfl⟩ | ⟨rfl, rfl, rfl⟩
  · exact br_t rfl (he _ (fun u hu => h u hu))
  · exact br_f (by decide) (br_t rfl (he _ (fun u hu => h u hu)))
  · exact br_f (by decide) (br_f (by decide) (br_t rfl (he _ (fun u hu => h u hu))))
  · exact br_f (by decide) (br_f (by decide) (br_f (by decide) (br_f (by decide) (br_f (by decide) (br_f (by decide) (br_f (by decide) (br_f (by decide) (br_f (by decide) (br_f (by decide) (br_f (by decide) (br_f (by decide) (br_f (by decide) (br_t rfl (he _ (fun u hu => h u hu)))))))))))))))
  · exact br_f (by decide) (br_f (by decide) (br_f (by decide) (br_f (by decide) (br_f (by decide) (br_f (by decide) (br_f (by decide) (br_f (by decide) (br_f (by decide) (br_f (by decide) (br_f (by decide) (br_f (by decide) (br_f (by decide) (br_f (by decide) (br_f (by decide) (br_t rfl (he _ (fun u hu => h u hu)))))))))))))))))
theorem xt_atomOK {post : SX → Prop} {pc kk : Nat} {v pk pv : Int32} (hA : xt_A kk v pk pv) (hp : pc < 36)
    (h : post (f_tokens, f_faultPlace, f_length, nI (pc + 1), f_patternEntry, f_hasPattern, f_tooLarge, f_level, f_groups, nI pc, nI pc, f_choices, f_wayPiece, f_wayPlace, f_wayNotes, f_hasResult, f_resultStart, f_resultEnd, f_resultNotes, a_tokenKind, a_tokenValue, a_text, upd a_pieceKind pc pk, upd a_pieceValue pc pv, upd a_pieceNext pc (-1), upd a_pieceSecond pc (-1), a_levelGroup, a_levelStart, a_levelEntry, a_branchStart, a_branchEntry, a_placesSeen, a_choicePiece, a_choicePlace, a_choiceNotes)) : wpX_takeToken post (f_tokens, f_faultPlace, f_length, nI pc, f_patternEntry, f_hasPattern, f_tooLarge, f_level, f_groups, f_atomStart, f_atomEntry, f_choices, f_wayPiece, f_wayPlace, f_wayNotes, f_hasResult, f_resultStart, f_resultEnd, f_resultNotes, a_tokenKind, a_tokenValue, a_text, a_pieceKind, a_pieceValue, a_pieceNext, a_pieceSecond, a_levelGroup, a_levelStart, a_levelEntry, a_branchStart, a_branchEntry, a_placesSeen, a_choicePiece, a_choicePlace, a_choiceNotes) (nI kk) v := by
  refine xt_take (F := fun u => u = (f_tokens, f_faultPlace, f_length, nI (pc + 1), f_patternEntry, f_hasPattern, f_tooLarge, f_level, f_groups, nI pc, nI pc, f_choices, f_wayPiece, f_wayPlace, f_wayNotes, f_hasResult, f_resultStart, f_resultEnd, f_resultNotes, a_tokenKind, a_tokenValue, a_text, upd a_pieceKind pc pk, upd a_pieceValue pc pv, upd a_pieceNext pc (-1), upd a_pieceSecond pc (-1), a_levelGroup, a_levelStart, a_levelEntry, a_branchStart, a_branchEntry, a_placesSeen, a_choicePiece, a_choicePlace, a_choiceNotes)) hA (fun post' h' => ?_) (fun u hu => by rw [hu]; exact h)
  unfold wpX_addAtom
  refine cx_add hp ?_
  exact h' _ rfl
theorem xt_atomL {post : SX → Prop} {kk : Nat} {v pk pv : Int32} (hA : xt_A kk v pk pv)
    (h : post (f_tokens, f_faultPlace, f_length, nI 36, f_patternEntry, f_hasPattern, 1, f_level, f_groups, nI 36, (-1), f_choices, f_wayPiece, f_wayPlace, f_wayNotes, f_hasResult, f_resultStart, f_resultEnd, f_resultNotes, a_tokenKind, a_tokenValue, a_text, a_pieceKind, a_pieceValue, a_pieceNext, a_pieceSecond, a_levelGroup, a_levelStart, a_levelEntry, a_branchStart, a_branchEntry, a_placesSeen, a_choicePiece, a_choicePlace, a_choiceNotes)) : wpX_takeToken post (f_tokens, f_faultPlace, f_length, nI 36, f_patternEntry, f_hasPattern, f_tooLarge, f_level, f_groups, f_atomStart, f_atomEntry, f_choices, f_wayPiece, f_wayPlace, f_wayNotes, f_hasResult, f_resultStart, f_resultEnd, f_resultNotes, a_tokenKind, a_tokenValue, a_text, a_pieceKind, a_pieceValue, a_pieceNext, a_pieceSecond, a_levelGroup, a_levelStart, a_levelEntry, a_branchStart, a_branchEntry, a_placesSeen, a_choicePiece, a_choicePlace, a_choiceNotes) (nI kk) v := by
  refine xt_take (F := fun u => u = (f_tokens, f_faultPlace, f_length, nI 36, f_patternEntry, f_hasPattern, 1, f_level, f_groups, nI 36, (-1), f_choices, f_wayPiece, f_wayPlace, f_wayNotes, f_hasResult, f_resultStart, f_resultEnd, f_resultNotes, a_tokenKind, a_tokenValue, a_text, a_pieceKind, a_pieceValue, a_pieceNext, a_pieceSecond, a_levelGroup, a_levelStart, a_levelEntry, a_branchStart, a_branchEntry, a_placesSeen, a_choicePiece, a_choicePlace, a_choiceNotes)) hA (fun post' h' => ?_) (fun u hu => by rw [hu]; exact h)
  unfold wpX_addAtom
  refine cx_add0 (pc := 36) (by omega) (by omega) ?_
  exact h' _ rfl
theorem xt_open3 {post : SX → Prop} {lv g : Nat} {v : Int32} (hl : lv + 1 < 25)
    (h : post (f_tokens, f_faultPlace, f_length, f_pieces, f_patternEntry, f_hasPattern, f_tooLarge, nI (lv + 1), nI (g + 1), f_atomStart, f_atomEntry, f_choices, f_wayPiece, f_wayPlace, f_wayNotes, f_hasResult, f_resultStart, f_resultEnd, f_resultNotes, a_tokenKind, a_tokenValue, a_text, a_pieceKind, a_pieceValue, a_pieceNext, a_pieceSecond, upd a_levelGroup (lv + 1) (nI (g + 1)), upd a_levelStart (lv + 1) f_pieces, upd a_levelEntry (lv + 1) (-2), upd a_branchStart (lv + 1) f_pieces, upd a_branchEntry (lv + 1) (-1), a_placesSeen, a_choicePiece, a_choicePlace, a_choiceNotes)) : wpX_takeToken post (f_tokens, f_faultPlace, f_length, f_pieces, f_patternEntry, f_hasPattern, f_tooLarge, nI lv, nI g, f_atomStart, f_atomEntry, f_choices, f_wayPiece, f_wayPlace, f_wayNotes, f_hasResult, f_resultStart, f_resultEnd, f_resultNotes, a_tokenKind, a_tokenValue, a_text, a_pieceKind, a_pieceValue, a_pieceNext, a_pieceSecond, a_levelGroup, a_levelStart, a_levelEntry, a_branchStart, a_branchEntry, a_placesSeen, a_choicePiece, a_choicePlace, a_choiceNotes) (nI 3) v := by
  refine br_f (by decide) (br_f (by decide) (br_f (by decide) (br_f (by decide) (br_f (by decide) (br_t rfl (nm_r (nI_1 g) (nm_r (nI_1 lv) ?_)))))))
  exact cx_begin hl h
theorem xt_open4 {post : SX → Prop} {lv : Nat} {v : Int32} (hl : lv + 1 < 25)
    (h : post (f_tokens, f_faultPlace, f_length, f_pieces, f_patternEntry, f_hasPattern, f_tooLarge, nI (lv + 1), f_groups, f_atomStart, f_atomEntry, f_choices, f_wayPiece, f_wayPlace, f_wayNotes, f_hasResult, f_resultStart, f_resultEnd, f_resultNotes, a_tokenKind, a_tokenValue, a_text, a_pieceKind, a_pieceValue, a_pieceNext, a_pieceSecond, upd a_levelGroup (lv + 1) (nI 0), upd a_levelStart (lv + 1) f_pieces, upd a_levelEntry (lv + 1) (-2), upd a_branchStart (lv + 1) f_pieces, upd a_branchEntry (lv + 1) (-1), a_placesSeen, a_choicePiece, a_choicePlace, a_choiceNotes)) : wpX_takeToken post (f_tokens, f_faultPlace, f_length, f_pieces, f_patternEntry, f_hasPattern, f_tooLarge, nI lv, f_groups, f_atomStart, f_atomEntry, f_choices, f_wayPiece, f_wayPlace, f_wayNotes, f_hasResult, f_resultStart, f_resultEnd, f_resultNotes, a_tokenKind, a_tokenValue, a_text, a_pieceKind, a_pieceValue, a_pieceNext, a_pieceSecond, a_levelGroup, a_levelStart, a_levelEntry, a_branchStart, a_branchEntry, a_placesSeen, a_choicePiece, a_choicePlace, a_choiceNotes) (nI 4) v := by
  refine br_f (by decide) (br_f (by decide) (br_f (by decide) (br_f (by decide) (br_f (by decide) (br_f (by decide) (br_t rfl (nm_r (nI_1 lv) ?_)))))))
  exact cx_begin hl h
theorem xt_bar {post : SX → Prop} {v : Int32} {F : SX → Prop} (he : ∀ post' : SX → Prop, (∀ u, F u → post' u) → wpX_endBranch post' (f_tokens, f_faultPlace, f_length, f_pieces, f_patternEntry, f_hasPattern, f_tooLarge, f_level, f_groups, f_atomStart, f_atomEntry, f_choices, f_wayPiece, f_wayPlace, f_wayNotes, f_hasResult, f_resultStart, f_resultEnd, f_resultNotes, a_tokenKind, a_tokenValue, a_text, a_pieceKind, a_pieceValue, a_pieceNext, a_pieceSecond, a_levelGroup, a_levelStart, a_levelEntry, a_branchStart, a_branchEntry, a_placesSeen, a_choicePiece, a_choicePlace, a_choiceNotes)) (h : ∀ u, F u → post u) : wpX_takeToken post (f_tokens, f_faultPlace, f_length, f_pieces, f_patternEntry, f_hasPattern, f_tooLarge, f_level, f_groups, f_atomStart, f_atomEntry, f_choices, f_wayPiece, f_wayPlace, f_wayNotes, f_hasResult, f_resultStart, f_resultEnd, f_resultNotes, a_tokenKind, a_tokenValue, a_text, a_pieceKind, a_pieceValue, a_pieceNext, a_pieceSecond, a_levelGroup, a_levelStart, a_levelEntry, a_branchStart, a_branchEntry, a_placesSeen, a_choicePiece, a_choicePlace, a_choiceNotes) (nI 6) v := by
  refine br_f (by decide) (br_f (by decide) (br_f (by decide) (br_f (by decide) (br_f (by decide) (br_f (by decide) (br_f (by decide) (br_f (by decide) (br_t rfl ?_))))))))
  unfold wX_takeToken_184
  exact he _ (fun u hu => h u hu)
theorem xt_close5 {post : SX → Prop} {v : Int32} {F : SX → Prop} (he : ∀ post' : SX → Prop, (∀ u, F u → post' u) → wpX_closeLevel post' (f_tokens, f_faultPlace, f_length, f_pieces, f_patternEntry, f_hasPattern, f_tooLarge, f_level, f_groups, f_atomStart, f_atomEntry, f_choices, f_wayPiece, f_wayPlace, f_wayNotes, f_hasResult, f_resultStart, f_resultEnd, f_resultNotes, a_tokenKind, a_tokenValue, a_text, a_pieceKind, a_pieceValue, a_pieceNext, a_pieceSecond, a_levelGroup, a_levelStart, a_levelEntry, a_branchStart, a_branchEntry, a_placesSeen, a_choicePiece, a_choicePlace, a_choiceNotes)) (h : ∀ u, F u → post u) : wpX_takeToken post (f_tokens, f_faultPlace, f_length, f_pieces, f_patternEntry, f_hasPattern, f_tooLarge, f_level, f_groups, f_atomStart, f_atomEntry, f_choices, f_wayPiece, f_wayPlace, f_wayNotes, f_hasResult, f_resultStart, f_resultEnd, f_resultNotes, a_tokenKind, a_tokenValue, a_text, a_pieceKind, a_pieceValue, a_pieceNext, a_pieceSecond, a_levelGroup, a_levelStart, a_levelEntry, a_branchStart, a_branchEntry, a_placesSeen, a_choicePiece, a_choicePlace, a_choiceNotes) (nI 5) v := by
  refine br_f (by decide) (br_f (by decide) (br_f (by decide) (br_f (by decide) (br_f (by decide) (br_f (by decide) (br_f (by decide) (br_t rfl ?_)))))))
  exact he _ (fun u hu => h u hu)
theorem xt_closeOK {l pc a g : Nat} (hl : l + 1 < 25) (hg : a_levelGroup (l + 1) = nI g) (hg3 : g ≤ 3) (ha : a_levelStart (l + 1) = nI a) (hap : a ≤ pc) (hfit : pc + cp_lag g (a_levelEntry (l + 1)) ≤ 36) :
    ∃ (pc1 pc' : Nat) (e1 ae' : Int32) (K1 V1 N1 S1 K V N S : Nat → Int32),
      ((a_levelEntry (l + 1) = -2 ∧ e1 = a_branchEntry (l + 1) ∧ pc1 = pc) ∨ (¬ a_levelEntry (l + 1) = -2 ∧ e1 = nI pc ∧ pc1 = pc + 1 ∧ (fg_q K1 V1 N1 S1 pc).1 = 4 ∧ (fg_q K1 V1 N1 S1 pc).2.2 = (a_levelEntry (l + 1), a_branchEntry (l + 1)))) ∧
      (∀ p, p < pc → fg_q K1 V1 N1 S1 p = fg_q a_pieceKind a_pieceValue a_pieceNext a_pieceSecond p) ∧
      ((g = 0 ∧ pc' = pc1 ∧ ae' = e1 ∧ fg_q K V N S = fg_q K1 V1 N1 S1) ∨ (0 < g ∧ pc' = pc1 + 2 ∧ ae' = nI (pc1 + 1) ∧ (∀ p, a ≤ p → p < pc1 → fg_q K V N S p = fg_px (fg_mo (nI pc1)) (fg_q K1 V1 N1 S1 p)) ∧ (∀ p, p < a → fg_q K V N S p = fg_q K1 V1 N1 S1 p) ∧ fg_q K V N S pc1 = (3, nI (2 * (g - 1) + 1), -1, -1) ∧ fg_q K V N S (pc1 + 1) = (3, nI (2 * (g - 1)), fg_mo (nI pc1) e1, -1))) ∧
      (∀ post : SX → Prop, post (f_tokens, f_faultPlace, f_length, nI pc', f_patternEntry, f_hasPattern, f_tooLarge, nI l, f_groups, nI a, ae', f_choices, f_wayPiece, f_wayPlace, f_wayNotes, f_hasResult, f_resultStart, f_resultEnd, f_resultNotes, a_tokenKind, a_tokenValue, a_text, K, V, N, S, a_levelGroup, a_levelStart, upd a_levelEntry (l + 1) e1, upd a_branchStart (l + 1) (nI pc1), upd a_branchEntry (l + 1) (-1), a_placesSeen, a_choicePiece, a_choicePlace, a_choiceNotes) → wpX_closeLevel post (f_tokens, f_faultPlace, f_length, nI pc, f_patternEntry, f_hasPattern, f_tooLarge, nI (l + 1), f_groups, f_atomStart, f_atomEntry, f_choices, f_wayPiece, f_wayPlace, f_wayNotes, f_hasResult, f_resultStart, f_resultEnd, f_resultNotes, a_tokenKind, a_tokenValue, a_text, a_pieceKind, a_pieceValue, a_pieceNext, a_pieceSecond, a_levelGroup, a_levelStart, a_levelEntry, a_branchStart, a_branchEntry, a_placesSeen, a_choicePiece, a_choicePlace, a_choiceNotes)) := by
  have hv : vp_in (nI (l + 1)) 25 := vp_in_nI hl (by omega)
  have ec : (nI (l + 1)).toNatClampNeg = l + 1 := nI_clamp (by omega)
  unfold cp_lag at hfit
  obtain ⟨pc1, K1, V1, N1, S1, e1, f1, f2, f3⟩ := cx_endOK (f_tokens := f_tokens) (f_faultPlace := f_faultPlace) (f_length := f_length) (f_patternEntry := f_patternEntry) (f_hasPattern := f_hasPattern) (f_tooLarge := f_tooLarge) (f_groups := f_groups) (f_atomStart := f_atomStart) (f_atomEntry := f_atomEntry) (f_choices := f_choices) (f_wayPiece := f_wayPiece) (f_wayPlace := f_wayPlace) (f_wayNotes := f_wayNotes) (f_hasResult := f_hasResult) (f_resultStart := f_resultStart) (f_resultEnd := f_resultEnd) (f_resultNotes := f_resultNotes) (a_tokenKind := a_tokenKind) (a_tokenValue := a_tokenValue) (a_text := a_text) (a_pieceKind := a_pieceKind) (a_pieceValue := a_pieceValue) (a_pieceNext := a_pieceNext) (a_pieceSecond := a_pieceSecond) (a_levelGroup := a_levelGroup) (a_levelStart := a_levelStart) (a_levelEntry := a_levelEntry) (a_branchStart := a_branchStart) (a_branchEntry := a_branchEntry) (a_placesSeen := a_placesSeen) (a_choicePiece := a_choicePiece) (a_choicePlace := a_choicePlace) (a_choiceNotes := a_choiceNotes) (lv := l + 1) (pc := pc) hl (by
    by_cases e : a_levelEntry (l + 1) = -2
    · exact Or.inl e
    · rw [if_neg e] at hfit; exact Or.inr (by omega))
  have hpc1 : pc1 + 2 * cp_gb g ≤ 36 := by
    rcases f1 with ⟨q1, _, q3⟩ | ⟨q1, _, q3, _⟩
    · rw [if_pos q1] at hfit; omega
    · rw [if_neg q1] at hfit; omega
  have hpcle : pc ≤ pc1 := by rcases f1 with ⟨_, _, q3⟩ | ⟨_, _, q3, _⟩ <;> omega
  by_cases hg0 : g = 0
  · refine ⟨pc1, pc1, e1, e1, K1, V1, N1, S1, K1, V1, N1, S1, f1, f2, Or.inl ⟨hg0, rfl, rfl, rfl⟩, fun post h => ?_⟩
    unfold wpX_closeLevel
    refine f3 _ ?_
    refine ⟨hv, nm_r (e' := nI 0) (by rw [ec, hg, hg0]) ⟨hv, nm_r (e' := nI a) (by rw [ec]; exact ha) ⟨hv, nm_r (e' := e1) (by rw [ec, rl_us]) (nm_r (nI_pred l) (br_t (by decide) h))⟩⟩⟩
  · have egb : cp_gb g = 1 := if_pos (by omega)
    obtain ⟨K, V, N, S, w1, w2, w3, w4, w5⟩ := cx_wrapOK (f_tokens := f_tokens) (f_faultPlace := f_faultPlace) (f_length := f_length) (f_patternEntry := f_patternEntry) (f_hasPattern := f_hasPattern) (f_tooLarge := f_tooLarge) (f_level := nI l) (f_groups := f_groups) (f_atomEntry := e1) (f_choices := f_choices) (f_wayPiece := f_wayPiece) (f_wayPlace := f_wayPlace) (f_wayNotes := f_wayNotes) (f_hasResult := f_hasResult) (f_resultStart := f_resultStart) (f_resultEnd := f_resultEnd) (f_resultNotes := f_resultNotes) (a_tokenKind := a_tokenKind) (a_tokenValue := a_tokenValue) (a_text := a_text) (a_pieceKind := K1) (a_pieceValue := V1) (a_pieceNext := N1) (a_pieceSecond := S1) (a_levelGroup := a_levelGroup) (a_levelStart := a_levelStart) (a_levelEntry := upd a_levelEntry (l + 1) e1) (a_branchStart := upd a_branchStart (l + 1) (nI pc1)) (a_branchEntry := upd a_branchEntry (l + 1) (-1)) (a_placesSeen := a_placesSeen) (a_choicePiece := a_choicePiece) (a_choicePlace := a_choicePlace) (a_choiceNotes := a_choiceNotes) (pc := pc1) (a := a) (g := g) (by omega) hg3 (by omega) (by omega)
    refine ⟨pc1, pc1 + 2, e1, nI (pc1 + 1), K1, V1, N1, S1, K, V, N, S, f1, f2, Or.inr ⟨by omega, rfl, rfl, w1, w2, w3, w4⟩, fun post h => ?_⟩
    unfold wpX_closeLevel
    refine f3 _ ?_
    refine ⟨hv, nm_r (e' := nI g) (by rw [ec, hg]) ⟨hv, nm_r (e' := nI a) (by rw [ec]; exact ha) ⟨hv, nm_r (e' := e1) (by rw [ec, rl_us]) (nm_r (nI_pred l) (br_f (nI_nle (by omega) (by omega)) ?_))⟩⟩⟩
    exact w5 _ h
theorem xt_closeL {post : SX → Prop} {l pc a g : Nat} (hl : l + 1 < 25) (hp : pc ≤ 36) (hg : a_levelGroup (l + 1) = nI g) (hg3 : g ≤ 3) (ha : a_levelStart (l + 1) = nI a) (hap : a ≤ pc) (hfit : 36 < pc + cp_lag g (a_levelEntry (l + 1)))
    (h : ∀ (pc' : Nat) (K V N S le' bs' be' : Nat → Int32), pc' ≤ 36 → post (f_tokens, f_faultPlace, f_length, nI pc', f_patternEntry, f_hasPattern, 1, nI l, f_groups, nI a, (-1), f_choices, f_wayPiece, f_wayPlace, f_wayNotes, f_hasResult, f_resultStart, f_resultEnd, f_resultNotes, a_tokenKind, a_tokenValue, a_text, K, V, N, S, a_levelGroup, a_levelStart, le', bs', be', a_placesSeen, a_choicePiece, a_choicePlace, a_choiceNotes)) : wpX_closeLevel post (f_tokens, f_faultPlace, f_length, nI pc, f_patternEntry, f_hasPattern, f_tooLarge, nI (l + 1), f_groups, f_atomStart, f_atomEntry, f_choices, f_wayPiece, f_wayPlace, f_wayNotes, f_hasResult, f_resultStart, f_resultEnd, f_resultNotes, a_tokenKind, a_tokenValue, a_text, a_pieceKind, a_pieceValue, a_pieceNext, a_pieceSecond, a_levelGroup, a_levelStart, a_levelEntry, a_branchStart, a_branchEntry, a_placesSeen, a_choicePiece, a_choicePlace, a_choiceNotes) := by
  have hv : vp_in (nI (l + 1)) 25 := vp_in_nI hl (by omega)
  have ec : (nI (l + 1)).toNatClampNeg = l + 1 := nI_clamp (by omega)
  unfold cp_lag at hfit
  unfold wpX_closeLevel
  by_cases hok : a_levelEntry (l + 1) = -2 ∨ pc < 36
  · obtain ⟨pc1, K1, V1, N1, S1, e1, f1, f2, f3⟩ := cx_endOK (f_tokens := f_tokens) (f_faultPlace := f_faultPlace) (f_length := f_length) (f_patternEntry := f_patternEntry) (f_hasPattern := f_hasPattern) (f_tooLarge := f_tooLarge) (f_groups := f_groups) (f_atomStart := f_atomStart) (f_atomEntry := f_atomEntry) (f_choices := f_choices) (f_wayPiece := f_wayPiece) (f_wayPlace := f_wayPlace) (f_wayNotes := f_wayNotes) (f_hasResult := f_hasResult) (f_resultStart := f_resultStart) (f_resultEnd := f_resultEnd) (f_resultNotes := f_resultNotes) (a_tokenKind := a_tokenKind) (a_tokenValue := a_tokenValue) (a_text := a_text) (a_pieceKind := a_pieceKind) (a_pieceValue := a_pieceValue) (a_pieceNext := a_pieceNext) (a_pieceSecond := a_pieceSecond) (a_levelGroup := a_levelGroup) (a_levelStart := a_levelStart) (a_levelEntry := a_levelEntry) (a_branchStart := a_branchStart) (a_branchEntry := a_branchEntry) (a_placesSeen := a_placesSeen) (a_choicePiece := a_choicePiece) (a_choicePlace := a_choicePlace) (a_choiceNotes := a_choiceNotes) (lv := l + 1) (pc := pc) hl hok
    have hpc1 : 36 < pc1 + 2 * cp_gb g ∧ pc1 ≤ 36 := by
      rcases f1 with ⟨q1, _, q3⟩ | ⟨q1, _, q3, _⟩
      · rw [if_pos q1] at hfit; omega
      · rw [if_neg q1] at hfit
        have := hok.resolve_left q1
        omega
    have hpcle : pc ≤ pc1 := by rcases f1 with ⟨_, _, q3⟩ | ⟨_, _, q3, _⟩ <;> omega
    have hg0 : 1 ≤ g := by
      by_cases e : 0 < g
      · exact e
      · have : cp_gb g = 0 := if_neg e
        omega
    have := cp_gb_le g
    refine f3 _ ?_
    refine ⟨hv, nm_r (e' := nI g) (by rw [ec, hg]) ⟨hv, nm_r (e' := nI a) (by rw [ec]; exact ha) ⟨hv, nm_r (e' := e1) (by rw [ec, rl_us]) (nm_r (nI_pred l) (br_f (nI_nle (by omega) (by omega)) ?_))⟩⟩⟩
    exact cx_wrapL hg0 hg3 (by omega) hpc1.2 (by omega) (fun K V N S => h 36 _ _ _ _ _ _ _ (by omega))
  · have hne : ¬ a_levelEntry (l + 1) = -2 := fun e => hok (Or.inl e)
    obtain rfl : pc = 36 := by omega
    refine cx_end3 hl hne ?_
    refine ⟨hv, nm_r (e' := nI g) (by rw [ec, hg]) ⟨hv, nm_r (e' := nI a) (by rw [ec]; exact ha) ⟨hv, nm_r (e' := -1) (by rw [ec, rl_us]) (nm_r (nI_pred l) ?_)⟩⟩⟩
    by_cases hg0 : g = 0
    · exact br_t (by rw [hg0]; decide) (h 36 _ _ _ _ _ _ _ (by omega))
    · refine br_f (nI_nle (by omega) (by omega)) ?_
      exact cx_wrapL (by omega) hg3 (by omega) (Nat.le_refl _) hap (fun K V N S => h 36 _ _ _ _ _ _ _ (by omega))
/-- the end of building, when it was too large -/
theorem xt_104L {post : SX → Prop} {lv pc : Nat} (hl : lv < 25) (hp : pc ≤ 36) (hae : f_atomEntry = -1 ∨ ∃ a b, f_atomStart = nI a ∧ a ≤ 36 ∧ a_branchStart lv = nI b ∧ b ≤ 36)
    (h : ∀ (pc' pe ae : Int32) (K V N S le' bs' be' : Nat → Int32), post (f_tokens, f_faultPlace, f_length, pc', pe, f_hasPattern, 1, nI lv, f_groups, f_atomStart, ae, f_choices, f_wayPiece, f_wayPlace, f_wayNotes, f_hasResult, f_resultStart, f_resultEnd, f_resultNotes, a_tokenKind, a_tokenValue, a_text, K, V, N, S, a_levelGroup, a_levelStart, le', bs', be', a_placesSeen, a_choicePiece, a_choicePlace, a_choiceNotes)) : wX_buildPattern_104 post f_tokens f_faultPlace f_length (nI pc) f_patternEntry f_hasPattern 1 (nI lv) f_groups f_atomStart f_atomEntry f_choices f_wayPiece f_wayPlace f_wayNotes f_hasResult f_resultStart f_resultEnd f_resultNotes a_tokenKind a_tokenValue a_text a_pieceKind a_pieceValue a_pieceNext a_pieceSecond a_levelGroup a_levelStart a_levelEntry a_branchStart a_branchEntry a_placesSeen a_choicePiece a_choicePlace a_choiceNotes := by
  have hv : vp_in (nI lv) 25 := vp_in_nI hl (by omega)
  have ec : (nI lv).toNatClampNeg = lv := nI_clamp (by omega)
  unfold wX_buildPattern_104
  have tail : ∀ (N S be' : Nat → Int32), wpX_endBranch (fun u => match u with | (f_tokens, f_faultPlace, f_length, f_pieces, f_patternEntry, f_hasPattern, f_tooLarge, f_level, f_groups, f_atomStart, f_atomEntry, f_choices, f_wayPiece, f_wayPlace, f_wayNotes, f_hasResult, f_resultStart, f_resultEnd, f_resultNotes, a_tokenKind, a_tokenValue, a_text, a_pieceKind, a_pieceValue, a_pieceNext, a_pieceSecond, a_levelGroup, a_levelStart, a_levelEntry, a_branchStart, a_branchEntry, a_placesSeen, a_choicePiece, a_choicePlace, a_choiceNotes) => (vp_in f_level 25 ∧ (∀ y : Int32, y = a_levelEntry f_level.toNatClampNeg → post (f_tokens, f_faultPlace, f_length, f_pieces, y, f_hasPattern, f_tooLarge, f_level, f_groups, f_atomStart, f_atomEntry, f_choices, f_wayPiece, f_wayPlace, f_wayNotes, f_hasResult, f_resultStart, f_resultEnd, f_resultNotes, a_tokenKind, a_tokenValue, a_text, a_pieceKind, a_pieceValue, a_pieceNext, a_pieceSecond, a_levelGroup, a_levelStart, a_levelEntry, a_branchStart, a_branchEntry, a_placesSeen, a_choicePiece, a_choicePlace, a_choiceNotes)))) (f_tokens, f_faultPlace, f_length, nI pc, f_patternEntry, f_hasPattern, 1, nI lv, f_groups, f_atomStart, (-1), f_choices, f_wayPiece, f_wayPlace, f_wayNotes, f_hasResult, f_resultStart, f_resultEnd, f_resultNotes, a_tokenKind, a_tokenValue, a_text, a_pieceKind, a_pieceValue, N, S, a_levelGroup, a_levelStart, a_levelEntry, a_branchStart, be', a_placesSeen, a_choicePiece, a_choicePlace, a_choiceNotes) := by
    intro N S be'
    by_cases e : a_levelEntry lv = -2
    · exact cx_end1 hl e ⟨hv, fun y _ => h _ _ _ _ _ _ _ _ _ _⟩
    · by_cases e36 : pc < 36
      · exact cx_end2 hl e e36 ⟨hv, fun y _ => h _ _ _ _ _ _ _ _ _ _⟩
      · obtain rfl : pc = 36 := by omega
        exact cx_end3 hl e ⟨hv, fun y _ => h _ _ _ _ _ _ _ _ _ _⟩
  by_cases e : f_atomEntry = -1
  · refine br_t e ?_
    rw [e]
    exact tail _ _ _
  · rcases hae with hae | ⟨a, b, h1, h2, h3, h4⟩
    · exact absurd hae e
    · refine br_f e ⟨hv, ?_⟩
      rw [ec]
      by_cases eb : a_branchEntry lv = -1
      · exact br_t eb ⟨hv, nm_e (tail _ _ _)⟩
      · refine br_f eb ⟨hv, ?_⟩
        rw [h3, h1]
        refine cx_lead h2 h4 ?_
        rw [← h1]
        exact tail _ _ _
end XT
end
section
section YA
variable {g_count g_place g_end g_size g_large g_ready g_depth g_groups g_atom g_atomSize g_length g_found : Int32} {b_kind b_value b_op b_with b_one b_two b_copyOp b_copyWith b_copyOne b_copyTwo b_opened b_branch b_sizes b_jumps b_groupOf b_text : Nat → Int32} {b_met : Nat → Int64} {b_todo b_notes : Nat → Int32}
theorem ya_nb1 : narrow .boolean (.int (1 : Int32)) = .int 1 := rfl
theorem ya_atom {post : Int32 → SY → Prop} {kk : Nat} {v pk pv : Int32} {F : SY → Prop} (hA : xt_A kk v pk pv) (he : ∀ post' : Int32 → SY → Prop, (∀ u, F u → post' 1 u) → wpY_single post' (g_count, g_place, g_end, g_size, g_large, g_ready, g_depth, g_groups, g_atom, g_atomSize, g_length, g_found, b_kind, b_value, b_op, b_with, b_one, b_two, b_copyOp, b_copyWith, b_copyOne, b_copyTwo, b_opened, b_branch, b_sizes, b_jumps, b_groupOf, b_text, b_met, b_todo, b_notes) pk pv) (h : ∀ u, F u → post 1 u) : wpY_accept post (g_count, g_place, g_end, g_size, g_large, g_ready, g_depth, g_groups, g_atom, g_atomSize, g_length, g_found, b_kind, b_value, b_op, b_with, b_one, b_two, b_copyOp, b_copyWith, b_copyOne, b_copyTwo, b_opened, b_branch, b_sizes, b_jumps, b_groupOf, b_text, b_met, b_todo, b_notes) (nI kk) v := by
  have k0 : ¬ nI kk < 0 := nI_pos (by unfold xt_A at hA; omega)
  have k15 : ¬ (15 : Int32) < nI kk := nI_nlt (a := 15) (by unfold xt_A at hA; omega) (by omega)
  refine br_f k0 (br_f k15 ?_)
  rcases hA with ⟨rfl, rfl, rfl⟩ | ⟨rfl, rfl, rfl⟩ | ⟨rfl, rfl, rfl⟩ | ⟨rfl, rfl, rfl⟩ | ⟨rfl, rfl, rfl⟩
  · exact br_t rfl (he _ (fun u hu => ⟨ya_nb1, h u hu⟩))
  · exact br_f (by decide) (br_t rfl (he _ (fun u hu => ⟨ya_nb1, h u hu⟩)))
  · exact br_f (by decide) (br_f (by decide) (br_t rfl (he _ (fun u hu => ⟨ya_nb1, h u hu⟩))))
  · exact br_f (by decide) (br_f (by decide) (br_f (by decide) (br_f (by decide) (br_f (by decide) (br_f (by decide) (br_f (by decide) (br_f (by decide) (br_f (by decide) (br_f (by decide) (br_f (by decide) (br_f (by decide) (br_f (by decide) (br_t rfl (he _ (fun u hu => ⟨ya_nb1, h u hu⟩)))))))))))))))
  · exact br_f (by decide) (br_f (by decide) (br_f (by decide) (br_f (by decide) (br_f (by decide) (br_f (by decide) (br_f (by decide) (br_f (by decide) (br_f (by decide) (br_f (by decide) (br_f (by decide) (br_f (by decide) (br_f (by decide) (br_f (by decide) (br_f (by decide) (br_t rfl (he _ (fun u hu => ⟨ya_nb1, h u hu⟩)))))))))))))))))
theorem ya_open3 {post : Int32 → SY → Prop} {g : Nat} {v : Int32} {F : SY → Prop} (hg : ¬ g = 3) (hg2 : g < 100) (he : ∀ post' : SY → Prop, (∀ u, F u → post' u) → wpY_open post' (g_count, g_place, g_end, g_size, g_large, g_ready, g_depth, nI (g + 1), g_atom, g_atomSize, g_length, g_found, b_kind, b_value, b_op, b_with, b_one, b_two, b_copyOp, b_copyWith, b_copyOne, b_copyTwo, b_opened, b_branch, b_sizes, b_jumps, b_groupOf, b_text, b_met, b_todo, b_notes) (nI (g + 1))) (h : ∀ u, F u → post 1 u) : wpY_accept post (g_count, g_place, g_end, g_size, g_large, g_ready, g_depth, nI g, g_atom, g_atomSize, g_length, g_found, b_kind, b_value, b_op, b_with, b_one, b_two, b_copyOp, b_copyWith, b_copyOne, b_copyTwo, b_opened, b_branch, b_sizes, b_jumps, b_groupOf, b_text, b_met, b_todo, b_notes) (nI 3) v := by
  have n3 : ¬ nI g = 3 := fun e => hg ((nI_eq (b := 3) (by omega) (by omega)).mp e)
  refine br_f (by decide) (br_f (by decide) (br_f (by decide) (br_f (by decide) (br_f (by decide) (br_t rfl (br_t rfl (br_f n3 (br_t rfl (nm_r (nI_1 g) ?_)))))))))
  rw [nI_1]
  exact he _ (fun u hu => h u hu)
theorem ya_open4 {post : Int32 → SY → Prop} {v : Int32} {F : SY → Prop} (he : ∀ post' : SY → Prop, (∀ u, F u → post' u) → wpY_open post' (g_count, g_place, g_end, g_size, g_large, g_ready, g_depth, g_groups, g_atom, g_atomSize, g_length, g_found, b_kind, b_value, b_op, b_with, b_one, b_two, b_copyOp, b_copyWith, b_copyOne, b_copyTwo, b_opened, b_branch, b_sizes, b_jumps, b_groupOf, b_text, b_met, b_todo, b_notes) (nI 0)) (h : ∀ u, F u → post 1 u) : wpY_accept post (g_count, g_place, g_end, g_size, g_large, g_ready, g_depth, g_groups, g_atom, g_atomSize, g_length, g_found, b_kind, b_value, b_op, b_with, b_one, b_two, b_copyOp, b_copyWith, b_copyOne, b_copyTwo, b_opened, b_branch, b_sizes, b_jumps, b_groupOf, b_text, b_met, b_todo, b_notes) (nI 4) v := by
  refine br_f (by decide) (br_f (by decide) (br_f (by decide) (br_f (by decide) (br_f (by decide) (br_f (by decide) (br_t rfl (br_f (by decide) (br_f (by decide) ?_))))))))
  exact he _ (fun u hu => h u hu)
theorem ya_close {post : Int32 → SY → Prop} {o : Nat} {v : Int32} {F : SY → Prop} (ho : 0 < o) (ho2 : o < 100) (he : ∀ post' : SY → Prop, (∀ u, F u → post' u) → wpY_close post' (g_count, g_place, g_end, g_size, g_large, g_ready, nI (o + 1), g_groups, g_atom, g_atomSize, g_length, g_found, b_kind, b_value, b_op, b_with, b_one, b_two, b_copyOp, b_copyWith, b_copyOne, b_copyTwo, b_opened, b_branch, b_sizes, b_jumps, b_groupOf, b_text, b_met, b_todo, b_notes)) (h : ∀ u, F u → post 1 u) : wpY_accept post (g_count, g_place, g_end, g_size, g_large, g_ready, nI (o + 1), g_groups, g_atom, g_atomSize, g_length, g_found, b_kind, b_value, b_op, b_with, b_one, b_two, b_copyOp, b_copyWith, b_copyOne, b_copyTwo, b_opened, b_branch, b_sizes, b_jumps, b_groupOf, b_text, b_met, b_todo, b_notes) (nI 5) v := by
  have n1 : ¬ nI (o + 1) = 1 := fun e => by
    have := (nI_eq (b := 1) (by omega) (by omega)).mp e
    omega
  refine br_f (by decide) (br_f (by decide) (br_f (by decide) (br_f (by decide) (br_f (by decide) (br_f (by decide) (br_f (by decide) (br_t rfl (br_f n1 ?_))))))))
  exact he _ (fun u hu => h u hu)
theorem ya_bar {post : Int32 → SY → Prop} {v : Int32} {F : SY → Prop} (he : ∀ post' : SY → Prop, (∀ u, F u → post' u) → wpY_alternative post' (g_count, g_place, g_end, g_size, g_large, g_ready, g_depth, g_groups, g_atom, g_atomSize, g_length, g_found, b_kind, b_value, b_op, b_with, b_one, b_two, b_copyOp, b_copyWith, b_copyOne, b_copyTwo, b_opened, b_branch, b_sizes, b_jumps, b_groupOf, b_text, b_met, b_todo, b_notes)) (h : ∀ u, F u → post 1 u) : wpY_accept post (g_count, g_place, g_end, g_size, g_large, g_ready, g_depth, g_groups, g_atom, g_atomSize, g_length, g_found, b_kind, b_value, b_op, b_with, b_one, b_two, b_copyOp, b_copyWith, b_copyOne, b_copyTwo, b_opened, b_branch, b_sizes, b_jumps, b_groupOf, b_text, b_met, b_todo, b_notes) (nI 6) v := by
  refine br_f (by decide) (br_f (by decide) (br_f (by decide) (br_f (by decide) (br_f (by decide) (br_f (by decide) (br_f (by decide) (br_f (by decide) (br_t rfl ?_))))))))
  exact he _ (fun u hu => h u hu)
/-- a quantifier comes to its own row -/
theorem ya_181 {post : Int32 → SY → Prop} {kk : Nat} {v : Int32} (hk : kk ≤ 15) (hq : cs_q kk = true) (h : wY_accept_181 post (nI kk) v g_count g_place g_end g_size g_large g_ready g_depth g_groups g_atom g_atomSize g_length g_found b_kind b_value b_op b_with b_one b_two b_copyOp b_copyWith b_copyOne b_copyTwo b_opened b_branch b_sizes b_jumps b_groupOf b_text b_met b_todo b_notes) : wpY_accept post (g_count, g_place, g_end, g_size, g_large, g_ready, g_depth, g_groups, g_atom, g_atomSize, g_length, g_found, b_kind, b_value, b_op, b_with, b_one, b_two, b_copyOp, b_copyWith, b_copyOne, b_copyTwo, b_opened, b_branch, b_sizes, b_jumps, b_groupOf, b_text, b_met, b_todo, b_notes) (nI kk) v := by
  have k0 : ¬ nI kk < 0 := nI_pos (by omega)
  have k15 : ¬ (15 : Int32) < nI kk := nI_nlt (a := 15) (by omega) (by omega)
  have hq' := cs_qi.mp hq
  have : kk = 7 ∨ kk = 8 ∨ kk = 9 ∨ kk = 10 ∨ kk = 11 ∨ kk = 12 ∨ kk = 14 := by omega
  refine br_f k0 (br_f k15 ?_)
  rcases this with rfl | rfl | rfl | rfl | rfl | rfl | rfl
  · exact br_f (by decide) (br_f (by decide) (br_f (by decide) (br_f (by decide) (br_f (by decide) (br_f (by decide) (br_f (by decide) (br_t rfl h)))))))
  · exact br_f (by decide) (br_f (by decide) (br_f (by decide) (br_f (by decide) (br_f (by decide) (br_f (by decide) (br_f (by decide) (br_f (by decide) (br_t rfl h))))))))
  · exact br_f (by decide) (br_f (by decide) (br_f (by decide) (br_f (by decide) (br_f (by decide) (br_f (by decide) (br_f (by decide) (br_f (by decide) (br_f (by decide) (br_t rfl h)))))))))
  · exact br_f (by decide) (br_f (by decide) (br_f (by decide) (br_f (by decide) (br_f (by decide) (br_f (by decide) (br_f (by decide) (br_f (by decide) (br_f (by decide) (br_f (by decide) (br_t rfl h))))))))))
  · exact br_f (by decide) (br_f (by decide) (br_f (by decide) (br_f (by decide) (br_f (by decide) (br_f (by decide) (br_f (by decide) (br_f (by decide) (br_f (by decide) (br_f (by decide) (br_f (by decide) (br_t rfl h)))))))))))
  · exact br_f (by decide) (br_f (by decide) (br_f (by decide) (br_f (by decide) (br_f (by decide) (br_f (by decide) (br_f (by decide) (br_f (by decide) (br_f (by decide) (br_f (by decide) (br_f (by decide) (br_f (by decide) (br_t rfl h))))))))))))
  · exact br_f (by decide) (br_f (by decide) (br_f (by decide) (br_f (by decide) (br_f (by decide) (br_f (by decide) (br_f (by decide) (br_f (by decide) (br_f (by decide) (br_f (by decide) (br_f (by decide) (br_f (by decide) (br_f (by decide) (br_f (by decide) (br_t rfl h))))))))))))))
theorem ya_quant {post : Int32 → SY → Prop} {kk : Nat} {v : Int32} (hk : kk ≤ 15) (hq : cs_q kk = true) (ha : 0 ≤ g_atom) (h : wpY_quantify (fun u => match u with | (g_count, g_place, g_end, g_size, g_large, g_ready, g_depth, g_groups, g_atom, g_atomSize, g_length, g_found, b_kind, b_value, b_op, b_with, b_one, b_two, b_copyOp, b_copyWith, b_copyOne, b_copyTwo, b_opened, b_branch, b_sizes, b_jumps, b_groupOf, b_text, b_met, b_todo, b_notes) => (post 1 (g_count, g_place, g_end, g_size, g_large, g_ready, g_depth, g_groups, (-1), g_atomSize, g_length, g_found, b_kind, b_value, b_op, b_with, b_one, b_two, b_copyOp, b_copyWith, b_copyOne, b_copyTwo, b_opened, b_branch, b_sizes, b_jumps, b_groupOf, b_text, b_met, b_todo, b_notes))) (g_count, g_place, g_end, g_size, g_large, g_ready, g_depth, g_groups, g_atom, g_atomSize, g_length, g_found, b_kind, b_value, b_op, b_with, b_one, b_two, b_copyOp, b_copyWith, b_copyOne, b_copyTwo, b_opened, b_branch, b_sizes, b_jumps, b_groupOf, b_text, b_met, b_todo, b_notes) (nI kk) v) : wpY_accept post (g_count, g_place, g_end, g_size, g_large, g_ready, g_depth, g_groups, g_atom, g_atomSize, g_length, g_found, b_kind, b_value, b_op, b_with, b_one, b_two, b_copyOp, b_copyWith, b_copyOne, b_copyTwo, b_opened, b_branch, b_sizes, b_jumps, b_groupOf, b_text, b_met, b_todo, b_notes) (nI kk) v :=
  ya_181 hk hq (br_t ha h)
/-- a token that is bad here -/
theorem ya_bad {post : Int32 → SY → Prop} {kk o g : Nat} {b : Bool} {v : Int32} (hk : kk ≤ 15) (ho : o < 100) (hb : cs_bad kk (o, g, b)) (hat : b = false → g_atom = -1)
    (h : post 0 (g_count, g_place, g_end, g_size, g_large, g_ready, nI (o + 1), nI g, g_atom, g_atomSize, g_length, g_found, b_kind, b_value, b_op, b_with, b_one, b_two, b_copyOp, b_copyWith, b_copyOne, b_copyTwo, b_opened, b_branch, b_sizes, b_jumps, b_groupOf, b_text, b_met, b_todo, b_notes)) : wpY_accept post (g_count, g_place, g_end, g_size, g_large, g_ready, nI (o + 1), nI g, g_atom, g_atomSize, g_length, g_found, b_kind, b_value, b_op, b_with, b_one, b_two, b_copyOp, b_copyWith, b_copyOne, b_copyTwo, b_opened, b_branch, b_sizes, b_jumps, b_groupOf, b_text, b_met, b_todo, b_notes) (nI kk) v := by
  rcases hb with ⟨q1, q2⟩ | ⟨q1, q2⟩ | ⟨q1, q2⟩
  · refine ya_181 hk q1 (br_f ?_ h)
    rw [hat q2]; decide
  · dsimp only at q2
    subst q1 q2
    exact br_f (by decide) (br_f (by decide) (br_f (by decide) (br_f (by decide) (br_f (by decide) (br_f (by decide) (br_f (by decide) (br_t rfl (br_t rfl h))))))))
  · dsimp only at q2
    subst q1 q2
    exact br_f (by decide) (br_f (by decide) (br_f (by decide) (br_f (by decide) (br_f (by decide) (br_t rfl (br_t rfl (br_t rfl h)))))))
/-! too large: the rest of the tokens is read for its grammar alone -/
def ys_S (s : Nat × Nat × Bool) (en la dp gr at_ : Int32) (opd : Nat → Int32) : Prop :=
  la = 1 ∧ dp = nI (s.1 + 1) ∧ gr = nI s.2.1 ∧ (∃ e, e < 1000 ∧ en = nI e) ∧ (s.2.2 = true → 0 ≤ at_) ∧ (s.2.2 = false → at_ = -1) ∧ (∀ d, d ≤ s.1 → 0 ≤ opd d)
theorem ys_step {post : Int32 → SY → Prop} {kk : Nat} {v v' vx : Int32} {s : Nat × Nat × Bool} (hs : ys_S s g_end g_large g_depth g_groups g_atom b_opened) (hk : kk ≤ 15) (hbad : ¬ cs_bad kk s) (ho : s.1 + 1 < 25) (hg : s.2.1 ≤ 3)
    (h : ∀ (sz dp gr at_ az : Int32) (opd brn szs jmp gof : Nat → Int32), ys_S (cs_step kk s) g_end 1 dp gr at_ opd → post 1 (g_count, g_place, g_end, sz, 1, g_ready, dp, gr, at_, az, g_length, g_found, b_kind, b_value, b_op, b_with, b_one, b_two, b_copyOp, b_copyWith, b_copyOne, b_copyTwo, opd, brn, szs, jmp, gof, b_text, b_met, b_todo, b_notes)) : wpY_accept post (g_count, g_place, g_end, g_size, g_large, g_ready, g_depth, g_groups, g_atom, g_atomSize, g_length, g_found, b_kind, b_value, b_op, b_with, b_one, b_two, b_copyOp, b_copyWith, b_copyOne, b_copyTwo, b_opened, b_branch, b_sizes, b_jumps, b_groupOf, b_text, b_met, b_todo, b_notes) (nI kk) v := by
  obtain ⟨o, g, b⟩ := s
  obtain ⟨rfl, rfl, rfl, ⟨e, he, rfl⟩, hat, hat0, hop⟩ := hs
  dsimp only at hat hat0 hop ho hg
  have he0 : (0 : Int32) ≤ nI e := nI_pos' (by omega)
  by_cases hq : cs_q kk = true
  · have hb : b = true := by
      cases b with
      | true => rfl
      | false => exact absurd (Or.inl ⟨hq, rfl⟩) hbad
    refine ya_quant hk hq (hat hb) ?_
    refine cy_quant1 (fun s => ?_)
    refine h _ _ _ _ _ _ _ _ _ _ ⟨rfl, ?_, ?_, ⟨e, he, rfl⟩, ?_, fun _ => rfl, ?_⟩
    · show _ = nI ((if kk = 3 ∨ kk = 4 then o + 1 else if kk = 5 then o - 1 else o) + 1)
      have := cs_qi.mp hq
      rw [if_neg (by omega), if_neg (by omega)]
    · show _ = nI (if kk = 3 then g + 1 else g)
      have := cs_qi.mp hq
      rw [if_neg (by omega)]
    · intro hh
      have : cs_b kk = false := by unfold cs_b; rw [hq]; simp
      rw [show (cs_step kk (o, g, b)).2.2 = cs_b kk from rfl, this] at hh
      cases hh
    · show ∀ d, d ≤ (if kk = 3 ∨ kk = 4 then o + 1 else if kk = 5 then o - 1 else o) → _
      have := cs_qi.mp hq
      rw [if_neg (by omega), if_neg (by omega)]
      exact hop
  · have hq' : ¬ ((7 ≤ kk ∧ kk ≤ 12) ∨ kk = 14) := fun h => hq (cs_qi.mpr h)
    have hq0 : cs_q kk = false := by
      cases hh : cs_q kk with
      | true => exact absurd hh hq
      | false => rfl
    by_cases k3 : kk = 3
    · subst k3
      have g3 : ¬ g = 3 := fun e => hbad (Or.inr (Or.inr ⟨rfl, e⟩))
      refine ya_open3 (g := g) (F := fun u => u = (g_count, g_place, nI e, g_size + 2, 1, g_ready, nI (o + 1 + 1), nI (g + 1), (-1), g_atomSize, g_length, g_found, b_kind, b_value, b_op, b_with, b_one, b_two, b_copyOp, b_copyWith, b_copyOne, b_copyTwo, upd b_opened (o + 1) (nI e), upd b_branch (o + 1) (nI e), upd b_sizes (o + 1) (vp_nar .short g_size.toInt16.toInt32), upd b_jumps (o + 1) (-1), upd b_groupOf (o + 1) (nI (g + 1)), b_text, b_met, b_todo, b_notes)) g3 (by omega) (fun post' h' => cy_open1 he (by omega) (by omega) (by omega) (h' _ rfl)) (fun u hu => ?_)
      rw [hu]
      refine h _ _ _ _ _ _ _ _ _ _ ⟨rfl, rfl, rfl, ⟨e, he, rfl⟩, (fun hh => by cases hh), fun _ => rfl, fun d hd => ?_⟩
      by_cases ed : d = o + 1
      · rw [ed, rl_us]; exact he0
      · rw [rl_un ed]
        have hd' : d ≤ o + 1 := hd
        exact hop d (by omega)
    · by_cases k4 : kk = 4
      · subst k4
        refine ya_open4 (F := fun u => u = (g_count, g_place, nI e, g_size, 1, g_ready, nI (o + 1 + 1), nI g, (-1), g_atomSize, g_length, g_found, b_kind, b_value, b_op, b_with, b_one, b_two, b_copyOp, b_copyWith, b_copyOne, b_copyTwo, upd b_opened (o + 1) (nI e), upd b_branch (o + 1) (nI e), upd b_sizes (o + 1) (vp_nar .short g_size.toInt16.toInt32), upd b_jumps (o + 1) (-1), upd b_groupOf (o + 1) (nI 0), b_text, b_met, b_todo, b_notes)) (fun post' h' => cy_open0 he (by omega) (h' _ rfl)) (fun u hu => ?_)
        rw [hu]
        refine h _ _ _ _ _ _ _ _ _ _ ⟨rfl, rfl, rfl, ⟨e, he, rfl⟩, (fun hh => by cases hh), fun _ => rfl, fun d hd => ?_⟩
        by_cases ed : d = o + 1
        · rw [ed, rl_us]; exact he0
        · rw [rl_un ed]
          have hd' : d ≤ o + 1 := hd
          exact hop d (by omega)
      · by_cases k5 : kk = 5
        · subst k5
          have ho0 : 0 < o := by
            rcases Nat.eq_zero_or_pos o with e0 | e0
            · exact absurd (Or.inr (Or.inl ⟨rfl, e0⟩)) hbad
            · exact e0
          refine ya_close (o := o) (F := fun u => u = (g_count, g_place, nI e, g_size, 1, g_ready, nI o, nI g, b_opened o, g_size - b_sizes o, g_length, g_found, b_kind, b_value, b_op, b_with, b_one, b_two, b_copyOp, b_copyWith, b_copyOne, b_copyTwo, b_opened, b_branch, b_sizes, b_jumps, b_groupOf, b_text, b_met, b_todo, b_notes)) ho0 (by omega) (fun post' h' => cy_close1 (by omega) (h' _ rfl)) (fun u hu => ?_)
          rw [hu]
          refine h _ _ _ _ _ _ _ _ _ _ ⟨rfl, ?_, rfl, ⟨e, he, rfl⟩, fun _ => hop o (Nat.le_refl _), (fun hh => by cases hh), fun d hd => ?_⟩
          · show nI o = nI (o - 1 + 1)
            congr 1; omega
          · have hd' : d ≤ o - 1 := hd
            exact hop d (by omega)
        · by_cases k6 : kk = 6
          · subst k6
            refine ya_bar (F := fun u => u = (g_count, g_place, nI e, g_size + 1, 1, g_ready, nI (o + 1), nI g, (-1), g_atomSize, g_length, g_found, b_kind, b_value, b_op, b_with, b_one, b_two, b_copyOp, b_copyWith, b_copyOne, b_copyTwo, b_opened, b_branch, b_sizes, b_jumps, b_groupOf, b_text, b_met, b_todo, b_notes)) (fun post' h' => cy_alt1 (h' _ rfl)) (fun u hu => ?_)
            rw [hu]
            exact h _ _ _ _ _ _ _ _ _ _ ⟨rfl, rfl, rfl, ⟨e, he, rfl⟩, (fun hh => by cases hh), fun _ => rfl, hop⟩
          · obtain ⟨pk, pv, hA⟩ : ∃ pk pv, xt_A kk v pk pv := by
              have : kk = 0 ∨ kk = 1 ∨ kk = 2 ∨ kk = 13 ∨ kk = 15 := by omega
              rcases this with h | h | h | h | h
              · exact ⟨_, _, Or.inl ⟨h, rfl, rfl⟩⟩
              · exact ⟨_, _, Or.inr (Or.inl ⟨h, rfl, rfl⟩)⟩
              · exact ⟨_, _, Or.inr (Or.inr (Or.inl ⟨h, rfl, rfl⟩))⟩
              · exact ⟨_, _, Or.inr (Or.inr (Or.inr (Or.inl ⟨h, rfl, rfl⟩)))⟩
              · exact ⟨_, _, Or.inr (Or.inr (Or.inr (Or.inr ⟨h, rfl, rfl⟩)))⟩
            have eb : cs_b kk = true := by unfold cs_b; rw [hq0]; simp [k3, k4, k6]
            refine ya_atom (F := fun u => u = (g_count, g_place, nI e, g_size + 1, 1, g_ready, nI (o + 1), nI g, nI e, 1, g_length, g_found, b_kind, b_value, b_op, b_with, b_one, b_two, b_copyOp, b_copyWith, b_copyOne, b_copyTwo, b_opened, b_branch, b_sizes, b_jumps, b_groupOf, b_text, b_met, b_todo, b_notes)) hA (fun post' h' => cy_single1 (h' _ rfl)) (fun u hu => ?_)
            rw [hu]
            refine h _ _ _ _ _ _ _ _ _ _ ⟨rfl, ?_, ?_, ⟨e, he, rfl⟩, fun _ => he0, fun hh => ?_, ?_⟩
            · show _ = nI ((if kk = 3 ∨ kk = 4 then o + 1 else if kk = 5 then o - 1 else o) + 1)
              rw [if_neg (by omega), if_neg k5]
            · show _ = nI (if kk = 3 then g + 1 else g)
              rw [if_neg k3]
            · rw [show (cs_step kk (o, g, b)).2.2 = cs_b kk from rfl, eb] at hh
              cases hh
            · show ∀ d, d ≤ (if kk = 3 ∨ kk = 4 then o + 1 else if kk = 5 then o - 1 else o) → _
              rw [if_neg (by omega), if_neg k5]
              exact hop
end YA
end
section
section TK
def cq_A (b : Bool) (lv pc en sz : Nat) (gg lsN bsN od br : Nat → Nat) (J : Nat → List Nat) (as_ ae at_ az : Int32) (K V N S lg ls le bs be O W F G opd brn szs jmp gof : Nat → Int32) : Prop :=
  cq_K lv pc en sz gg lsN bsN od br J ae (fg_q O W F G) (fg_q K V N S) lg ls le bs be opd brn szs jmp gof ∧ (ae = -1 ∨ as_ = nI (lsN (lv + 1))) ∧
  (b = true → as_ = nI (lsN (lv + 1)) ∧ az = nI (pc - lsN (lv + 1)) ∧ at_ = nI (od (lv + 1))) ∧ (b = false → at_ = -1) ∧ rl_B O ∧ rl_B W ∧ rl_S F ∧ rl_S G
def xl_L (post : SX → Prop) (n j : Nat) (u : SX) : Prop := match u with
  | (f_tokens, f_faultPlace, f_length, f_pieces, f_patternEntry, f_hasPattern, f_tooLarge, f_level, f_groups, f_atomStart, f_atomEntry, f_choices, f_wayPiece, f_wayPlace, f_wayNotes, f_hasResult, f_resultStart, f_resultEnd, f_resultNotes, a_tokenKind, a_tokenValue, a_text, a_pieceKind, a_pieceValue, a_pieceNext, a_pieceSecond, a_levelGroup, a_levelStart, a_levelEntry, a_branchStart, a_branchEntry, a_placesSeen, a_choicePiece, a_choicePlace, a_choiceNotes) => wX_buildPattern_32 post n (nI j) f_tokens f_faultPlace f_length f_pieces f_patternEntry f_hasPattern f_tooLarge f_level f_groups f_atomStart f_atomEntry f_choices f_wayPiece f_wayPlace f_wayNotes f_hasResult f_resultStart f_resultEnd f_resultNotes a_tokenKind a_tokenValue a_text a_pieceKind a_pieceValue a_pieceNext a_pieceSecond a_levelGroup a_levelStart a_levelEntry a_branchStart a_branchEntry a_placesSeen a_choicePiece a_choicePlace a_choiceNotes
/-- what one token does on both sides -/
def tk_C (f_tokens f_faultPlace f_length f_pieces f_patternEntry f_hasPattern f_tooLarge f_level f_groups f_atomStart f_atomEntry f_choices f_wayPiece f_wayPlace : Int32) (f_wayNotes : Int64) (f_hasResult f_resultStart f_resultEnd : Int32) (f_resultNotes : Int64) (a_tokenKind a_tokenValue a_text a_pieceKind a_pieceValue a_pieceNext a_pieceSecond a_levelGroup a_levelStart a_levelEntry a_branchStart a_branchEntry : Nat → Int32) (a_placesSeen : Nat → Int64) (a_choicePiece a_choicePlace : Nat → Int32) (a_choiceNotes : Nat → Int64) (g_count g_place g_end g_size g_large g_ready g_depth g_groups g_atom g_atomSize g_length g_found : Int32) (b_kind b_value b_op b_with b_one b_two b_copyOp b_copyWith b_copyOne b_copyTwo b_opened b_branch b_sizes b_jumps b_groupOf b_text : Nat → Int32) (b_met : Nat → Int64) (b_todo b_notes : Nat → Int32) (i kk : Nat) (w : Int32) (s : Nat × Nat × Bool) : Prop :=
  (∃ (lv pc en sz : Nat) (gg lsN bsN od br : Nat → Nat) (J : Nat → List Nat) (as_ ae at_ az : Int32) (K V N S lg ls le bs be O W F G c1 c2 c3 c4 opd brn szs jmp gof : Nat → Int32),
     lv = s.1 ∧ cq_A s.2.2 lv pc en sz gg lsN bsN od br J as_ ae at_ az K V N S lg ls le bs be O W F G opd brn szs jmp gof ∧
     (∀ (post : SX → Prop) (n : Nat), wX_buildPattern_32 post n (nI (i + 1)) f_tokens f_faultPlace f_length (nI pc) f_patternEntry f_hasPattern 0 (nI lv) (nI s.2.1) as_ ae f_choices f_wayPiece f_wayPlace f_wayNotes f_hasResult f_resultStart f_resultEnd f_resultNotes a_tokenKind a_tokenValue a_text K V N S lg ls le bs be a_placesSeen a_choicePiece a_choicePlace a_choiceNotes → wX_buildPattern_32 post (n + 1) (nI i) f_tokens f_faultPlace f_length f_pieces f_patternEntry f_hasPattern f_tooLarge f_level f_groups f_atomStart f_atomEntry f_choices f_wayPiece f_wayPlace f_wayNotes f_hasResult f_resultStart f_resultEnd f_resultNotes a_tokenKind a_tokenValue a_text a_pieceKind a_pieceValue a_pieceNext a_pieceSecond a_levelGroup a_levelStart a_levelEntry a_branchStart a_branchEntry a_placesSeen a_choicePiece a_choicePlace a_choiceNotes) ∧
     (∀ post : Int32 → SY → Prop, post 1 (g_count, g_place, nI en, nI sz, cq_la sz, g_ready, nI (lv + 1), nI s.2.1, at_, az, g_length, g_found, b_kind, b_value, O, W, F, G, c1, c2, c3, c4, opd, brn, szs, jmp, gof, b_text, b_met, b_todo, b_notes) → wpY_accept post (g_count, g_place, g_end, g_size, g_large, g_ready, g_depth, g_groups, g_atom, g_atomSize, g_length, g_found, b_kind, b_value, b_op, b_with, b_one, b_two, b_copyOp, b_copyWith, b_copyOne, b_copyTwo, b_opened, b_branch, b_sizes, b_jumps, b_groupOf, b_text, b_met, b_todo, b_notes) (nI kk) w)) ∨
  ((∀ (post : SX → Prop) (n : Nat), (∀ (pc pe lv gr as_ ae : Int32) (K V N S lg ls le bs be : Nat → Int32), post (f_tokens, f_faultPlace, f_length, pc, pe, f_hasPattern, 1, lv, gr, as_, ae, f_choices, f_wayPiece, f_wayPlace, f_wayNotes, f_hasResult, f_resultStart, f_resultEnd, f_resultNotes, a_tokenKind, a_tokenValue, a_text, K, V, N, S, lg, ls, le, bs, be, a_placesSeen, a_choicePiece, a_choicePlace, a_choiceNotes)) → wX_buildPattern_32 post (n + 2) (nI i) f_tokens f_faultPlace f_length f_pieces f_patternEntry f_hasPattern f_tooLarge f_level f_groups f_atomStart f_atomEntry f_choices f_wayPiece f_wayPlace f_wayNotes f_hasResult f_resultStart f_resultEnd f_resultNotes a_tokenKind a_tokenValue a_text a_pieceKind a_pieceValue a_pieceNext a_pieceSecond a_levelGroup a_levelStart a_levelEntry a_branchStart a_branchEntry a_placesSeen a_choicePiece a_choicePlace a_choiceNotes) ∧
   (∃ (sz dp gr at_ az : Int32) (opd brn szs jmp gof : Nat → Int32), ys_S s g_end 1 dp gr at_ opd ∧
     (∀ post : Int32 → SY → Prop, post 1 (g_count, g_place, g_end, sz, 1, g_ready, dp, gr, at_, az, g_length, g_found, b_kind, b_value, b_op, b_with, b_one, b_two, b_copyOp, b_copyWith, b_copyOne, b_copyTwo, opd, brn, szs, jmp, gof, b_text, b_met, b_todo, b_notes) → wpY_accept post (g_count, g_place, g_end, g_size, g_large, g_ready, g_depth, g_groups, g_atom, g_atomSize, g_length, g_found, b_kind, b_value, b_op, b_with, b_one, b_two, b_copyOp, b_copyWith, b_copyOne, b_copyTwo, b_opened, b_branch, b_sizes, b_jumps, b_groupOf, b_text, b_met, b_todo, b_notes) (nI kk) w)))
theorem cp_sum_le (g : Nat → Nat) (le : Nat → Int32) : ∀ d, cp_sum g le d ≤ 3 * d
  | 0 => Nat.le_refl _
  | d + 1 => by
    have h1 := cp_sum_le g le d
    have h2 := cp_gb_le (g d)
    show cp_sum g le d + cp_lag (g d) (le d) ≤ _
    unfold cp_lag
    split <;> omega
theorem cq_szb {lv pc en sz : Nat} {gg lsN bsN od br : Nat → Nat} {J : Nat → List Nat} {ae : Int32} {m x : Nat → fg_I} {lg ls le bs be opd brn szs jmp gof : Nat → Int32} (h : cq_K lv pc en sz gg lsN bsN od br J ae m x lg ls le bs be opd brn szs jmp gof) : sz < 200 ∧ pc ≤ sz ∧ (sz ≤ 36 → en ≤ 72) ∧ (∀ d, d ≤ lv → 0 ≤ opd d) := by
  have hb := cq_en h
  obtain ⟨k1, k2, k3, k4, k5, k6, k7, k8, k9, k10, k11, k12, k13⟩ := h
  have := cp_sum_le gg le (lv + 1)
  refine ⟨by omega, by omega, fun h => by have := hb h; omega, fun d hd => ?_⟩
  obtain ⟨_, _, _, _, _, _, _, _, _, _, e11, e12, _⟩ := k12 d hd
  rw [e11]
  exact nI_pos' (by omega)
variable {f_tokens f_faultPlace f_length f_pieces f_patternEntry f_hasPattern f_tooLarge f_level f_groups f_atomStart f_atomEntry f_choices f_wayPiece f_wayPlace : Int32} {f_wayNotes : Int64} {f_hasResult f_resultStart f_resultEnd : Int32} {f_resultNotes : Int64} {a_tokenKind a_tokenValue a_text a_pieceKind a_pieceValue a_pieceNext a_pieceSecond a_levelGroup a_levelStart a_levelEntry a_branchStart a_branchEntry : Nat → Int32} {a_placesSeen : Nat → Int64} {a_choicePiece a_choicePlace : Nat → Int32} {a_choiceNotes : Nat → Int64}
/-- the loop's end, when it was too large -/
theorem xl_done {post : SX → Prop} {n j c lv pc : Nat} (hj : j < 100) (hc : c ≤ 24) (hl : lv < 25) (hp : pc ≤ 36) (hae : f_atomEntry = -1 ∨ ∃ a b, f_atomStart = nI a ∧ a ≤ 36 ∧ a_branchStart lv = nI b ∧ b ≤ 36)
    (h : ∀ (pc pe lv gr as_ ae : Int32) (K V N S lg ls le bs be : Nat → Int32), post (nI c, f_faultPlace, f_length, pc, pe, f_hasPattern, 1, lv, gr, as_, ae, f_choices, f_wayPiece, f_wayPlace, f_wayNotes, f_hasResult, f_resultStart, f_resultEnd, f_resultNotes, a_tokenKind, a_tokenValue, a_text, K, V, N, S, lg, ls, le, bs, be, a_placesSeen, a_choicePiece, a_choicePlace, a_choiceNotes)) : wX_buildPattern_32 post (n + 1) (nI j) (nI c) f_faultPlace f_length (nI pc) f_patternEntry f_hasPattern 1 (nI lv) f_groups f_atomStart f_atomEntry f_choices f_wayPiece f_wayPlace f_wayNotes f_hasResult f_resultStart f_resultEnd f_resultNotes a_tokenKind a_tokenValue a_text a_pieceKind a_pieceValue a_pieceNext a_pieceSecond a_levelGroup a_levelStart a_levelEntry a_branchStart a_branchEntry a_placesSeen a_choicePiece a_choicePlace a_choiceNotes := by
  have T : wX_buildPattern_104 post (nI c) f_faultPlace f_length (nI pc) f_patternEntry f_hasPattern 1 (nI lv) f_groups f_atomStart f_atomEntry f_choices f_wayPiece f_wayPlace f_wayNotes f_hasResult f_resultStart f_resultEnd f_resultNotes a_tokenKind a_tokenValue a_text a_pieceKind a_pieceValue a_pieceNext a_pieceSecond a_levelGroup a_levelStart a_levelEntry a_branchStart a_branchEntry a_placesSeen a_choicePiece a_choicePlace a_choiceNotes := xt_104L hl hp hae (fun _ _ _ _ _ _ _ _ _ _ => h _ _ _ _ _ _ _ _ _ _ _ _ _ _ _)
  by_cases e : c ≤ j
  · exact br_t (nI_le e (by omega)) T
  · exact br_f (nI_ge (by omega) (by omega)) (br_f (by decide) T)
/-- a token that is no quantifier -/
theorem xl_tok {post : SX → Prop} {n i c kk : Nat} {v ae' : Int32} {N' S' be' : Nat → Int32} {F : SX → Prop} (hc : c ≤ 24) (hi : i < c) (hk : kk ≤ 15) (hq : cs_q kk = false) (hK : a_tokenKind i = nI kk) (hV : a_tokenValue i = v)
    (hj : ∀ post' : SX → Prop, post' (nI c, f_faultPlace, f_length, f_pieces, f_patternEntry, f_hasPattern, 0, f_level, f_groups, f_atomStart, ae', f_choices, f_wayPiece, f_wayPlace, f_wayNotes, f_hasResult, f_resultStart, f_resultEnd, f_resultNotes, a_tokenKind, a_tokenValue, a_text, a_pieceKind, a_pieceValue, N', S', a_levelGroup, a_levelStart, a_levelEntry, a_branchStart, be', a_placesSeen, a_choicePiece, a_choicePlace, a_choiceNotes) → wpX_joinAtom post' (nI c, f_faultPlace, f_length, f_pieces, f_patternEntry, f_hasPattern, 0, f_level, f_groups, f_atomStart, f_atomEntry, f_choices, f_wayPiece, f_wayPlace, f_wayNotes, f_hasResult, f_resultStart, f_resultEnd, f_resultNotes, a_tokenKind, a_tokenValue, a_text, a_pieceKind, a_pieceValue, a_pieceNext, a_pieceSecond, a_levelGroup, a_levelStart, a_levelEntry, a_branchStart, a_branchEntry, a_placesSeen, a_choicePiece, a_choicePlace, a_choiceNotes))
    (ht : ∀ post' : SX → Prop, (∀ u, F u → post' u) → wpX_takeToken post' (nI c, f_faultPlace, f_length, f_pieces, f_patternEntry, f_hasPattern, 0, f_level, f_groups, f_atomStart, ae', f_choices, f_wayPiece, f_wayPlace, f_wayNotes, f_hasResult, f_resultStart, f_resultEnd, f_resultNotes, a_tokenKind, a_tokenValue, a_text, a_pieceKind, a_pieceValue, N', S', a_levelGroup, a_levelStart, a_levelEntry, a_branchStart, be', a_placesSeen, a_choicePiece, a_choicePlace, a_choiceNotes) (nI kk) v)
    (h : ∀ u, F u → xl_L post n (i + 1) u) : wX_buildPattern_32 post (n + 1) (nI i) (nI c) f_faultPlace f_length f_pieces f_patternEntry f_hasPattern 0 f_level f_groups f_atomStart f_atomEntry f_choices f_wayPiece f_wayPlace f_wayNotes f_hasResult f_resultStart f_resultEnd f_resultNotes a_tokenKind a_tokenValue a_text a_pieceKind a_pieceValue a_pieceNext a_pieceSecond a_levelGroup a_levelStart a_levelEntry a_branchStart a_branchEntry a_placesSeen a_choicePiece a_choicePlace a_choiceNotes := by
  have hv : vp_in (nI i) 24 := vp_in_nI (by omega) (by omega)
  have ec : (nI i).toNatClampNeg = i := nI_clamp (by omega)
  refine br_f (nI_ge hi (by omega)) (br_t rfl ⟨hv, ?_⟩)
  rw [ec, hK]
  refine ff_q hk ?_
  rw [hq]
  refine br_t rfl ?_
  refine hj _ ?_
  refine ⟨hv, hv, ?_⟩
  rw [hK, hV]
  refine ht _ (fun u hu => ?_)
  have := h u hu
  obtain ⟨f_tokens, f_faultPlace, f_length, f_pieces, f_patternEntry, f_hasPattern, f_tooLarge, f_level, f_groups, f_atomStart, f_atomEntry, f_choices, f_wayPiece, f_wayPlace, f_wayNotes, f_hasResult, f_resultStart, f_resultEnd, f_resultNotes, a_tokenKind, a_tokenValue, a_text, a_pieceKind, a_pieceValue, a_pieceNext, a_pieceSecond, a_levelGroup, a_levelStart, a_levelEntry, a_branchStart, a_branchEntry, a_placesSeen, a_choicePiece, a_choicePlace, a_choiceNotes⟩ := u
  exact nm_r (nI_1 i) this
theorem xl_quant {post : SX → Prop} {n i c kk : Nat} {v : Int32} {F : SX → Prop} (hc : c ≤ 24) (hi : i < c) (hk : kk ≤ 15) (hq : cs_q kk = true) (hK : a_tokenKind i = nI kk) (hV : a_tokenValue i = v)
    (ht : ∀ post' : SX → Prop, (∀ u, F u → post' u) → wpX_repeatAtom post' (nI c, f_faultPlace, f_length, f_pieces, f_patternEntry, f_hasPattern, 0, f_level, f_groups, f_atomStart, f_atomEntry, f_choices, f_wayPiece, f_wayPlace, f_wayNotes, f_hasResult, f_resultStart, f_resultEnd, f_resultNotes, a_tokenKind, a_tokenValue, a_text, a_pieceKind, a_pieceValue, a_pieceNext, a_pieceSecond, a_levelGroup, a_levelStart, a_levelEntry, a_branchStart, a_branchEntry, a_placesSeen, a_choicePiece, a_choicePlace, a_choiceNotes) (nI kk) v)
    (h : ∀ u, F u → xl_L post n (i + 1) u) : wX_buildPattern_32 post (n + 1) (nI i) (nI c) f_faultPlace f_length f_pieces f_patternEntry f_hasPattern 0 f_level f_groups f_atomStart f_atomEntry f_choices f_wayPiece f_wayPlace f_wayNotes f_hasResult f_resultStart f_resultEnd f_resultNotes a_tokenKind a_tokenValue a_text a_pieceKind a_pieceValue a_pieceNext a_pieceSecond a_levelGroup a_levelStart a_levelEntry a_branchStart a_branchEntry a_placesSeen a_choicePiece a_choicePlace a_choiceNotes := by
  have hv : vp_in (nI i) 24 := vp_in_nI (by omega) (by omega)
  have ec : (nI i).toNatClampNeg = i := nI_clamp (by omega)
  refine br_f (nI_ge hi (by omega)) (br_t rfl ⟨hv, ?_⟩)
  rw [ec, hK]
  refine ff_q hk ?_
  rw [hq]
  refine br_f (by decide) ⟨hv, hv, ?_⟩
  rw [hV]
  refine ht _ (fun u hu => ?_)
  have := h u hu
  obtain ⟨f_tokens, f_faultPlace, f_length, f_pieces, f_patternEntry, f_hasPattern, f_tooLarge, f_level, f_groups, f_atomStart, f_atomEntry, f_choices, f_wayPiece, f_wayPlace, f_wayNotes, f_hasResult, f_resultStart, f_resultEnd, f_resultNotes, a_tokenKind, a_tokenValue, a_text, a_pieceKind, a_pieceValue, a_pieceNext, a_pieceSecond, a_levelGroup, a_levelStart, a_levelEntry, a_branchStart, a_branchEntry, a_placesSeen, a_choicePiece, a_choicePlace, a_choiceNotes⟩ := u
  exact nm_r (nI_1 i) this
/-- the waiting atom joins -/
theorem tk_join {lv pc en sz : Nat} {gg lsN bsN od br : Nat → Nat} {J : Nat → List Nat} {m : Nat → fg_I} {opd brn szs jmp gof : Nat → Int32}
    (h : cq_K lv pc en sz gg lsN bsN od br J f_atomEntry m (fg_q a_pieceKind a_pieceValue a_pieceNext a_pieceSecond) a_levelGroup a_levelStart a_levelEntry a_branchStart a_branchEntry opd brn szs jmp gof) (has : f_atomEntry = -1 ∨ f_atomStart = nI (lsN (lv + 1))) :
    ∃ (N' S' be' : Nat → Int32), cq_K lv pc en sz gg (cq_u lsN (lv + 1) pc) bsN (cq_u od (lv + 1) en) br J (-1) m (fg_q a_pieceKind a_pieceValue N' S') a_levelGroup a_levelStart a_levelEntry a_branchStart be' opd brn szs jmp gof ∧
      (∀ post : SX → Prop, post (f_tokens, f_faultPlace, f_length, f_pieces, f_patternEntry, f_hasPattern, f_tooLarge, nI lv, f_groups, f_atomStart, (-1), f_choices, f_wayPiece, f_wayPlace, f_wayNotes, f_hasResult, f_resultStart, f_resultEnd, f_resultNotes, a_tokenKind, a_tokenValue, a_text, a_pieceKind, a_pieceValue, N', S', a_levelGroup, a_levelStart, a_levelEntry, a_branchStart, be', a_placesSeen, a_choicePiece, a_choicePlace, a_choiceNotes) → wpX_joinAtom post (f_tokens, f_faultPlace, f_length, f_pieces, f_patternEntry, f_hasPattern, f_tooLarge, nI lv, f_groups, f_atomStart, f_atomEntry, f_choices, f_wayPiece, f_wayPlace, f_wayNotes, f_hasResult, f_resultStart, f_resultEnd, f_resultNotes, a_tokenKind, a_tokenValue, a_text, a_pieceKind, a_pieceValue, a_pieceNext, a_pieceSecond, a_levelGroup, a_levelStart, a_levelEntry, a_branchStart, a_branchEntry, a_placesSeen, a_choicePiece, a_choicePlace, a_choiceNotes)) := by
  have hh := h
  obtain ⟨k1, k2, k3, k4, k5, k6, k7, k8, k9, k10, k11, k12, k13⟩ := hh
  obtain ⟨e1, e2, e3, e4, e5, e6, e7, e8, e9, e10, e11, e12, e13⟩ := k12 lv (Nat.le_refl _)
  refine ⟨_, _, _, ?_, fun post hp => cx_join (b := bsN lv) (a := lsN (lv + 1)) (by omega) e5 (by omega) (has.imp id (fun h => ⟨h, by omega⟩)) (fun hb => by have := e10 hb; omega) hp⟩
  refine cq_join h (fun p p1 p2 => ?_) (fun p hp => ?_)
  · by_cases e : f_atomEntry = -1
    · rw [e, if_pos rfl, cx_lo_0 (Nat.le_refl _), cx_lo_0 (Nat.le_refl _), fg_px_id]
    · rw [if_neg e]
      exact fg_q_lo p1 p2
  · by_cases e : f_atomEntry = -1
    · rw [e, if_pos rfl, cx_lo_0 (Nat.le_refl _), cx_lo_0 (Nat.le_refl _)]
    · rw [if_neg e]
      exact fg_q_ln (by omega)
theorem xt_A_v {kk : Nat} {v w pk pv : Int32} (h : xt_A kk v pk pv) (ht : rl_tok (nI kk) v w) (hk : kk ≤ 15) : xt_A kk w pk pv ∧ cy_B pk ∧ cy_B pv ∧ (pk = 0 ∨ pk = 1 ∨ pk = 2) := by
  obtain ⟨k2, hk2, ek, t0, t2, t14⟩ := ht
  obtain rfl : kk = k2 := fg_ij ek (by omega) (by omega)
  rcases h with ⟨rfl, rfl, rfl⟩ | ⟨rfl, rfl, rfl⟩ | ⟨rfl, rfl, rfl⟩ | ⟨rfl, rfl, rfl⟩ | ⟨rfl, rfl, rfl⟩
  · obtain ⟨c, c3, rfl, rfl⟩ := t0 rfl
    refine ⟨Or.inl ⟨rfl, rfl, rfl⟩, cy_Bn (n := 0) (by omega), ?_, Or.inl rfl⟩
    have : c = 0 ∨ c = 1 ∨ c = 2 ∨ c = 3 := by omega
    rcases this with rfl | rfl | rfl | rfl <;> (unfold cy_B; decide)
  · exact ⟨Or.inr (Or.inl ⟨rfl, rfl, rfl⟩), cy_Bn (n := 0) (by omega), cy_Bn (n := 15) (by omega), Or.inl rfl⟩
  · obtain ⟨c, c1, c3, rfl, rfl⟩ := t2 rfl
    exact ⟨Or.inr (Or.inr (Or.inl ⟨rfl, rfl, rfl⟩)), cy_Bn (n := 0) (by omega), cy_Bn (by omega), Or.inl rfl⟩
  · exact ⟨Or.inr (Or.inr (Or.inr (Or.inl ⟨rfl, rfl, rfl⟩))), cy_Bn (n := 1) (by omega), cy_Bn (n := 0) (by omega), Or.inr (Or.inl rfl)⟩
  · exact ⟨Or.inr (Or.inr (Or.inr (Or.inr ⟨rfl, rfl, rfl⟩))), cy_Bn (n := 2) (by omega), cy_Bn (n := 0) (by omega), Or.inr (Or.inr rfl)⟩
end TK
end
section
section TL
variable {f_tokens f_faultPlace f_length f_pieces f_patternEntry f_hasPattern f_tooLarge f_level f_groups f_atomStart f_atomEntry f_choices f_wayPiece f_wayPlace : Int32} {f_wayNotes : Int64} {f_hasResult f_resultStart f_resultEnd : Int32} {f_resultNotes : Int64} {a_tokenKind a_tokenValue a_text a_pieceKind a_pieceValue a_pieceNext a_pieceSecond a_levelGroup a_levelStart a_levelEntry a_branchStart a_branchEntry : Nat → Int32} {a_placesSeen : Nat → Int64} {a_choicePiece a_choicePlace : Nat → Int32} {a_choiceNotes : Nat → Int64}
variable {g_count g_place g_end g_size g_large g_ready g_depth g_groups g_atom g_atomSize g_length g_found : Int32} {b_kind b_value b_op b_with b_one b_two b_copyOp b_copyWith b_copyOne b_copyTwo b_opened b_branch b_sizes b_jumps b_groupOf b_text : Nat → Int32} {b_met : Nat → Int64} {b_todo b_notes : Nat → Int32}
variable {lv pc en sz g c i kk : Nat} {gg lsN bsN od br : Nat → Nat} {J : Nat → List Nat} {b : Bool} {w : Int32}
theorem tk_atom (hc : c ≤ 24) (hi : i < c) (hk : kk ≤ 15) (hK : a_tokenKind i = nI kk) (ht : rl_tok (nI kk) (a_tokenValue i) w) (hkk : kk = 0 ∨ kk = 1 ∨ kk = 2 ∨ kk = 13 ∨ kk = 15)
    (H : cq_A b lv pc en sz gg lsN bsN od br J f_atomStart f_atomEntry g_atom g_atomSize a_pieceKind a_pieceValue a_pieceNext a_pieceSecond a_levelGroup a_levelStart a_levelEntry a_branchStart a_branchEntry b_op b_with b_one b_two b_opened b_branch b_sizes b_jumps b_groupOf) :
    tk_C (nI c) f_faultPlace f_length (nI pc) f_patternEntry f_hasPattern 0 (nI lv) (nI g) f_atomStart f_atomEntry f_choices f_wayPiece f_wayPlace f_wayNotes f_hasResult f_resultStart f_resultEnd f_resultNotes a_tokenKind a_tokenValue a_text a_pieceKind a_pieceValue a_pieceNext a_pieceSecond a_levelGroup a_levelStart a_levelEntry a_branchStart a_branchEntry a_placesSeen a_choicePiece a_choicePlace a_choiceNotes g_count g_place (nI en) (nI sz) (cq_la sz) g_ready (nI (lv + 1)) (nI g) g_atom g_atomSize g_length g_found b_kind b_value b_op b_with b_one b_two b_copyOp b_copyWith b_copyOne b_copyTwo b_opened b_branch b_sizes b_jumps b_groupOf b_text b_met b_todo b_notes i kk w (cs_step kk (lv, g, b)) := by
  obtain ⟨HK, has, hb1, hb0, B1, B2, S1, S2⟩ := H
  obtain ⟨N', S', be', J1, J2⟩ := tk_join (f_tokens := nI c) (f_faultPlace := f_faultPlace) (f_length := f_length) (f_pieces := nI pc) (f_patternEntry := f_patternEntry) (f_hasPattern := f_hasPattern) (f_tooLarge := 0) (f_groups := nI g) (f_atomStart := f_atomStart) (f_atomEntry := f_atomEntry) (f_choices := f_choices) (f_wayPiece := f_wayPiece) (f_wayPlace := f_wayPlace) (f_wayNotes := f_wayNotes) (f_hasResult := f_hasResult) (f_resultStart := f_resultStart) (f_resultEnd := f_resultEnd) (f_resultNotes := f_resultNotes) (a_tokenKind := a_tokenKind) (a_tokenValue := a_tokenValue) (a_text := a_text) (a_pieceKind := a_pieceKind) (a_pieceValue := a_pieceValue) (a_pieceNext := a_pieceNext) (a_pieceSecond := a_pieceSecond) (a_levelGroup := a_levelGroup) (a_levelStart := a_levelStart) (a_levelEntry := a_levelEntry) (a_branchStart := a_branchStart) (a_branchEntry := a_branchEntry) (a_placesSeen := a_placesSeen) (a_choicePiece := a_choicePiece) (a_choicePlace := a_choicePlace) (a_choiceNotes := a_choiceNotes) HK has
  have hq : cs_q kk = false := by
    cases hh : cs_q kk with
    | false => rfl
    | true => have := cs_qi.mp hh; omega
  have es : cs_step kk (lv, g, b) = (lv, g, true) := by
    unfold cs_step cs_b
    rw [hq]
    dsimp only
    rw [if_neg (by omega), if_neg (by omega), if_neg (by omega)]
    have h3 : ¬ kk = 3 := by omega
    have h4 : ¬ kk = 4 := by omega
    have h6 : ¬ kk = 6 := by omega
    simp [h3, h4, h6]
  obtain ⟨pk, pv, hA⟩ : ∃ pk pv, xt_A kk (a_tokenValue i) pk pv := by
    rcases hkk with h | h | h | h | h
    · exact ⟨_, _, Or.inl ⟨h, rfl, rfl⟩⟩
    · exact ⟨_, _, Or.inr (Or.inl ⟨h, rfl, rfl⟩)⟩
    · exact ⟨_, _, Or.inr (Or.inr (Or.inl ⟨h, rfl, rfl⟩))⟩
    · exact ⟨_, _, Or.inr (Or.inr (Or.inr (Or.inl ⟨h, rfl, rfl⟩)))⟩
    · exact ⟨_, _, Or.inr (Or.inr (Or.inr (Or.inr ⟨h, rfl, rfl⟩)))⟩
  obtain ⟨hA', bpk, bpv, pk012⟩ := xt_A_v hA ht hk
  have hlv := HK.1
  have hpc := HK.2.1
  have hen := HK.2.2.1
  obtain ⟨hszb, hsz, hsz2, hop⟩ := cq_szb HK
  rw [es]
  by_cases hp : pc < 36
  · left
    have hX : ∀ (post : SX → Prop) (n : Nat), wX_buildPattern_32 post n (nI (i + 1)) (nI c) f_faultPlace f_length (nI (pc + 1)) f_patternEntry f_hasPattern 0 (nI lv) (nI g) (nI pc) (nI pc) f_choices f_wayPiece f_wayPlace f_wayNotes f_hasResult f_resultStart f_resultEnd f_resultNotes a_tokenKind a_tokenValue a_text (upd a_pieceKind pc pk) (upd a_pieceValue pc pv) (upd N' pc (-1)) (upd S' pc (-1)) a_levelGroup a_levelStart a_levelEntry a_branchStart be' a_placesSeen a_choicePiece a_choicePlace a_choiceNotes → wX_buildPattern_32 post (n + 1) (nI i) (nI c) f_faultPlace f_length (nI pc) f_patternEntry f_hasPattern 0 (nI lv) (nI g) f_atomStart f_atomEntry f_choices f_wayPiece f_wayPlace f_wayNotes f_hasResult f_resultStart f_resultEnd f_resultNotes a_tokenKind a_tokenValue a_text a_pieceKind a_pieceValue a_pieceNext a_pieceSecond a_levelGroup a_levelStart a_levelEntry a_branchStart a_branchEntry a_placesSeen a_choicePiece a_choicePlace a_choiceNotes := by
      intro post n h
      exact xl_tok (F := fun u => u = (nI c, f_faultPlace, f_length, nI (pc + 1), f_patternEntry, f_hasPattern, 0, nI lv, nI g, nI pc, nI pc, f_choices, f_wayPiece, f_wayPlace, f_wayNotes, f_hasResult, f_resultStart, f_resultEnd, f_resultNotes, a_tokenKind, a_tokenValue, a_text, upd a_pieceKind pc pk, upd a_pieceValue pc pv, upd N' pc (-1), upd S' pc (-1), a_levelGroup, a_levelStart, a_levelEntry, a_branchStart, be', a_placesSeen, a_choicePiece, a_choicePlace, a_choiceNotes)) hc hi hk hq hK rfl J2 (fun post' h' => xt_atomOK hA hp (h' _ rfl)) (fun u hu => by rw [hu]; exact h)
    by_cases hs : sz + 1 ≤ 36
    · have hen2 := hsz2 (by omega)
      refine ⟨lv, pc + 1, en + 1, sz + 1, gg, cq_u lsN (lv + 1) pc, bsN, cq_u od (lv + 1) en, br, J, nI pc, nI pc, nI en, 1, upd a_pieceKind pc pk, upd a_pieceValue pc pv, upd N' pc (-1), upd S' pc (-1), a_levelGroup, a_levelStart, a_levelEntry, a_branchStart, be', upd b_op en pk, upd b_with en pv, upd b_one en 1, upd b_two en 0, b_copyOp, b_copyWith, b_copyOne, b_copyTwo, b_opened, b_branch, b_sizes, b_jumps, b_groupOf, rfl, ⟨?_, Or.inr (by rw [cq_us]), fun _ => ⟨by rw [cq_us], ?_, by rw [cq_us]⟩, (fun h => by cases h), rl_Bu B1 bpk, rl_Bu B2 bpv, rl_Su S1 (cy_Sn (n := 1) (by omega)), rl_Su S2 (cy_Sn (n := 0) (by omega))⟩, hX, fun post h => ?_⟩
      · refine cq_atom J1 (by omega) (by omega) (by omega) (by rw [cq_us]; omega) (Or.inr ⟨pc, by omega, rfl⟩) (fun h => absurd h (fg_ne (by omega))) (by omega) (fun _ _ => ⟨?_, fun j hj => ?_, fun p hp' => ?_⟩)
        · rw [cq_us, cq_us]
          refine fg_one (by omega) (by rw [fg_q_us]) (by rw [fg_q_us]) ?_
          rw [fg_q_us, fg_q_us]
          rcases pk012 with h | h | h
          · exact Or.inl ⟨h, h, rfl⟩
          · exact Or.inr (Or.inl ⟨h, h⟩)
          · exact Or.inr (Or.inr (Or.inl ⟨h, h⟩))
        · rw [cq_us] at hj
          exact fg_q_un (by omega)
        · rw [cq_us] at hp'
          exact fg_q_un (by omega)
      · rw [cq_us, show pc + 1 - pc = 1 by omega]; rfl
      · rw [cq_la0 hs] at h
        exact ya_atom (F := fun u => u = (g_count, g_place, nI (en + 1), nI (sz + 1), 0, g_ready, nI (lv + 1), nI g, nI en, 1, g_length, g_found, b_kind, b_value, upd b_op en pk, upd b_with en pv, upd b_one en 1, upd b_two en 0, b_copyOp, b_copyWith, b_copyOne, b_copyTwo, b_opened, b_branch, b_sizes, b_jumps, b_groupOf, b_text, b_met, b_todo, b_notes)) hA' (fun post' h' => cy_singleC (by omega) hs bpk bpv (h' _ rfl)) (fun u hu => by rw [hu]; exact h)
    · refine ⟨lv, pc + 1, en, sz + 1, gg, cq_u lsN (lv + 1) pc, bsN, cq_u od (lv + 1) en, br, J, nI pc, nI pc, nI en, 1, upd a_pieceKind pc pk, upd a_pieceValue pc pv, upd N' pc (-1), upd S' pc (-1), a_levelGroup, a_levelStart, a_levelEntry, a_branchStart, be', b_op, b_with, b_one, b_two, b_copyOp, b_copyWith, b_copyOne, b_copyTwo, b_opened, b_branch, b_sizes, b_jumps, b_groupOf, rfl, ⟨?_, Or.inr (by rw [cq_us]), fun _ => ⟨by rw [cq_us], ?_, by rw [cq_us]⟩, (fun h => by cases h), B1, B2, S1, S2⟩, hX, fun post h => ?_⟩
      · exact cq_atom J1 (by omega) (by omega) (by omega) (by rw [cq_us]; omega) (Or.inr ⟨pc, by omega, rfl⟩) (fun h => absurd h (fg_ne (by omega))) (by omega) (fun h _ => absurd h hs)
      · rw [cq_us, show pc + 1 - pc = 1 by omega]; rfl
      · rw [cq_la1 (show 36 < sz + 1 by omega)] at h
        exact ya_atom (F := fun u => u = (g_count, g_place, nI en, nI (sz + 1), 1, g_ready, nI (lv + 1), nI g, nI en, 1, g_length, g_found, b_kind, b_value, b_op, b_with, b_one, b_two, b_copyOp, b_copyWith, b_copyOne, b_copyTwo, b_opened, b_branch, b_sizes, b_jumps, b_groupOf, b_text, b_met, b_todo, b_notes)) hA' (fun post' h' => cy_singleL (by omega) (by omega) (h' _ rfl)) (fun u hu => by rw [hu]; exact h)
  · right
    obtain rfl : pc = 36 := by omega
    refine ⟨fun post n h => ?_, ?_⟩
    · refine xl_tok (F := fun u => u = (nI c, f_faultPlace, f_length, nI 36, f_patternEntry, f_hasPattern, 1, nI lv, nI g, nI 36, (-1), f_choices, f_wayPiece, f_wayPlace, f_wayNotes, f_hasResult, f_resultStart, f_resultEnd, f_resultNotes, a_tokenKind, a_tokenValue, a_text, a_pieceKind, a_pieceValue, N', S', a_levelGroup, a_levelStart, a_levelEntry, a_branchStart, be', a_placesSeen, a_choicePiece, a_choicePlace, a_choiceNotes)) hc hi hk hq hK rfl J2 (fun post' h' => xt_atomL hA (h' _ rfl)) (fun u hu => ?_)
      rw [hu]
      exact xl_done (by omega) hc (by omega) (by omega) (Or.inl rfl) h
    · refine ⟨nI (sz + 1), nI (lv + 1), nI g, nI en, 1, b_opened, b_branch, b_sizes, b_jumps, b_groupOf, ⟨rfl, rfl, rfl, ⟨en, by omega, rfl⟩, fun _ => nI_pos' (by omega), (fun h => by cases h), hop⟩, fun post h => ?_⟩
      exact ya_atom (F := fun u => u = (g_count, g_place, nI en, nI (sz + 1), 1, g_ready, nI (lv + 1), nI g, nI en, 1, g_length, g_found, b_kind, b_value, b_op, b_with, b_one, b_two, b_copyOp, b_copyWith, b_copyOne, b_copyTwo, b_opened, b_branch, b_sizes, b_jumps, b_groupOf, b_text, b_met, b_todo, b_notes)) hA' (fun post' h' => cy_singleL (by omega) (by omega) (h' _ rfl)) (fun u hu => by rw [hu]; exact h)
end TL
end
section
section TM
theorem fg_JC_S {m : Nat → fg_I} {J : List Nat} {jm : Int32} (h : fg_JC m J jm) (hJ : ∀ j, j ∈ J → j < 1000) : cy_S jm := by
  cases J with
  | nil =>
    have : jm = -1 := h
    rw [this]; exact cy_Sm
  | cons j J =>
    rw [h.1]
    exact cy_Sn (by have := hJ j List.mem_cons_self; omega)
theorem cp_L_S {m x : Nat → fg_I} {g : Nat} {le jm be : Int32} {o b o' s t s' : Nat} {J : List Nat} (h : cp_L m x g le jm be o b o' s t s' J) (hb : o' < 1000) : cy_S jm := by
  obtain ⟨_, b2, _⟩ := cp_L_le h
  rcases h.2.1 with ⟨_, _, _, h4⟩ | ⟨_, h2, h3⟩
  · rw [h4]; exact cy_Sm
  · exact fg_JC_S h3 (fun j hj => by have := cp_mem h2 hj; omega)
variable {f_tokens f_faultPlace f_length f_pieces f_patternEntry f_hasPattern f_tooLarge f_level f_groups f_atomStart f_atomEntry f_choices f_wayPiece f_wayPlace : Int32} {f_wayNotes : Int64} {f_hasResult f_resultStart f_resultEnd : Int32} {f_resultNotes : Int64} {a_tokenKind a_tokenValue a_text a_pieceKind a_pieceValue a_pieceNext a_pieceSecond a_levelGroup a_levelStart a_levelEntry a_branchStart a_branchEntry : Nat → Int32} {a_placesSeen : Nat → Int64} {a_choicePiece a_choicePlace : Nat → Int32} {a_choiceNotes : Nat → Int64}
variable {g_count g_place g_end g_size g_large g_ready g_depth g_groups g_atom g_atomSize g_length g_found : Int32} {b_kind b_value b_op b_with b_one b_two b_copyOp b_copyWith b_copyOne b_copyTwo b_opened b_branch b_sizes b_jumps b_groupOf b_text : Nat → Int32} {b_met : Nat → Int64} {b_todo b_notes : Nat → Int32}
variable {lv pc en sz g c i l : Nat} {gg lsN bsN od br : Nat → Nat} {J : Nat → List Nat} {b : Bool} {w : Int32}
theorem tk_open3 (hc : c ≤ 24) (hi : i < c) (hK : a_tokenKind i = nI 3) (hl : lv + 1 ≤ 24) (hg : g + 1 ≤ 3)
    (H : cq_A b lv pc en sz gg lsN bsN od br J f_atomStart f_atomEntry g_atom g_atomSize a_pieceKind a_pieceValue a_pieceNext a_pieceSecond a_levelGroup a_levelStart a_levelEntry a_branchStart a_branchEntry b_op b_with b_one b_two b_opened b_branch b_sizes b_jumps b_groupOf) :
    tk_C (nI c) f_faultPlace f_length (nI pc) f_patternEntry f_hasPattern 0 (nI lv) (nI g) f_atomStart f_atomEntry f_choices f_wayPiece f_wayPlace f_wayNotes f_hasResult f_resultStart f_resultEnd f_resultNotes a_tokenKind a_tokenValue a_text a_pieceKind a_pieceValue a_pieceNext a_pieceSecond a_levelGroup a_levelStart a_levelEntry a_branchStart a_branchEntry a_placesSeen a_choicePiece a_choicePlace a_choiceNotes g_count g_place (nI en) (nI sz) (cq_la sz) g_ready (nI (lv + 1)) (nI g) g_atom g_atomSize g_length g_found b_kind b_value b_op b_with b_one b_two b_copyOp b_copyWith b_copyOne b_copyTwo b_opened b_branch b_sizes b_jumps b_groupOf b_text b_met b_todo b_notes i 3 w (lv + 1, g + 1, false) := by
  obtain ⟨HK, has, hb1, hb0, B1, B2, S1, S2⟩ := H
  obtain ⟨N', S', be', J1, J2⟩ := tk_join (f_tokens := nI c) (f_faultPlace := f_faultPlace) (f_length := f_length) (f_pieces := nI pc) (f_patternEntry := f_patternEntry) (f_hasPattern := f_hasPattern) (f_tooLarge := 0) (f_groups := nI g) (f_atomStart := f_atomStart) (f_atomEntry := f_atomEntry) (f_choices := f_choices) (f_wayPiece := f_wayPiece) (f_wayPlace := f_wayPlace) (f_wayNotes := f_wayNotes) (f_hasResult := f_hasResult) (f_resultStart := f_resultStart) (f_resultEnd := f_resultEnd) (f_resultNotes := f_resultNotes) (a_tokenKind := a_tokenKind) (a_tokenValue := a_tokenValue) (a_text := a_text) (a_pieceKind := a_pieceKind) (a_pieceValue := a_pieceValue) (a_pieceNext := a_pieceNext) (a_pieceSecond := a_pieceSecond) (a_levelGroup := a_levelGroup) (a_levelStart := a_levelStart) (a_levelEntry := a_levelEntry) (a_branchStart := a_branchStart) (a_branchEntry := a_branchEntry) (a_placesSeen := a_placesSeen) (a_choicePiece := a_choicePiece) (a_choicePlace := a_choicePlace) (a_choiceNotes := a_choiceNotes) HK has
  have hlv := HK.1
  have hpc := HK.2.1
  have hen := HK.2.2.1
  obtain ⟨hszb, hsz, hsz2, hop⟩ := cq_szb HK
  have egb : cp_gb (g + 1) = 1 := if_pos (by omega)
  left
  have hX : ∀ (post : SX → Prop) (n : Nat), wX_buildPattern_32 post n (nI (i + 1)) (nI c) f_faultPlace f_length (nI pc) f_patternEntry f_hasPattern 0 (nI (lv + 1)) (nI (g + 1)) f_atomStart ((-1)) f_choices f_wayPiece f_wayPlace f_wayNotes f_hasResult f_resultStart f_resultEnd f_resultNotes a_tokenKind a_tokenValue a_text a_pieceKind a_pieceValue N' S' (upd a_levelGroup (lv + 1) (nI (g + 1))) (upd a_levelStart (lv + 1) (nI pc)) (upd a_levelEntry (lv + 1) (-2)) (upd a_branchStart (lv + 1) (nI pc)) (upd be' (lv + 1) (-1)) a_placesSeen a_choicePiece a_choicePlace a_choiceNotes → wX_buildPattern_32 post (n + 1) (nI i) (nI c) f_faultPlace f_length (nI pc) f_patternEntry f_hasPattern 0 (nI lv) (nI g) f_atomStart f_atomEntry f_choices f_wayPiece f_wayPlace f_wayNotes f_hasResult f_resultStart f_resultEnd f_resultNotes a_tokenKind a_tokenValue a_text a_pieceKind a_pieceValue a_pieceNext a_pieceSecond a_levelGroup a_levelStart a_levelEntry a_branchStart a_branchEntry a_placesSeen a_choicePiece a_choicePlace a_choiceNotes := by
    intro post n h
    exact xl_tok (F := fun u => u = (nI c, f_faultPlace, f_length, nI pc, f_patternEntry, f_hasPattern, 0, nI (lv + 1), nI (g + 1), f_atomStart, (-1), f_choices, f_wayPiece, f_wayPlace, f_wayNotes, f_hasResult, f_resultStart, f_resultEnd, f_resultNotes, a_tokenKind, a_tokenValue, a_text, a_pieceKind, a_pieceValue, N', S', upd a_levelGroup (lv + 1) (nI (g + 1)), upd a_levelStart (lv + 1) (nI pc), upd a_levelEntry (lv + 1) (-2), upd a_branchStart (lv + 1) (nI pc), upd be' (lv + 1) (-1), a_placesSeen, a_choicePiece, a_choicePlace, a_choiceNotes)) hc hi (by omega) rfl hK rfl J2 (fun post' h' => xt_open3 (by omega) (h' _ rfl)) (fun u hu => by rw [hu]; exact h)
  by_cases hs : sz + 2 ≤ 36
  · have hen2 := hsz2 (by omega)
    have Q := cq_open (m' := fg_q (upd b_op en 5) (upd b_with en (nI (2 * (g + 1)))) (upd b_one en 1) (upd b_two en 0)) (g := g + 1) (en' := en + 1) (brn' := upd b_branch (lv + 1) (nI (en + 1))) J1 hl hg cq_us cq_us (by omega) (fun d hd => rl_un (by omega)) (fun _ => ⟨by rw [egb], rl_us, fun j hj => fg_q_un (by omega), fun _ => by rw [fg_q_us]; exact ⟨rfl, rfl, rfl⟩⟩)
    rw [egb] at Q
    refine ⟨lv + 1, pc, en + 1, sz + 2 * 1, _, _, _, _, _, _, f_atomStart, -1, -1, g_atomSize, _, _, _, _, _, _, _, _, _, upd b_op en 5, upd b_with en (nI (2 * (g + 1))), upd b_one en 1, upd b_two en 0, b_copyOp, b_copyWith, b_copyOne, b_copyTwo, _, _, _, _, _, rfl, ⟨Q, Or.inl rfl, (fun h => by cases h), fun _ => rfl, rl_Bu B1 (cy_Bn (n := 5) (by omega)), rl_Bu B2 (cy_Bn (by omega)), rl_Su S1 (cy_Sn (n := 1) (by omega)), rl_Su S2 (cy_Sn (n := 0) (by omega))⟩, hX, fun post h => ?_⟩
    rw [cq_la0 hs] at h
    exact ya_open3 (g := g) (F := fun u => u = (g_count, g_place, nI (en + 1), nI (sz + 2), 0, g_ready, nI (lv + 1 + 1), nI (g + 1), (-1), g_atomSize, g_length, g_found, b_kind, b_value, upd b_op en 5, upd b_with en (nI (2 * (g + 1))), upd b_one en 1, upd b_two en 0, b_copyOp, b_copyWith, b_copyOne, b_copyTwo, upd b_opened (lv + 1) (nI en), upd b_branch (lv + 1) (nI (en + 1)), upd b_sizes (lv + 1) (nI sz), upd b_jumps (lv + 1) (-1), upd b_groupOf (lv + 1) (nI (g + 1)), b_text, b_met, b_todo, b_notes)) (by omega) (by omega) (fun post' h' => cy_openC (by omega) (by omega) (by omega) hg hs (h' _ rfl)) (fun u hu => by rw [hu]; exact h)
  · have Q := cq_open (m' := fg_q b_op b_with b_one b_two) (g := g + 1) (en' := en) (brn' := upd b_branch (lv + 1) (nI en)) J1 hl hg cq_us cq_us (by omega) (fun d hd => rl_un (by omega)) (fun h => absurd h (by rw [egb]; omega))
    rw [egb] at Q
    refine ⟨lv + 1, pc, en, sz + 2 * 1, _, _, _, _, _, _, f_atomStart, -1, -1, g_atomSize, _, _, _, _, _, _, _, _, _, b_op, b_with, b_one, b_two, b_copyOp, b_copyWith, b_copyOne, b_copyTwo, _, _, _, _, _, rfl, ⟨Q, Or.inl rfl, (fun h => by cases h), fun _ => rfl, B1, B2, S1, S2⟩, hX, fun post h => ?_⟩
    rw [cq_la1 (show 36 < sz + 2 * 1 by omega)] at h
    exact ya_open3 (g := g) (F := fun u => u = (g_count, g_place, nI en, nI (sz + 2), 1, g_ready, nI (lv + 1 + 1), nI (g + 1), (-1), g_atomSize, g_length, g_found, b_kind, b_value, b_op, b_with, b_one, b_two, b_copyOp, b_copyWith, b_copyOne, b_copyTwo, upd b_opened (lv + 1) (nI en), upd b_branch (lv + 1) (nI en), upd b_sizes (lv + 1) (nI sz), upd b_jumps (lv + 1) (-1), upd b_groupOf (lv + 1) (nI (g + 1)), b_text, b_met, b_todo, b_notes)) (by omega) (by omega) (fun post' h' => cy_openL (by omega) (by omega) (by omega) hg (by omega) (by omega) (h' _ rfl)) (fun u hu => by rw [hu]; exact h)
theorem tk_open4 (hc : c ≤ 24) (hi : i < c) (hK : a_tokenKind i = nI 4) (hl : lv + 1 ≤ 24)
    (H : cq_A b lv pc en sz gg lsN bsN od br J f_atomStart f_atomEntry g_atom g_atomSize a_pieceKind a_pieceValue a_pieceNext a_pieceSecond a_levelGroup a_levelStart a_levelEntry a_branchStart a_branchEntry b_op b_with b_one b_two b_opened b_branch b_sizes b_jumps b_groupOf) :
    tk_C (nI c) f_faultPlace f_length (nI pc) f_patternEntry f_hasPattern 0 (nI lv) (nI g) f_atomStart f_atomEntry f_choices f_wayPiece f_wayPlace f_wayNotes f_hasResult f_resultStart f_resultEnd f_resultNotes a_tokenKind a_tokenValue a_text a_pieceKind a_pieceValue a_pieceNext a_pieceSecond a_levelGroup a_levelStart a_levelEntry a_branchStart a_branchEntry a_placesSeen a_choicePiece a_choicePlace a_choiceNotes g_count g_place (nI en) (nI sz) (cq_la sz) g_ready (nI (lv + 1)) (nI g) g_atom g_atomSize g_length g_found b_kind b_value b_op b_with b_one b_two b_copyOp b_copyWith b_copyOne b_copyTwo b_opened b_branch b_sizes b_jumps b_groupOf b_text b_met b_todo b_notes i 4 w (lv + 1, g, false) := by
  obtain ⟨HK, has, hb1, hb0, B1, B2, S1, S2⟩ := H
  obtain ⟨N', S', be', J1, J2⟩ := tk_join (f_tokens := nI c) (f_faultPlace := f_faultPlace) (f_length := f_length) (f_pieces := nI pc) (f_patternEntry := f_patternEntry) (f_hasPattern := f_hasPattern) (f_tooLarge := 0) (f_groups := nI g) (f_atomStart := f_atomStart) (f_atomEntry := f_atomEntry) (f_choices := f_choices) (f_wayPiece := f_wayPiece) (f_wayPlace := f_wayPlace) (f_wayNotes := f_wayNotes) (f_hasResult := f_hasResult) (f_resultStart := f_resultStart) (f_resultEnd := f_resultEnd) (f_resultNotes := f_resultNotes) (a_tokenKind := a_tokenKind) (a_tokenValue := a_tokenValue) (a_text := a_text) (a_pieceKind := a_pieceKind) (a_pieceValue := a_pieceValue) (a_pieceNext := a_pieceNext) (a_pieceSecond := a_pieceSecond) (a_levelGroup := a_levelGroup) (a_levelStart := a_levelStart) (a_levelEntry := a_levelEntry) (a_branchStart := a_branchStart) (a_branchEntry := a_branchEntry) (a_placesSeen := a_placesSeen) (a_choicePiece := a_choicePiece) (a_choicePlace := a_choicePlace) (a_choiceNotes := a_choiceNotes) HK has
  have hlv := HK.1
  have hpc := HK.2.1
  have hen := HK.2.2.1
  obtain ⟨hszb, hsz, hsz2, hop⟩ := cq_szb HK
  have egb : cp_gb 0 = 0 := rfl
  left
  have hX : ∀ (post : SX → Prop) (n : Nat), wX_buildPattern_32 post n (nI (i + 1)) (nI c) f_faultPlace f_length (nI pc) f_patternEntry f_hasPattern 0 (nI (lv + 1)) (nI g) f_atomStart ((-1)) f_choices f_wayPiece f_wayPlace f_wayNotes f_hasResult f_resultStart f_resultEnd f_resultNotes a_tokenKind a_tokenValue a_text a_pieceKind a_pieceValue N' S' (upd a_levelGroup (lv + 1) (nI 0)) (upd a_levelStart (lv + 1) (nI pc)) (upd a_levelEntry (lv + 1) (-2)) (upd a_branchStart (lv + 1) (nI pc)) (upd be' (lv + 1) (-1)) a_placesSeen a_choicePiece a_choicePlace a_choiceNotes → wX_buildPattern_32 post (n + 1) (nI i) (nI c) f_faultPlace f_length (nI pc) f_patternEntry f_hasPattern 0 (nI lv) (nI g) f_atomStart f_atomEntry f_choices f_wayPiece f_wayPlace f_wayNotes f_hasResult f_resultStart f_resultEnd f_resultNotes a_tokenKind a_tokenValue a_text a_pieceKind a_pieceValue a_pieceNext a_pieceSecond a_levelGroup a_levelStart a_levelEntry a_branchStart a_branchEntry a_placesSeen a_choicePiece a_choicePlace a_choiceNotes := by
    intro post n h
    exact xl_tok (F := fun u => u = (nI c, f_faultPlace, f_length, nI pc, f_patternEntry, f_hasPattern, 0, nI (lv + 1), nI g, f_atomStart, (-1), f_choices, f_wayPiece, f_wayPlace, f_wayNotes, f_hasResult, f_resultStart, f_resultEnd, f_resultNotes, a_tokenKind, a_tokenValue, a_text, a_pieceKind, a_pieceValue, N', S', upd a_levelGroup (lv + 1) (nI 0), upd a_levelStart (lv + 1) (nI pc), upd a_levelEntry (lv + 1) (-2), upd a_branchStart (lv + 1) (nI pc), upd be' (lv + 1) (-1), a_placesSeen, a_choicePiece, a_choicePlace, a_choiceNotes)) hc hi (by omega) rfl hK rfl J2 (fun post' h' => xt_open4 (by omega) (h' _ rfl)) (fun u hu => by rw [hu]; exact h)
  have Q := cq_open (m' := fg_q b_op b_with b_one b_two) (g := 0) (en' := en) (brn' := upd b_branch (lv + 1) (nI en)) J1 hl (by omega) cq_us cq_us (by omega) (fun d hd => rl_un (by omega)) (fun h => ⟨rfl, rl_us, fun _ _ => rfl, fun h => by omega⟩)
  rw [egb, Nat.mul_zero, Nat.add_zero] at Q
  refine ⟨lv + 1, pc, en, sz, _, _, _, _, _, _, f_atomStart, -1, -1, g_atomSize, _, _, _, _, _, _, _, _, _, b_op, b_with, b_one, b_two, b_copyOp, b_copyWith, b_copyOne, b_copyTwo, _, _, _, _, _, rfl, ⟨Q, Or.inl rfl, (fun h => by cases h), fun _ => rfl, B1, B2, S1, S2⟩, hX, fun post h => ?_⟩
  exact ya_open4 (F := fun u => u = (g_count, g_place, nI en, nI sz, cq_la sz, g_ready, nI (lv + 1 + 1), nI g, (-1), g_atomSize, g_length, g_found, b_kind, b_value, b_op, b_with, b_one, b_two, b_copyOp, b_copyWith, b_copyOne, b_copyTwo, upd b_opened (lv + 1) (nI en), upd b_branch (lv + 1) (nI en), upd b_sizes (lv + 1) (nI sz), upd b_jumps (lv + 1) (-1), upd b_groupOf (lv + 1) (nI 0), b_text, b_met, b_todo, b_notes)) (fun post' h' => cy_open0 (by omega) (by omega) (by rw [cy_nS (cy_Sn (show sz < 32768 by omega))]; exact h' _ rfl)) (fun u hu => by rw [hu]; exact h)
theorem tk_bar (hc : c ≤ 24) (hi : i < c) (hK : a_tokenKind i = nI 6)
    (H : cq_A b lv pc en sz gg lsN bsN od br J f_atomStart f_atomEntry g_atom g_atomSize a_pieceKind a_pieceValue a_pieceNext a_pieceSecond a_levelGroup a_levelStart a_levelEntry a_branchStart a_branchEntry b_op b_with b_one b_two b_opened b_branch b_sizes b_jumps b_groupOf) :
    tk_C (nI c) f_faultPlace f_length (nI pc) f_patternEntry f_hasPattern 0 (nI lv) (nI g) f_atomStart f_atomEntry f_choices f_wayPiece f_wayPlace f_wayNotes f_hasResult f_resultStart f_resultEnd f_resultNotes a_tokenKind a_tokenValue a_text a_pieceKind a_pieceValue a_pieceNext a_pieceSecond a_levelGroup a_levelStart a_levelEntry a_branchStart a_branchEntry a_placesSeen a_choicePiece a_choicePlace a_choiceNotes g_count g_place (nI en) (nI sz) (cq_la sz) g_ready (nI (lv + 1)) (nI g) g_atom g_atomSize g_length g_found b_kind b_value b_op b_with b_one b_two b_copyOp b_copyWith b_copyOne b_copyTwo b_opened b_branch b_sizes b_jumps b_groupOf b_text b_met b_todo b_notes i 6 w (lv, g, false) := by
  obtain ⟨HK, has, hb1, hb0, B1, B2, S1, S2⟩ := H
  obtain ⟨N', S', be', J1, J2⟩ := tk_join (f_tokens := nI c) (f_faultPlace := f_faultPlace) (f_length := f_length) (f_pieces := nI pc) (f_patternEntry := f_patternEntry) (f_hasPattern := f_hasPattern) (f_tooLarge := 0) (f_groups := nI g) (f_atomStart := f_atomStart) (f_atomEntry := f_atomEntry) (f_choices := f_choices) (f_wayPiece := f_wayPiece) (f_wayPlace := f_wayPlace) (f_wayNotes := f_wayNotes) (f_hasResult := f_hasResult) (f_resultStart := f_resultStart) (f_resultEnd := f_resultEnd) (f_resultNotes := f_resultNotes) (a_tokenKind := a_tokenKind) (a_tokenValue := a_tokenValue) (a_text := a_text) (a_pieceKind := a_pieceKind) (a_pieceValue := a_pieceValue) (a_pieceNext := a_pieceNext) (a_pieceSecond := a_pieceSecond) (a_levelGroup := a_levelGroup) (a_levelStart := a_levelStart) (a_levelEntry := a_levelEntry) (a_branchStart := a_branchStart) (a_branchEntry := a_branchEntry) (a_placesSeen := a_placesSeen) (a_choicePiece := a_choicePiece) (a_choicePlace := a_choicePlace) (a_choiceNotes := a_choiceNotes) HK has
  have hlv := HK.1
  have hpc := HK.2.1
  have hen := HK.2.2.1
  obtain ⟨hszb, hsz, hsz2, hop⟩ := cq_szb HK
  by_cases hok : a_levelEntry lv = -2 ∨ pc < 36
  · left
    obtain ⟨pc1, K, V, N, S, e1, f1, f2, f3⟩ := cx_endOK (f_tokens := nI c) (f_faultPlace := f_faultPlace) (f_length := f_length) (f_patternEntry := f_patternEntry) (f_hasPattern := f_hasPattern) (f_tooLarge := 0) (f_groups := nI g) (f_atomStart := f_atomStart) (f_atomEntry := (-1)) (f_choices := f_choices) (f_wayPiece := f_wayPiece) (f_wayPlace := f_wayPlace) (f_wayNotes := f_wayNotes) (f_hasResult := f_hasResult) (f_resultStart := f_resultStart) (f_resultEnd := f_resultEnd) (f_resultNotes := f_resultNotes) (a_tokenKind := a_tokenKind) (a_tokenValue := a_tokenValue) (a_text := a_text) (a_pieceKind := a_pieceKind) (a_pieceValue := a_pieceValue) (a_pieceNext := N') (a_pieceSecond := S') (a_levelGroup := a_levelGroup) (a_levelStart := a_levelStart) (a_levelEntry := a_levelEntry) (a_branchStart := a_branchStart) (a_branchEntry := be') (a_placesSeen := a_placesSeen) (a_choicePiece := a_choicePiece) (a_choicePlace := a_choicePlace) (a_choiceNotes := a_choiceNotes) (lv := lv) (pc := pc) (by omega) hok
    have hpc1 : pc1 ≤ 36 := by
      rcases f1 with ⟨_, _, q⟩ | ⟨q1, _, q, _⟩
      · omega
      · have := hok.resolve_left q1; omega
    have hX : ∀ (post : SX → Prop) (n : Nat), wX_buildPattern_32 post n (nI (i + 1)) (nI c) f_faultPlace f_length (nI pc1) f_patternEntry f_hasPattern 0 (nI lv) (nI g) f_atomStart ((-1)) f_choices f_wayPiece f_wayPlace f_wayNotes f_hasResult f_resultStart f_resultEnd f_resultNotes a_tokenKind a_tokenValue a_text K V N S a_levelGroup a_levelStart (upd a_levelEntry lv e1) (upd a_branchStart lv (nI pc1)) (upd be' lv (-1)) a_placesSeen a_choicePiece a_choicePlace a_choiceNotes → wX_buildPattern_32 post (n + 1) (nI i) (nI c) f_faultPlace f_length (nI pc) f_patternEntry f_hasPattern 0 (nI lv) (nI g) f_atomStart f_atomEntry f_choices f_wayPiece f_wayPlace f_wayNotes f_hasResult f_resultStart f_resultEnd f_resultNotes a_tokenKind a_tokenValue a_text a_pieceKind a_pieceValue a_pieceNext a_pieceSecond a_levelGroup a_levelStart a_levelEntry a_branchStart a_branchEntry a_placesSeen a_choicePiece a_choicePlace a_choiceNotes := by
      intro post n h
      exact xl_tok (F := fun u => u = (nI c, f_faultPlace, f_length, nI pc1, f_patternEntry, f_hasPattern, 0, nI lv, nI g, f_atomStart, (-1), f_choices, f_wayPiece, f_wayPlace, f_wayNotes, f_hasResult, f_resultStart, f_resultEnd, f_resultNotes, a_tokenKind, a_tokenValue, a_text, K, V, N, S, a_levelGroup, a_levelStart, upd a_levelEntry lv e1, upd a_branchStart lv (nI pc1), upd be' lv (-1), a_placesSeen, a_choicePiece, a_choicePlace, a_choiceNotes)) hc hi (by omega) rfl hK rfl J2 (fun post' h' => xt_bar (F := fun u => u = (nI c, f_faultPlace, f_length, nI pc1, f_patternEntry, f_hasPattern, 0, nI lv, nI g, f_atomStart, (-1), f_choices, f_wayPiece, f_wayPlace, f_wayNotes, f_hasResult, f_resultStart, f_resultEnd, f_resultNotes, a_tokenKind, a_tokenValue, a_text, K, V, N, S, a_levelGroup, a_levelStart, upd a_levelEntry lv e1, upd a_branchStart lv (nI pc1), upd be' lv (-1), a_placesSeen, a_choicePiece, a_choicePlace, a_choiceNotes)) (fun post2 h2 => f3 post2 (h2 _ rfl)) h') (fun u hu => by rw [hu]; exact h)
    by_cases hs : sz + 1 ≤ 36
    · have hen2 := hsz2 (by omega)
      obtain ⟨c1, c2⟩ := J1.2.2.2.2.2.2.2.2.2.2.2.2 (by omega)
      obtain ⟨d1, d2⟩ := c1 lv (Nat.le_refl _)
      rw [cq_us, cq_us] at d2
      obtain ⟨b1', b2', _⟩ := cp_L_le d2
      have hjS := cp_L_S d2 (by omega)
      have hm1 : ∀ j, j < br lv → fg_q (upd (upd (cy_sh b_op (br lv) en) (br lv) 3) (en + 1) 4) (upd (cy_sh b_with (br lv) en) (en + 1) 0) (upd (upd (cy_sh b_one (br lv) en) (br lv) 1) (en + 1) (b_jumps lv)) (upd (upd (cy_sh b_two (br lv) en) (br lv) (nI (en + 2 - br lv))) (en + 1) 0) j = fg_q b_op b_with b_one b_two j := by
        intro j hj
        unfold fg_q
        rw [rl_un (by omega), rl_un (by omega), rl_un (by omega), rl_un (by omega), rl_un (by omega), rl_un (by omega), rl_un (by omega), cy_sh_lo (by omega), cy_sh_lo (by omega), cy_sh_lo (by omega), cy_sh_lo (by omega)]
      have hm2 : ∀ j, br lv ≤ j → j < en → fg_q (upd (upd (cy_sh b_op (br lv) en) (br lv) 3) (en + 1) 4) (upd (cy_sh b_with (br lv) en) (en + 1) 0) (upd (upd (cy_sh b_one (br lv) en) (br lv) 1) (en + 1) (b_jumps lv)) (upd (upd (cy_sh b_two (br lv) en) (br lv) (nI (en + 2 - br lv))) (en + 1) 0) (j + 1) = fg_q b_op b_with b_one b_two j := by
        intro j j1 j2
        unfold fg_q
        rw [rl_un (by omega), rl_un (by omega), rl_un (by omega), rl_un (by omega), rl_un (by omega), rl_un (by omega), rl_un (by omega), cy_sh_hi j1 j2, cy_sh_hi j1 j2, cy_sh_hi j1 j2, cy_sh_hi j1 j2]
      have hm3 : (fg_q (upd (upd (cy_sh b_op (br lv) en) (br lv) 3) (en + 1) 4) (upd (cy_sh b_with (br lv) en) (en + 1) 0) (upd (upd (cy_sh b_one (br lv) en) (br lv) 1) (en + 1) (b_jumps lv)) (upd (upd (cy_sh b_two (br lv) en) (br lv) (nI (en + 2 - br lv))) (en + 1) 0) (br lv)).1 = 3 := by
        show upd (upd (cy_sh b_op (br lv) en) (br lv) 3) (en + 1) 4 (br lv) = 3
        rw [rl_un (by omega), rl_us]
      have hm4 : nI (br lv) + (fg_q (upd (upd (cy_sh b_op (br lv) en) (br lv) 3) (en + 1) 4) (upd (cy_sh b_with (br lv) en) (en + 1) 0) (upd (upd (cy_sh b_one (br lv) en) (br lv) 1) (en + 1) (b_jumps lv)) (upd (upd (cy_sh b_two (br lv) en) (br lv) (nI (en + 2 - br lv))) (en + 1) 0) (br lv)).2.2.1 = nI (br lv + 1) := by
        show nI (br lv) + upd (upd (cy_sh b_one (br lv) en) (br lv) 1) (en + 1) (b_jumps lv) (br lv) = _
        rw [rl_un (by omega), rl_us, nI_1]
      have hm5 : nI (br lv) + (fg_q (upd (upd (cy_sh b_op (br lv) en) (br lv) 3) (en + 1) 4) (upd (cy_sh b_with (br lv) en) (en + 1) 0) (upd (upd (cy_sh b_one (br lv) en) (br lv) 1) (en + 1) (b_jumps lv)) (upd (upd (cy_sh b_two (br lv) en) (br lv) (nI (en + 2 - br lv))) (en + 1) 0) (br lv)).2.2.2 = nI (en + 2) := by
        show nI (br lv) + upd (upd (cy_sh b_two (br lv) en) (br lv) (nI (en + 2 - br lv))) (en + 1) 0 (br lv) = _
        rw [rl_un (by omega), rl_us, nI_add]
        congr 1; omega
      have hm6 : (fg_q (upd (upd (cy_sh b_op (br lv) en) (br lv) 3) (en + 1) 4) (upd (cy_sh b_with (br lv) en) (en + 1) 0) (upd (upd (cy_sh b_one (br lv) en) (br lv) 1) (en + 1) (b_jumps lv)) (upd (upd (cy_sh b_two (br lv) en) (br lv) (nI (en + 2 - br lv))) (en + 1) 0) (en + 1)).1 = 4 := by
        show upd _ (en + 1) 4 (en + 1) = 4
        rw [rl_us]
      have hm7 : (fg_q (upd (upd (cy_sh b_op (br lv) en) (br lv) 3) (en + 1) 4) (upd (cy_sh b_with (br lv) en) (en + 1) 0) (upd (upd (cy_sh b_one (br lv) en) (br lv) 1) (en + 1) (b_jumps lv)) (upd (upd (cy_sh b_two (br lv) en) (br lv) (nI (en + 2 - br lv))) (en + 1) 0) (en + 1)).2.2.1 = b_jumps lv := by
        show upd _ (en + 1) (b_jumps lv) (en + 1) = b_jumps lv
        rw [rl_us]
      obtain ⟨J', Q⟩ := cq_bar (m' := fg_q (upd (upd (cy_sh b_op (br lv) en) (br lv) 3) (en + 1) 4) (upd (cy_sh b_with (br lv) en) (en + 1) 0) (upd (upd (cy_sh b_one (br lv) en) (br lv) 1) (en + 1) (b_jumps lv)) (upd (upd (cy_sh b_two (br lv) en) (br lv) (nI (en + 2 - br lv))) (en + 1) 0)) (en' := en + 2) (brn' := upd b_branch lv (nI (en + 2))) (jmp' := upd b_jumps lv (nI (en + 1))) J1 cq_us cq_us (by omega) hpc1 f1 f2 (fun d hd => ⟨rl_un (by omega), rl_un (by omega)⟩) (fun _ => ⟨rfl, rl_us, rl_us, hm1, hm2, hm3, hm4, hm5, hm6, hm7⟩)
      refine ⟨lv, pc1, en + 2, sz + 1, _, _, _, _, _, J', f_atomStart, -1, -1, g_atomSize, K, V, N, S, _, _, _, _, _, upd (upd (cy_sh b_op (br lv) en) (br lv) 3) (en + 1) 4, upd (cy_sh b_with (br lv) en) (en + 1) 0, upd (upd (cy_sh b_one (br lv) en) (br lv) 1) (en + 1) (b_jumps lv), upd (upd (cy_sh b_two (br lv) en) (br lv) (nI (en + 2 - br lv))) (en + 1) 0, b_copyOp, b_copyWith, b_copyOne, b_copyTwo, _, _, _, _, _, rfl, ⟨Q, Or.inl rfl, (fun h => by cases h), fun _ => rfl, rl_Bu (rl_Bu (cy_sh_B B1) (cy_Bn (n := 3) (by omega))) (cy_Bn (n := 4) (by omega)), rl_Bu (cy_sh_B B2) (cy_Bn (n := 0) (by omega)), rl_Su (rl_Su (cy_sh_S S1) (cy_Sn (n := 1) (by omega))) hjS, rl_Su (rl_Su (cy_sh_S S2) (cy_Sn (by omega))) (cy_Sn (n := 0) (by omega))⟩, hX, fun post h => ?_⟩
      rw [cq_la0 hs] at h
      exact ya_bar (F := fun u => u = (g_count, g_place, nI (en + 2), nI (sz + 1), 0, g_ready, nI (lv + 1), nI g, (-1), g_atomSize, g_length, g_found, b_kind, b_value, upd (upd (cy_sh b_op (br lv) en) (br lv) 3) (en + 1) 4, upd (cy_sh b_with (br lv) en) (en + 1) 0, upd (upd (cy_sh b_one (br lv) en) (br lv) 1) (en + 1) (b_jumps lv), upd (upd (cy_sh b_two (br lv) en) (br lv) (nI (en + 2 - br lv))) (en + 1) 0, b_copyOp, b_copyWith, b_copyOne, b_copyTwo, b_opened, upd b_branch lv (nI (en + 2)), b_sizes, upd b_jumps lv (nI (en + 1)), b_groupOf, b_text, b_met, b_todo, b_notes)) (fun post' h' => cy_altC (by omega) (by omega) b2' hs d1 rfl hjS B1 B2 S1 S2 (h' _ rfl)) (fun u hu => by rw [hu]; exact h)
    · obtain ⟨J', Q⟩ := cq_bar (m' := fg_q b_op b_with b_one b_two) (en' := en) (brn' := b_branch) (jmp' := b_jumps) J1 cq_us cq_us (by omega) hpc1 f1 f2 (fun d hd => ⟨rfl, rfl⟩) (fun h => absurd h hs)
      refine ⟨lv, pc1, en, sz + 1, _, _, _, _, _, J', f_atomStart, -1, -1, g_atomSize, K, V, N, S, _, _, _, _, _, b_op, b_with, b_one, b_two, b_copyOp, b_copyWith, b_copyOne, b_copyTwo, _, _, _, _, _, rfl, ⟨Q, Or.inl rfl, (fun h => by cases h), fun _ => rfl, B1, B2, S1, S2⟩, hX, fun post h => ?_⟩
      rw [cq_la1 (show 36 < sz + 1 by omega)] at h
      exact ya_bar (F := fun u => u = (g_count, g_place, nI en, nI (sz + 1), 1, g_ready, nI (lv + 1), nI g, (-1), g_atomSize, g_length, g_found, b_kind, b_value, b_op, b_with, b_one, b_two, b_copyOp, b_copyWith, b_copyOne, b_copyTwo, b_opened, b_branch, b_sizes, b_jumps, b_groupOf, b_text, b_met, b_todo, b_notes)) (fun post' h' => cy_altL (by omega) (by omega) (h' _ rfl)) (fun u hu => by rw [hu]; exact h)
  · right
    have hne : ¬ a_levelEntry lv = -2 := fun e => hok (Or.inl e)
    obtain rfl : pc = 36 := by omega
    refine ⟨fun post n h => ?_, ?_⟩
    · refine xl_tok (F := fun u => u = (nI c, f_faultPlace, f_length, nI 36, f_patternEntry, f_hasPattern, 1, nI lv, nI g, f_atomStart, (-1), f_choices, f_wayPiece, f_wayPlace, f_wayNotes, f_hasResult, f_resultStart, f_resultEnd, f_resultNotes, a_tokenKind, a_tokenValue, a_text, a_pieceKind, a_pieceValue, N', S', a_levelGroup, a_levelStart, upd a_levelEntry lv (-1), upd a_branchStart lv (nI 36), upd be' lv (-1), a_placesSeen, a_choicePiece, a_choicePlace, a_choiceNotes)) hc hi (by omega) rfl hK rfl J2 (fun post' h' => xt_bar (F := fun u => u = (nI c, f_faultPlace, f_length, nI 36, f_patternEntry, f_hasPattern, 1, nI lv, nI g, f_atomStart, (-1), f_choices, f_wayPiece, f_wayPlace, f_wayNotes, f_hasResult, f_resultStart, f_resultEnd, f_resultNotes, a_tokenKind, a_tokenValue, a_text, a_pieceKind, a_pieceValue, N', S', a_levelGroup, a_levelStart, upd a_levelEntry lv (-1), upd a_branchStart lv (nI 36), upd be' lv (-1), a_placesSeen, a_choicePiece, a_choicePlace, a_choiceNotes)) (fun post2 h2 => cx_end3 (by omega) hne (h2 _ rfl)) h') (fun u hu => ?_)
      rw [hu]
      exact xl_done (by omega) hc (by omega) (by omega) (Or.inl rfl) h
    · refine ⟨nI (sz + 1), nI (lv + 1), nI g, -1, g_atomSize, b_opened, b_branch, b_sizes, b_jumps, b_groupOf, ⟨rfl, rfl, rfl, ⟨en, by omega, rfl⟩, (fun h => by cases h), fun _ => rfl, hop⟩, fun post h => ?_⟩
      exact ya_bar (F := fun u => u = (g_count, g_place, nI en, nI (sz + 1), 1, g_ready, nI (lv + 1), nI g, (-1), g_atomSize, g_length, g_found, b_kind, b_value, b_op, b_with, b_one, b_two, b_copyOp, b_copyWith, b_copyOne, b_copyTwo, b_opened, b_branch, b_sizes, b_jumps, b_groupOf, b_text, b_met, b_todo, b_notes)) (fun post' h' => cy_altL (by omega) (by omega) (h' _ rfl)) (fun u hu => by rw [hu]; exact h)
end TM
end
section
section TN
variable {f_tokens f_faultPlace f_length f_pieces f_patternEntry f_hasPattern f_tooLarge f_level f_groups f_atomStart f_atomEntry f_choices f_wayPiece f_wayPlace : Int32} {f_wayNotes : Int64} {f_hasResult f_resultStart f_resultEnd : Int32} {f_resultNotes : Int64} {a_tokenKind a_tokenValue a_text a_pieceKind a_pieceValue a_pieceNext a_pieceSecond a_levelGroup a_levelStart a_levelEntry a_branchStart a_branchEntry : Nat → Int32} {a_placesSeen : Nat → Int64} {a_choicePiece a_choicePlace : Nat → Int32} {a_choiceNotes : Nat → Int64}
variable {g_count g_place g_end g_size g_large g_ready g_depth g_groups g_atom g_atomSize g_length g_found : Int32} {b_kind b_value b_op b_with b_one b_two b_copyOp b_copyWith b_copyOne b_copyTwo b_opened b_branch b_sizes b_jumps b_groupOf b_text : Nat → Int32} {b_met : Nat → Int64} {b_todo b_notes : Nat → Int32}
variable {pc en sz g c i l : Nat} {gg lsN bsN od br : Nat → Nat} {J : Nat → List Nat} {b : Bool} {w : Int32}
theorem tk_close (hc : c ≤ 24) (hi : i < c) (hK : a_tokenKind i = nI 5)
    (H : cq_A b (l + 1) pc en sz gg lsN bsN od br J f_atomStart f_atomEntry g_atom g_atomSize a_pieceKind a_pieceValue a_pieceNext a_pieceSecond a_levelGroup a_levelStart a_levelEntry a_branchStart a_branchEntry b_op b_with b_one b_two b_opened b_branch b_sizes b_jumps b_groupOf) :
    tk_C (nI c) f_faultPlace f_length (nI pc) f_patternEntry f_hasPattern 0 (nI (l + 1)) (nI g) f_atomStart f_atomEntry f_choices f_wayPiece f_wayPlace f_wayNotes f_hasResult f_resultStart f_resultEnd f_resultNotes a_tokenKind a_tokenValue a_text a_pieceKind a_pieceValue a_pieceNext a_pieceSecond a_levelGroup a_levelStart a_levelEntry a_branchStart a_branchEntry a_placesSeen a_choicePiece a_choicePlace a_choiceNotes g_count g_place (nI en) (nI sz) (cq_la sz) g_ready (nI (l + 1 + 1)) (nI g) g_atom g_atomSize g_length g_found b_kind b_value b_op b_with b_one b_two b_copyOp b_copyWith b_copyOne b_copyTwo b_opened b_branch b_sizes b_jumps b_groupOf b_text b_met b_todo b_notes i 5 w (l, g, true) := by
  obtain ⟨HK, has, hb1, hb0, B1, B2, S1, S2⟩ := H
  obtain ⟨N', S', be', J1, J2⟩ := tk_join (f_tokens := nI c) (f_faultPlace := f_faultPlace) (f_length := f_length) (f_pieces := nI pc) (f_patternEntry := f_patternEntry) (f_hasPattern := f_hasPattern) (f_tooLarge := 0) (f_groups := nI g) (f_atomStart := f_atomStart) (f_atomEntry := f_atomEntry) (f_choices := f_choices) (f_wayPiece := f_wayPiece) (f_wayPlace := f_wayPlace) (f_wayNotes := f_wayNotes) (f_hasResult := f_hasResult) (f_resultStart := f_resultStart) (f_resultEnd := f_resultEnd) (f_resultNotes := f_resultNotes) (a_tokenKind := a_tokenKind) (a_tokenValue := a_tokenValue) (a_text := a_text) (a_pieceKind := a_pieceKind) (a_pieceValue := a_pieceValue) (a_pieceNext := a_pieceNext) (a_pieceSecond := a_pieceSecond) (a_levelGroup := a_levelGroup) (a_levelStart := a_levelStart) (a_levelEntry := a_levelEntry) (a_branchStart := a_branchStart) (a_branchEntry := a_branchEntry) (a_placesSeen := a_placesSeen) (a_choicePiece := a_choicePiece) (a_choicePlace := a_choicePlace) (a_choiceNotes := a_choiceNotes) HK has
  have hlv := HK.1
  have hpc := HK.2.1
  have hen := HK.2.2.1
  obtain ⟨hszb, hsz, hsz2, hop⟩ := cq_szb HK
  have k9 : sz = pc + (cp_sum gg a_levelEntry (l + 1) + cp_lag (gg (l + 1)) (a_levelEntry (l + 1))) := HK.2.2.2.2.2.2.2.2.1
  have hls0 : cq_u lsN (l + 1 + 1) pc (l + 2) = pc := cq_us
  have hod0 : cq_u od (l + 1 + 1) en (l + 2) = en := cq_us
  generalize cq_u lsN (l + 1 + 1) pc = lsM at J1 hls0
  generalize cq_u od (l + 1 + 1) en = oM at J1 hod0
  obtain ⟨f1, f2, f3, f4, f5, f6, f7, f8, f9, f10, f11, f12, f13⟩ := J1.2.2.2.2.2.2.2.2.2.2.2.1 (l + 1) (Nat.le_refl _)
  have f8' : bsN (l + 1) ≤ pc := by rw [← hls0]; exact f8
  have hap : lsM (l + 1) ≤ pc := by omega
  by_cases hfit : pc + cp_lag (gg (l + 1)) (a_levelEntry (l + 1)) ≤ 36
  · left
    obtain ⟨pc1, pc', e1, ae', K1, V1, N1, S1', K, V, N, S, g1, g2, g3, g4⟩ := xt_closeOK (f_tokens := nI c) (f_faultPlace := f_faultPlace) (f_length := f_length) (f_patternEntry := f_patternEntry) (f_hasPattern := f_hasPattern) (f_tooLarge := 0) (f_groups := nI g) (f_atomStart := f_atomStart) (f_atomEntry := (-1)) (f_choices := f_choices) (f_wayPiece := f_wayPiece) (f_wayPlace := f_wayPlace) (f_wayNotes := f_wayNotes) (f_hasResult := f_hasResult) (f_resultStart := f_resultStart) (f_resultEnd := f_resultEnd) (f_resultNotes := f_resultNotes) (a_tokenKind := a_tokenKind) (a_tokenValue := a_tokenValue) (a_text := a_text) (a_pieceKind := a_pieceKind) (a_pieceValue := a_pieceValue) (a_pieceNext := N') (a_pieceSecond := S') (a_levelGroup := a_levelGroup) (a_levelStart := a_levelStart) (a_levelEntry := a_levelEntry) (a_branchStart := a_branchStart) (a_branchEntry := be') (a_placesSeen := a_placesSeen) (a_choicePiece := a_choicePiece) (a_choicePlace := a_choicePlace) (a_choiceNotes := a_choiceNotes) (l := l) (pc := pc) (a := lsM (l + 1)) (g := gg (l + 1)) (by omega) f1 f3 f4 hap hfit
    have hpc' : pc' = pc + cp_lag (gg (l + 1)) (a_levelEntry (l + 1)) := by
      unfold cp_lag cp_gb
      rcases g1 with ⟨h1, _, h⟩ | ⟨h1, _, h, _⟩
      · rw [if_pos h1]
        rcases g3 with ⟨y1, y2, _⟩ | ⟨y1, y2, _⟩
        · rw [if_neg (by omega)]; omega
        · rw [if_pos y1]; omega
      · rw [if_neg h1]
        rcases g3 with ⟨y1, y2, _⟩ | ⟨y1, y2, _⟩
        · rw [if_neg (by omega)]; omega
        · rw [if_pos y1]; omega
    have hX : ∀ (post : SX → Prop) (n : Nat), wX_buildPattern_32 post n (nI (i + 1)) (nI c) f_faultPlace f_length (nI pc') f_patternEntry f_hasPattern 0 (nI l) (nI g) (nI (lsM (l + 1))) ae' f_choices f_wayPiece f_wayPlace f_wayNotes f_hasResult f_resultStart f_resultEnd f_resultNotes a_tokenKind a_tokenValue a_text K V N S a_levelGroup a_levelStart (upd a_levelEntry (l + 1) e1) (upd a_branchStart (l + 1) (nI pc1)) (upd be' (l + 1) (-1)) a_placesSeen a_choicePiece a_choicePlace a_choiceNotes → wX_buildPattern_32 post (n + 1) (nI i) (nI c) f_faultPlace f_length (nI pc) f_patternEntry f_hasPattern 0 (nI (l + 1)) (nI g) f_atomStart f_atomEntry f_choices f_wayPiece f_wayPlace f_wayNotes f_hasResult f_resultStart f_resultEnd f_resultNotes a_tokenKind a_tokenValue a_text a_pieceKind a_pieceValue a_pieceNext a_pieceSecond a_levelGroup a_levelStart a_levelEntry a_branchStart a_branchEntry a_placesSeen a_choicePiece a_choicePlace a_choiceNotes := by
      intro post n h
      exact xl_tok (F := fun u => u = (nI c, f_faultPlace, f_length, nI pc', f_patternEntry, f_hasPattern, 0, nI l, nI g, nI (lsM (l + 1)), ae', f_choices, f_wayPiece, f_wayPlace, f_wayNotes, f_hasResult, f_resultStart, f_resultEnd, f_resultNotes, a_tokenKind, a_tokenValue, a_text, K, V, N, S, a_levelGroup, a_levelStart, upd a_levelEntry (l + 1) e1, upd a_branchStart (l + 1) (nI pc1), upd be' (l + 1) (-1), a_placesSeen, a_choicePiece, a_choicePlace, a_choiceNotes)) hc hi (by omega) rfl hK rfl J2 (fun post' h' => xt_close5 (F := fun u => u = (nI c, f_faultPlace, f_length, nI pc', f_patternEntry, f_hasPattern, 0, nI l, nI g, nI (lsM (l + 1)), ae', f_choices, f_wayPiece, f_wayPlace, f_wayNotes, f_hasResult, f_resultStart, f_resultEnd, f_resultNotes, a_tokenKind, a_tokenValue, a_text, K, V, N, S, a_levelGroup, a_levelStart, upd a_levelEntry (l + 1) e1, upd a_branchStart (l + 1) (nI pc1), upd be' (l + 1) (-1), a_placesSeen, a_choicePiece, a_choicePlace, a_choiceNotes)) (fun post2 h2 => g4 post2 (h2 _ rfl)) h') (fun u hu => by rw [hu]; exact h)
    have azE : nI sz - b_sizes (l + 1) = nI (pc' - lsM (l + 1)) := by
      rw [f6, pk_sub (by omega)]
      congr 1; omega
    by_cases hs : sz ≤ 36
    · have hen2 := hsz2 hs
      obtain ⟨c1, c2⟩ := J1.2.2.2.2.2.2.2.2.2.2.2.2 hs
      obtain ⟨d1, d2⟩ := c1 (l + 1) (Nat.le_refl _)
      have d2' := d2
      rw [show l + 1 + 1 = l + 2 by omega, hls0, hod0] at d2'
      obtain ⟨b1', b2', _⟩ := cp_L_le d2'
      obtain ⟨J0, hJ0, hJ1⟩ : ∃ J0 : List Nat, fg_JC (fg_q b_op b_with b_one b_two) J0 (b_jumps (l + 1)) ∧ ((a_levelEntry (l + 1) = -2 ∧ J0 = []) ∨ (¬ a_levelEntry (l + 1) = -2 ∧ J0 = J (l + 1) ∧ ∀ j, j ∈ J (l + 1) → j < br (l + 1) ∧ b_op j = 4)) := by
        rcases d2.2.1 with ⟨a1, _, _, a4⟩ | ⟨a1, a2, a3⟩
        · exact ⟨[], a4, Or.inl ⟨a1, rfl⟩⟩
        · exact ⟨J (l + 1), a3, Or.inr ⟨a1, rfl, fun j hj => ⟨(a2.2.2.2.1 j hj).2.1, (a2.2.2.2.1 j hj).2.2⟩⟩⟩
      have hJb : ∀ j, j ∈ J0 → j < en := by
        intro j hj
        rcases hJ1 with ⟨_, h2⟩ | ⟨_, h2, h3⟩
        · rw [h2] at hj; cases hj
        · rw [h2] at hj; have := (h3 j hj).1; omega
      have hn : ∀ j, (¬ a_levelEntry (l + 1) = -2 → ¬ j ∈ J (l + 1)) → ¬ j ∈ J0 := by
        intro j h hj
        rcases hJ1 with ⟨_, h2⟩ | ⟨h1, h2, h3⟩
        · rw [h2] at hj; cases hj
        · rw [h2] at hj; exact h h1 hj
      have hm : ¬ a_levelEntry (l + 1) = -2 → ∀ j, j ∈ J (l + 1) → b_op j = 4 ∧ j < en ∧ nI j + cy_pt en J0 b_one j = nI en := by
        intro hne j hj
        rcases hJ1 with ⟨h1, _⟩ | ⟨h1, h2, h3⟩
        · exact absurd h1 hne
        · have hj0 : j ∈ J0 := by rw [h2]; exact hj
          have hlt := hJb j hj0
          rw [cy_pt_m J0 b_one j hj0, nI_add]
          exact ⟨(h3 j hj).2, hlt, by congr 1; omega⟩
      by_cases hg0 : gg (l + 1) = 0
      · have egb : cp_gb (gg (l + 1)) = 0 := by rw [hg0]; rfl
        obtain ⟨Q, q2, q3⟩ := cq_close (m' := fg_q b_op b_with (cy_pt en J0 b_one) b_two) (x' := fg_q K V N S) (en' := en) (pc' := pc') (ae' := ae') J1 hls0 hod0 (by omega) (by omega) g1 g2 g3 (fun _ => ⟨by rw [egb]; rfl, fun j _ hj => by unfold fg_q; rw [cy_pt_n J0 b_one j (hn j hj)], fun hne j hj => ⟨(hm hne j hj).1, (hm hne j hj).2.2⟩, fun h => by omega⟩)
        refine ⟨l, pc', en, sz, gg, lsM, bsN, oM, br, J, nI (lsM (l + 1)), ae', nI (oM (l + 1)), nI (pc' - lsM (l + 1)), K, V, N, S, _, _, _, _, _, b_op, b_with, cy_pt en J0 b_one, b_two, b_copyOp, b_copyWith, b_copyOne, b_copyTwo, _, _, _, _, _, rfl, ⟨Q, Or.inr rfl, fun _ => ⟨rfl, rfl, rfl⟩, (fun h => by cases h), B1, B2, cy_pt_S (by omega) J0 _ S1, S2⟩, hX, fun post h => ?_⟩
        rw [cq_la0 hs] at h ⊢
        rw [← f11, ← azE] at h
        refine ya_close (o := l + 1) (F := fun u => u = (g_count, g_place, nI en, nI sz, 0, g_ready, nI (l + 1), nI g, b_opened (l + 1), nI sz - b_sizes (l + 1), g_length, g_found, b_kind, b_value, b_op, b_with, cy_pt en J0 b_one, b_two, b_copyOp, b_copyWith, b_copyOne, b_copyTwo, b_opened, b_branch, b_sizes, b_jumps, b_groupOf, b_text, b_met, b_todo, b_notes)) (by omega) (by omega) (fun post' h' => cy_closeC (m := fg_q b_op b_with b_one b_two) (J := J0) (by omega) (by omega) hJ0 (fun j hj => ⟨hJb j hj, rfl⟩) ?_) (fun u hu => by rw [hu]; exact h)
        exact cy_close55_0 (by omega) (by rw [f2, hg0]) (h' _ rfl)
      · have egb : cp_gb (gg (l + 1)) = 1 := if_pos (by omega)
        obtain ⟨Q, q2, q3⟩ := cq_close (m' := fg_q (upd b_op en 5) (upd b_with en (nI (2 * gg (l + 1) + 1))) (upd (cy_pt en J0 b_one) en 1) (upd b_two en 0)) (x' := fg_q K V N S) (en' := en + 1) (pc' := pc') (ae' := ae') J1 hls0 hod0 (by omega) (by omega) g1 g2 g3 (fun _ => ⟨by rw [egb], fun j hje hj => by rw [fg_q_un (by omega)]; unfold fg_q; rw [cy_pt_n J0 b_one j (hn j hj)], fun hne j hj => by have := (hm hne j hj).2.1; rw [fg_q_un (by omega)]; exact ⟨(hm hne j hj).1, (hm hne j hj).2.2⟩, fun h => by rw [fg_q_us]; exact ⟨rfl, rfl, rfl⟩⟩)
        refine ⟨l, pc', en + 1, sz, gg, lsM, bsN, oM, br, J, nI (lsM (l + 1)), ae', nI (oM (l + 1)), nI (pc' - lsM (l + 1)), K, V, N, S, _, _, _, _, _, upd b_op en 5, upd b_with en (nI (2 * gg (l + 1) + 1)), upd (cy_pt en J0 b_one) en 1, upd b_two en 0, b_copyOp, b_copyWith, b_copyOne, b_copyTwo, _, _, _, _, _, rfl, ⟨Q, Or.inr rfl, fun _ => ⟨rfl, rfl, rfl⟩, (fun h => by cases h), rl_Bu B1 (cy_Bn (n := 5) (by omega)), rl_Bu B2 (cy_Bn (by omega)), rl_Su (cy_pt_S (by omega) J0 _ S1) (cy_Sn (n := 1) (by omega)), rl_Su S2 (cy_Sn (n := 0) (by omega))⟩, hX, fun post h => ?_⟩
        rw [cq_la0 hs] at h ⊢
        rw [← f11, ← azE] at h
        refine ya_close (o := l + 1) (F := fun u => u = (g_count, g_place, nI (en + 1), nI sz, 0, g_ready, nI (l + 1), nI g, b_opened (l + 1), nI sz - b_sizes (l + 1), g_length, g_found, b_kind, b_value, upd b_op en 5, upd b_with en (nI (2 * gg (l + 1) + 1)), upd (cy_pt en J0 b_one) en 1, upd b_two en 0, b_copyOp, b_copyWith, b_copyOne, b_copyTwo, b_opened, b_branch, b_sizes, b_jumps, b_groupOf, b_text, b_met, b_todo, b_notes)) (by omega) (by omega) (fun post' h' => cy_closeC (m := fg_q b_op b_with b_one b_two) (J := J0) (by omega) (by omega) hJ0 (fun j hj => ⟨hJb j hj, rfl⟩) ?_) (fun u hu => by rw [hu]; exact h)
        exact cy_close55_g (by omega) (by omega) (by omega) f3 f2 (h' _ rfl)
    · obtain ⟨Q, q2, q3⟩ := cq_close (m' := fg_q b_op b_with b_one b_two) (x' := fg_q K V N S) (en' := en) (pc' := pc') (ae' := ae') J1 hls0 hod0 (by omega) (by omega) g1 g2 g3 (fun h => absurd h hs)
      refine ⟨l, pc', en, sz, gg, lsM, bsN, oM, br, J, nI (lsM (l + 1)), ae', nI (oM (l + 1)), nI (pc' - lsM (l + 1)), K, V, N, S, _, _, _, _, _, b_op, b_with, b_one, b_two, b_copyOp, b_copyWith, b_copyOne, b_copyTwo, _, _, _, _, _, rfl, ⟨Q, Or.inr rfl, fun _ => ⟨rfl, rfl, rfl⟩, (fun h => by cases h), B1, B2, S1, S2⟩, hX, fun post h => ?_⟩
      rw [cq_la1 (show 36 < sz by omega)] at h ⊢
      rw [← f11, ← azE] at h
      exact ya_close (o := l + 1) (F := fun u => u = (g_count, g_place, nI en, nI sz, 1, g_ready, nI (l + 1), nI g, b_opened (l + 1), nI sz - b_sizes (l + 1), g_length, g_found, b_kind, b_value, b_op, b_with, b_one, b_two, b_copyOp, b_copyWith, b_copyOne, b_copyTwo, b_opened, b_branch, b_sizes, b_jumps, b_groupOf, b_text, b_met, b_todo, b_notes)) (by omega) (by omega) (fun post' h' => cy_close1 (by omega) (h' _ rfl)) (fun u hu => by rw [hu]; exact h)
  · right
    refine ⟨fun post n h => ?_, ?_⟩
    · refine xl_tok (F := fun u => ∃ (pc' : Nat) (K V N S le' bs' be' : Nat → Int32), pc' ≤ 36 ∧ u = (nI c, f_faultPlace, f_length, nI pc', f_patternEntry, f_hasPattern, 1, nI l, nI g, nI (lsM (l + 1)), (-1), f_choices, f_wayPiece, f_wayPlace, f_wayNotes, f_hasResult, f_resultStart, f_resultEnd, f_resultNotes, a_tokenKind, a_tokenValue, a_text, K, V, N, S, a_levelGroup, a_levelStart, le', bs', be', a_placesSeen, a_choicePiece, a_choicePlace, a_choiceNotes)) hc hi (by omega) rfl hK rfl J2 (fun post' h' => xt_close5 (F := fun u => ∃ (pc' : Nat) (K V N S le' bs' be' : Nat → Int32), pc' ≤ 36 ∧ u = (nI c, f_faultPlace, f_length, nI pc', f_patternEntry, f_hasPattern, 1, nI l, nI g, nI (lsM (l + 1)), (-1), f_choices, f_wayPiece, f_wayPlace, f_wayNotes, f_hasResult, f_resultStart, f_resultEnd, f_resultNotes, a_tokenKind, a_tokenValue, a_text, K, V, N, S, a_levelGroup, a_levelStart, le', bs', be', a_placesSeen, a_choicePiece, a_choicePlace, a_choiceNotes)) (fun post2 h2 => xt_closeL (by omega) hpc f1 f3 f4 hap (by omega) (fun pc' K V N S le' bs' be' hp' => h2 _ ⟨pc', K, V, N, S, le', bs', be', hp', rfl⟩)) h') (fun u hu => ?_)
      obtain ⟨pc', K, V, N, S, le', bs', be2, hp', hu⟩ := hu
      rw [hu]
      exact xl_done (by omega) hc (by omega) hp' (Or.inl rfl) h
    · have hs : 36 < sz := by omega
      refine ⟨nI sz, nI (l + 1), nI g, b_opened (l + 1), nI sz - b_sizes (l + 1), b_opened, b_branch, b_sizes, b_jumps, b_groupOf, ⟨rfl, rfl, rfl, ⟨en, by omega, rfl⟩, fun _ => hop (l + 1) (Nat.le_refl _), (fun h => by cases h), fun d hd => hop d (by have hd' : d ≤ l := hd; omega)⟩, fun post h => ?_⟩
      rw [cq_la1 hs]
      exact ya_close (o := l + 1) (F := fun u => u = (g_count, g_place, nI en, nI sz, 1, g_ready, nI (l + 1), nI g, b_opened (l + 1), nI sz - b_sizes (l + 1), g_length, g_found, b_kind, b_value, b_op, b_with, b_one, b_two, b_copyOp, b_copyWith, b_copyOne, b_copyTwo, b_opened, b_branch, b_sizes, b_jumps, b_groupOf, b_text, b_met, b_todo, b_notes)) (by omega) (by omega) (fun post' h' => cy_close1 (by omega) (h' _ rfl)) (fun u hu => by rw [hu]; exact h)
end TN
end
section
section XRep
theorem yq_P1 (A : Nat) : yq_P 0 0 1 A = 1 := by unfold yq_P; omega
theorem yq_P2 (A : Nat) : yq_P 1 0 1 A = A + 1 := by unfold yq_P; omega
theorem yq_P3 (A : Nat) : yq_P 0 1 0 A = 1 := by unfold yq_P; omega
theorem xr_lt (n : Nat) : nI n >>> ((3 : Int32) &&& 31) = nI n >>> ((3 : Int32) &&& 31) := rfl
variable {f_tokens f_faultPlace f_length f_pieces f_patternEntry f_hasPattern f_tooLarge f_level f_groups f_atomStart f_atomEntry f_choices f_wayPiece f_wayPlace : Int32} {f_wayNotes : Int64} {f_hasResult f_resultStart f_resultEnd : Int32} {f_resultNotes : Int64} {a_tokenKind a_tokenValue a_text a_pieceKind a_pieceValue a_pieceNext a_pieceSecond a_levelGroup a_levelStart a_levelEntry a_branchStart a_branchEntry : Nat → Int32} {a_placesSeen : Nat → Int64} {a_choicePiece a_choicePlace : Nat → Int32} {a_choiceNotes : Nat → Int64}
theorem xr_star {kk a A : Nat} {v lz : Int32} (hz : lz = 0 ∨ lz = 1) (hkz : (kk = 7 ∧ lz = 0) ∨ (kk = 10 ∧ lz = 1)) (hp : a + A + 1 ≤ 36) (hv : cq_v (a + A) f_atomEntry) (hm : f_atomEntry = -1 → a = a + A) :
    ∃ (K V N S : Nat → Int32) (ae' : Int32), (∀ p, p < a → fg_q K V N S p = fg_q a_pieceKind a_pieceValue a_pieceNext a_pieceSecond p) ∧ cq_v (a + A + 1) ae' ∧ (ae' = -1 → a = a + A + 1) ∧
      (∀ (m m' : Nat → fg_I) (o n : Nat), fg_F m (fg_q a_pieceKind a_pieceValue a_pieceNext a_pieceSecond) o (o + n) a (a + A) f_atomEntry → yq_R kk o n 0 0 1 m m' → fg_F m' (fg_q K V N S) o (qf_at o n 0 (0 + 0) + 1 * (n + 2)) a (a + A + 1) ae') ∧
      (∀ post : SX → Prop, post (f_tokens, f_faultPlace, f_length, nI (a + A + 1), f_patternEntry, f_hasPattern, 0, f_level, f_groups, nI a, ae', f_choices, f_wayPiece, f_wayPlace, f_wayNotes, f_hasResult, f_resultStart, f_resultEnd, f_resultNotes, a_tokenKind, a_tokenValue, a_text, K, V, N, S, a_levelGroup, a_levelStart, a_levelEntry, a_branchStart, a_branchEntry, a_placesSeen, a_choicePiece, a_choicePlace, a_choiceNotes) → wpX_repeatAtom post (f_tokens, f_faultPlace, f_length, nI (a + A), f_patternEntry, f_hasPattern, 0, f_level, f_groups, nI a, f_atomEntry, f_choices, f_wayPiece, f_wayPlace, f_wayNotes, f_hasResult, f_resultStart, f_resultEnd, f_resultNotes, a_tokenKind, a_tokenValue, a_text, a_pieceKind, a_pieceValue, a_pieceNext, a_pieceSecond, a_levelGroup, a_levelStart, a_levelEntry, a_branchStart, a_branchEntry, a_placesSeen, a_choicePiece, a_choicePlace, a_choiceNotes) (nI kk) v) := by
  obtain ⟨K, V, N, S, s1, s2, s3, s4, s5⟩ := cx_starOK (f_tokens := f_tokens) (f_faultPlace := f_faultPlace) (f_length := f_length) (f_patternEntry := f_patternEntry) (f_hasPattern := f_hasPattern) (f_tooLarge := 0) (f_level := f_level) (f_groups := f_groups) (f_atomStart := nI a) (f_atomEntry := f_atomEntry) (f_choices := f_choices) (f_wayPiece := f_wayPiece) (f_wayPlace := f_wayPlace) (f_wayNotes := f_wayNotes) (f_hasResult := f_hasResult) (f_resultStart := f_resultStart) (f_resultEnd := f_resultEnd) (f_resultNotes := f_resultNotes) (a_tokenKind := a_tokenKind) (a_tokenValue := a_tokenValue) (a_text := a_text) (a_pieceKind := a_pieceKind) (a_pieceValue := a_pieceValue) (a_pieceNext := a_pieceNext) (a_pieceSecond := a_pieceSecond) (a_levelGroup := a_levelGroup) (a_levelStart := a_levelStart) (a_levelEntry := a_levelEntry) (a_branchStart := a_branchStart) (a_branchEntry := a_branchEntry) (a_placesSeen := a_placesSeen) (a_choicePiece := a_choicePiece) (a_choicePlace := a_choicePlace) (a_choiceNotes := a_choiceNotes) (pc := a + A) (s := a) (en := f_atomEntry) hz (by omega) (by omega)
  refine ⟨K, V, N, S, nI (a + A), fun p hp' => s2 p hp', Or.inr ⟨a + A, by omega, rfl⟩, fun h => absurd h (fg_ne (by omega)), fun m m' o n hF hR => ?_, fun post h => ?_⟩
  · obtain ⟨r1, r2, r3, r4⟩ := hR
    obtain ⟨q1, q2, q3⟩ := r4 rfl
    rw [show qf_at o n 0 (0 + 0) = o from qf_at_0 o n 0] at q1 q2 q3 ⊢
    rw [show o + 1 * (n + 2) = o + n + 2 by omega]
    refine qf_star hF (by omega) q1 ?_ q3 s1 s3 s4
    rcases hkz with ⟨k1, k2⟩ | ⟨k1, k2⟩
    · rcases q2 with ⟨_, q⟩ | ⟨q, _⟩
      · exact Or.inl ⟨k2, q⟩
      · omega
    · rcases q2 with ⟨q, _⟩ | ⟨_, q⟩
      · omega
      · exact Or.inr ⟨k2, q⟩
  · rcases hkz with ⟨k1, k2⟩ | ⟨k1, k2⟩
    · subst k1 k2
      refine br_f (by decide) (br_f (by decide) (br_t rfl (br_f (by decide) ?_)))
      unfold wX_repeatAtom_61
      exact s5 _ h
    · subst k1 k2
      refine br_f (by decide) (br_f (by decide) (br_f (by decide) (br_f (by decide) (br_f (by decide) (br_t rfl (br_t rfl ?_))))))
      unfold wX_repeatAtom_61
      exact s5 _ h
theorem xr_plus {kk a A : Nat} {v lz : Int32} (hz : lz = 0 ∨ lz = 1) (hkz : (kk = 8 ∧ lz = 0) ∨ (kk = 11 ∧ lz = 1)) (hp : a + A + (A + 1) ≤ 36) (hv : cq_v (a + A) f_atomEntry) (hm : f_atomEntry = -1 → a = a + A) :
    ∃ (K V N S : Nat → Int32) (ae' : Int32), (∀ p, p < a → fg_q K V N S p = fg_q a_pieceKind a_pieceValue a_pieceNext a_pieceSecond p) ∧ cq_v (a + A + (A + 1)) ae' ∧ (ae' = -1 → a = a + A + (A + 1)) ∧
      (∀ (m m' : Nat → fg_I) (o n : Nat), fg_F m (fg_q a_pieceKind a_pieceValue a_pieceNext a_pieceSecond) o (o + n) a (a + A) f_atomEntry → yq_R kk o n 1 0 1 m m' → fg_F m' (fg_q K V N S) o (qf_at o n 1 (1 + 0) + 1 * (n + 2)) a (a + A + (A + 1)) ae') ∧
      (∀ post : SX → Prop, post (f_tokens, f_faultPlace, f_length, nI (a + A + (A + 1)), f_patternEntry, f_hasPattern, 0, f_level, f_groups, nI a, ae', f_choices, f_wayPiece, f_wayPlace, f_wayNotes, f_hasResult, f_resultStart, f_resultEnd, f_resultNotes, a_tokenKind, a_tokenValue, a_text, K, V, N, S, a_levelGroup, a_levelStart, a_levelEntry, a_branchStart, a_branchEntry, a_placesSeen, a_choicePiece, a_choicePlace, a_choiceNotes) → wpX_repeatAtom post (f_tokens, f_faultPlace, f_length, nI (a + A), f_patternEntry, f_hasPattern, 0, f_level, f_groups, nI a, f_atomEntry, f_choices, f_wayPiece, f_wayPlace, f_wayNotes, f_hasResult, f_resultStart, f_resultEnd, f_resultNotes, a_tokenKind, a_tokenValue, a_text, a_pieceKind, a_pieceValue, a_pieceNext, a_pieceSecond, a_levelGroup, a_levelStart, a_levelEntry, a_branchStart, a_branchEntry, a_placesSeen, a_choicePiece, a_choicePlace, a_choiceNotes) (nI kk) v) := by
  obtain ⟨K, V, N, S, s1, s2, s3⟩ := xq_plusOK (f_tokens := f_tokens) (f_faultPlace := f_faultPlace) (f_length := f_length) (f_patternEntry := f_patternEntry) (f_hasPattern := f_hasPattern) (f_level := f_level) (f_groups := f_groups) (f_atomEntry := f_atomEntry) (f_choices := f_choices) (f_wayPiece := f_wayPiece) (f_wayPlace := f_wayPlace) (f_wayNotes := f_wayNotes) (f_hasResult := f_hasResult) (f_resultStart := f_resultStart) (f_resultEnd := f_resultEnd) (f_resultNotes := f_resultNotes) (a_tokenKind := a_tokenKind) (a_tokenValue := a_tokenValue) (a_text := a_text) (a_pieceKind := a_pieceKind) (a_pieceValue := a_pieceValue) (a_pieceNext := a_pieceNext) (a_pieceSecond := a_pieceSecond) (a_levelGroup := a_levelGroup) (a_levelStart := a_levelStart) (a_levelEntry := a_levelEntry) (a_branchStart := a_branchStart) (a_branchEntry := a_branchEntry) (a_placesSeen := a_placesSeen) (a_choicePiece := a_choicePiece) (a_choicePlace := a_choicePlace) (a_choiceNotes := a_choiceNotes) (a := a) (sz := A) hz (by omega)
  rw [show a + A + (A + 1) = a + A + A + 1 by omega]
  refine ⟨K, V, N, S, fg_mo (nI (a + A + A)) f_atomEntry, s1, ?_, ?_, fun m m' o n hF hR => ?_, fun post h => ?_⟩
  · exact cq_v_mo (Or.inr ⟨a + A + A, by omega, rfl⟩) (cq_v_up hv (by omega))
  · intro h
    exact absurd (cq_mo_m h).2 (fg_ne (by omega))
  · obtain ⟨r1, r2, r3, r4⟩ := hR
    obtain ⟨q1, q2, q3⟩ := r4 rfl
    have e0 : qf_at o n 1 (1 + 0) = o + n := by unfold qf_at; omega
    rw [e0] at q1 q2 q3 ⊢
    rw [show o + n + 1 * (n + 2) = o + n + n + 2 by omega]
    refine s2 m m' o n hF (fun j hj => ?_) q1 ?_ q3
    · have := r2 0 j (by omega) hj
      rw [show qf_ca o n 1 0 = o from by unfold qf_ca; rw [if_neg (by omega), qf_at_0, Nat.add_zero]] at this
      exact this
    · rcases hkz with ⟨k1, k2⟩ | ⟨k1, k2⟩
      · rcases q2 with ⟨_, q⟩ | ⟨q, _⟩
        · exact Or.inl ⟨k2, q⟩
        · omega
      · rcases q2 with ⟨q, _⟩ | ⟨_, q⟩
        · omega
        · exact Or.inr ⟨k2, q⟩
  · rcases hkz with ⟨k1, k2⟩ | ⟨k1, k2⟩
    · subst k1 k2
      refine br_f (by decide) (br_f (by decide) (br_f (by decide) (br_t rfl (br_f (by decide) ?_))))
      unfold wX_repeatAtom_82
      exact s3 _ h
    · subst k1 k2
      refine br_f (by decide) (br_f (by decide) (br_f (by decide) (br_f (by decide) (br_f (by decide) (br_f (by decide) (br_t rfl (br_t rfl ?_)))))))
      unfold wX_repeatAtom_82
      exact s3 _ h
theorem xr_OK {kk a A least opt st : Nat} {v : Int32} (hK : yq_K kk v least opt st) (hp : a + A + yq_P least opt st A ≤ 36) (hv : cq_v (a + A) f_atomEntry) (hm : f_atomEntry = -1 → a = a + A) :
    ∃ (K V N S : Nat → Int32) (ae' : Int32), (∀ p, p < a → fg_q K V N S p = fg_q a_pieceKind a_pieceValue a_pieceNext a_pieceSecond p) ∧ cq_v (a + A + yq_P least opt st A) ae' ∧ (ae' = -1 → a = a + A + yq_P least opt st A) ∧
      (∀ (m m' : Nat → fg_I) (o n : Nat), fg_F m (fg_q a_pieceKind a_pieceValue a_pieceNext a_pieceSecond) o (o + n) a (a + A) f_atomEntry → yq_R kk o n least opt st m m' → fg_F m' (fg_q K V N S) o (qf_at o n least (least + opt) + st * (n + 2)) a (a + A + yq_P least opt st A) ae') ∧
      (∀ post : SX → Prop, post (f_tokens, f_faultPlace, f_length, nI (a + A + yq_P least opt st A), f_patternEntry, f_hasPattern, 0, f_level, f_groups, nI a, ae', f_choices, f_wayPiece, f_wayPlace, f_wayNotes, f_hasResult, f_resultStart, f_resultEnd, f_resultNotes, a_tokenKind, a_tokenValue, a_text, K, V, N, S, a_levelGroup, a_levelStart, a_levelEntry, a_branchStart, a_branchEntry, a_placesSeen, a_choicePiece, a_choicePlace, a_choiceNotes) → wpX_repeatAtom post (f_tokens, f_faultPlace, f_length, nI (a + A), f_patternEntry, f_hasPattern, 0, f_level, f_groups, nI a, f_atomEntry, f_choices, f_wayPiece, f_wayPlace, f_wayNotes, f_hasResult, f_resultStart, f_resultEnd, f_resultNotes, a_tokenKind, a_tokenValue, a_text, a_pieceKind, a_pieceValue, a_pieceNext, a_pieceSecond, a_levelGroup, a_levelStart, a_levelEntry, a_branchStart, a_branchEntry, a_placesSeen, a_choicePiece, a_choicePlace, a_choiceNotes) (nI kk) v) := by
  rcases hK with ⟨k1, h1, h2, h3⟩ | ⟨k1, h1, h2, h3⟩ | ⟨k1, h1, h2, h3⟩ | ⟨k1, h1, h2, h3⟩ | ⟨k1, h1, h2, h3⟩ | ⟨k1, h1, h2, h3⟩ | ⟨k1, h1, h2, h3, h4, h5⟩
  · subst h1 h2 h3
    rw [yq_P1] at hp ⊢
    exact xr_star (Or.inl rfl) (Or.inl ⟨k1, rfl⟩) hp hv hm
  · subst h1 h2 h3
    rw [yq_P2] at hp ⊢
    exact xr_plus (Or.inl rfl) (Or.inl ⟨k1, rfl⟩) hp hv hm
  · subst k1 h1 h2 h3
    rw [yq_P3] at hp ⊢
    refine ⟨upd a_pieceKind (a + A) 4, upd a_pieceValue (a + A) 0, upd a_pieceNext (a + A) f_atomEntry, upd a_pieceSecond (a + A) (-1), nI (a + A), fun p hp' => fg_q_un (by omega), Or.inr ⟨a + A, by omega, rfl⟩, fun h => absurd h (fg_ne (by omega)), fun m m' o n hF hR => ?_, fun post h => ?_⟩
    · obtain ⟨r1, r2, r3, r4⟩ := hR
      have e0 : qf_at o n 0 (0 + 1) = o + n + 1 := by unfold qf_at; omega
      have r3' := r3 0 (by omega) (by omega)
      rw [e0, qf_at_0] at r3'
      rw [e0, Nat.zero_mul, Nat.add_zero]
      refine qf_opt (lz := 0) hF (by omega) (fun j hj => ?_) (Or.inl ⟨rfl, ?_⟩) (fun p _ hp' => fg_q_un (by omega)) (by rw [fg_q_us]) (Or.inl ⟨rfl, by rw [fg_q_us]⟩)
      · have := r2 0 j (by omega) hj
        rw [show qf_ca o n 0 0 = o + 1 from by unfold qf_ca; rw [if_pos (by omega), qf_at_0]] at this
        exact this
      · rcases r3' with ⟨q, _⟩ | ⟨_, q⟩
        · omega
        · exact q
    · refine br_f (by decide) (br_f (by decide) (br_f (by decide) (br_f (by decide) (br_t rfl ?_))))
      exact cx_add (by omega) h
  · subst h1 h2 h3
    rw [yq_P1] at hp ⊢
    exact xr_star (Or.inr rfl) (Or.inr ⟨k1, rfl⟩) hp hv hm
  · subst h1 h2 h3
    rw [yq_P2] at hp ⊢
    exact xr_plus (Or.inr rfl) (Or.inr ⟨k1, rfl⟩) hp hv hm
  · subst k1 h1 h2 h3
    rw [yq_P3] at hp ⊢
    refine ⟨upd a_pieceKind (a + A) 4, upd a_pieceValue (a + A) 0, upd a_pieceNext (a + A) (-1), upd a_pieceSecond (a + A) f_atomEntry, nI (a + A), fun p hp' => fg_q_un (by omega), Or.inr ⟨a + A, by omega, rfl⟩, fun h => absurd h (fg_ne (by omega)), fun m m' o n hF hR => ?_, fun post h => ?_⟩
    · obtain ⟨r1, r2, r3, r4⟩ := hR
      have e0 : qf_at o n 0 (0 + 1) = o + n + 1 := by unfold qf_at; omega
      have r3' := r3 0 (by omega) (by omega)
      rw [e0, qf_at_0] at r3'
      rw [e0, Nat.zero_mul, Nat.add_zero]
      refine qf_opt (lz := 1) hF (by omega) (fun j hj => ?_) (Or.inr ⟨rfl, ?_⟩) (fun p _ hp' => fg_q_un (by omega)) (by rw [fg_q_us]) (Or.inr ⟨rfl, by rw [fg_q_us]⟩)
      · have := r2 0 j (by omega) hj
        rw [show qf_ca o n 0 0 = o + 1 from by unfold qf_ca; rw [if_pos (by omega), qf_at_0]] at this
        exact this
      · rcases r3' with ⟨_, q⟩ | ⟨q, _⟩
        · exact q
        · exact absurd rfl q
    · refine br_f (by decide) (br_f (by decide) (br_f (by decide) (br_f (by decide) (br_f (by decide) (br_f (by decide) (br_f (by decide) (br_t rfl ?_)))))))
      exact cx_add (by omega) h
  · subst k1 h1
    have eP : a + A + yq_P least opt 0 A = a + (least + opt) * A + (least + opt - least) := by
      have := yq_P_le (least := least) (opt := opt) (st := 0) (A := A) (by omega)
      unfold yq_P
      simp only [Nat.add_zero] at this ⊢
      omega
    rw [eP] at hp ⊢
    obtain ⟨K, V, N, S, b, s1, s2, s3, s4⟩ := xq_cntOK (f_tokens := f_tokens) (f_faultPlace := f_faultPlace) (f_length := f_length) (f_patternEntry := f_patternEntry) (f_hasPattern := f_hasPattern) (f_level := f_level) (f_groups := f_groups) (f_atomEntry := f_atomEntry) (f_choices := f_choices) (f_wayPiece := f_wayPiece) (f_wayPlace := f_wayPlace) (f_wayNotes := f_wayNotes) (f_hasResult := f_hasResult) (f_resultStart := f_resultStart) (f_resultEnd := f_resultEnd) (f_resultNotes := f_resultNotes) (a_tokenKind := a_tokenKind) (a_tokenValue := a_tokenValue) (a_text := a_text) (a_pieceKind := a_pieceKind) (a_pieceValue := a_pieceValue) (a_pieceNext := a_pieceNext) (a_pieceSecond := a_pieceSecond) (a_levelGroup := a_levelGroup) (a_levelStart := a_levelStart) (a_levelEntry := a_levelEntry) (a_branchStart := a_branchStart) (a_branchEntry := a_branchEntry) (a_placesSeen := a_placesSeen) (a_choicePiece := a_choicePiece) (a_choicePlace := a_choicePlace) (a_choiceNotes := a_choiceNotes) (a := a) (sz := A) (least := least) (most := least + opt) (by omega) h3 h4 hp
    obtain ⟨v1, v2⟩ := s3 hv
    refine ⟨K, V, N, S, b, s1, v1, fun h => ?_, fun m m' o n hF hR => ?_, fun post h => ?_⟩
    · obtain ⟨y1, y2⟩ := v2 h
      have hA : A = 0 := by have := hm y1; omega
      rw [hA, Nat.mul_zero]; omega
    · obtain ⟨r1, r2, r3, r4⟩ := hR
      rw [Nat.zero_mul, Nat.add_zero]
      refine s2 m m' o n hF r2 (fun c hc hlc => ?_)
      rcases r3 c hc hlc with ⟨q, _⟩ | ⟨_, q⟩
      · omega
      · exact q
    · have e1 : v >>> ((3 : Int32) &&& 31) = nI least := by
        rw [h5, tk_shr (by omega)]; congr 1; omega
      have e2 : v &&& 7 = nI (least + opt) := by
        rw [h5, tk_and (by omega)]; congr 1; omega
      refine br_f (by decide) (br_t (by decide) ?_)
      unfold wpX_leastTimes wpX_mostTimes
      rw [e1, e2]
      exact s4 _ h
theorem xr_L {post : SX → Prop} {kk a A least opt st : Nat} {v : Int32} (hK : yq_K kk v least opt st) (hp0 : a + A ≤ 36) (hp : 36 < a + A + yq_P least opt st A)
    (h : ∀ (pc : Nat) (ae : Int32) (K V N S : Nat → Int32), pc ≤ 36 → post (f_tokens, f_faultPlace, f_length, nI pc, f_patternEntry, f_hasPattern, 1, f_level, f_groups, nI a, ae, f_choices, f_wayPiece, f_wayPlace, f_wayNotes, f_hasResult, f_resultStart, f_resultEnd, f_resultNotes, a_tokenKind, a_tokenValue, a_text, K, V, N, S, a_levelGroup, a_levelStart, a_levelEntry, a_branchStart, a_branchEntry, a_placesSeen, a_choicePiece, a_choicePlace, a_choiceNotes)) : wpX_repeatAtom post (f_tokens, f_faultPlace, f_length, nI (a + A), f_patternEntry, f_hasPattern, 0, f_level, f_groups, nI a, f_atomEntry, f_choices, f_wayPiece, f_wayPlace, f_wayNotes, f_hasResult, f_resultStart, f_resultEnd, f_resultNotes, a_tokenKind, a_tokenValue, a_text, a_pieceKind, a_pieceValue, a_pieceNext, a_pieceSecond, a_levelGroup, a_levelStart, a_levelEntry, a_branchStart, a_branchEntry, a_placesSeen, a_choicePiece, a_choicePlace, a_choiceNotes) (nI kk) v := by
  rcases hK with ⟨k1, h1, h2, h3⟩ | ⟨k1, h1, h2, h3⟩ | ⟨k1, h1, h2, h3⟩ | ⟨k1, h1, h2, h3⟩ | ⟨k1, h1, h2, h3⟩ | ⟨k1, h1, h2, h3⟩ | ⟨k1, h1, h2, h3, h4, h5⟩
  · subst k1 h1 h2 h3
    rw [yq_P1] at hp
    rw [show a + A = 36 by omega]
    refine br_f (by decide) (br_f (by decide) (br_t rfl (br_f (by decide) ?_)))
    unfold wX_repeatAtom_61
    exact cx_starL (by omega) (fun N S => h 36 _ _ _ _ _ (by omega))
  · subst k1 h1 h2 h3
    rw [yq_P2] at hp
    refine br_f (by decide) (br_f (by decide) (br_f (by decide) (br_t rfl (br_f (by decide) ?_))))
    unfold wX_repeatAtom_82
    exact xq_plusL hp0 (by omega) (fun pc ae K V N S hp' => h pc ae K V N S hp')
  · subst k1 h1 h2 h3
    rw [yq_P3] at hp
    rw [show a + A = 36 by omega]
    refine br_f (by decide) (br_f (by decide) (br_f (by decide) (br_f (by decide) (br_t rfl ?_))))
    exact cx_add0 (pc := 36) (by omega) (by omega) (h 36 _ _ _ _ _ (by omega))
  · subst k1 h1 h2 h3
    rw [yq_P1] at hp
    rw [show a + A = 36 by omega]
    refine br_f (by decide) (br_f (by decide) (br_f (by decide) (br_f (by decide) (br_f (by decide) (br_t rfl (br_t rfl ?_))))))
    unfold wX_repeatAtom_61
    exact cx_starL (by omega) (fun N S => h 36 _ _ _ _ _ (by omega))
  · subst k1 h1 h2 h3
    rw [yq_P2] at hp
    refine br_f (by decide) (br_f (by decide) (br_f (by decide) (br_f (by decide) (br_f (by decide) (br_f (by decide) (br_t rfl (br_t rfl ?_)))))))
    unfold wX_repeatAtom_82
    exact xq_plusL hp0 (by omega) (fun pc ae K V N S hp' => h pc ae K V N S hp')
  · subst k1 h1 h2 h3
    rw [yq_P3] at hp
    rw [show a + A = 36 by omega]
    refine br_f (by decide) (br_f (by decide) (br_f (by decide) (br_f (by decide) (br_f (by decide) (br_f (by decide) (br_f (by decide) (br_t rfl ?_)))))))
    exact cx_add0 (pc := 36) (by omega) (by omega) (h 36 _ _ _ _ _ (by omega))
  · subst k1 h1
    have eP : a + A + yq_P least opt 0 A = a + (least + opt) * A + (least + opt - least) := by
      have := yq_P_le (least := least) (opt := opt) (st := 0) (A := A) (by omega)
      unfold yq_P
      simp only [Nat.add_zero] at this ⊢
      omega
    rw [eP] at hp
    have e1 : v >>> ((3 : Int32) &&& 31) = nI least := by
      rw [h5, tk_shr (by omega)]; congr 1; omega
    have e2 : v &&& 7 = nI (least + opt) := by
      rw [h5, tk_and (by omega)]; congr 1; omega
    refine br_f (by decide) (br_t (by decide) ?_)
    unfold wpX_leastTimes wpX_mostTimes
    rw [e1, e2]
    exact xq_cntL (by omega) h3 h4 hp0 hp (fun pc ae K V N S hp' => h pc ae K V N S hp')
end XRep
end
section
section TO
theorem yq_ex {kk : Nat} {v w : Int32} (hk : kk ≤ 15) (hq : cs_q kk = true) (ht : rl_tok (nI kk) v w) : ∃ least opt st, yq_K kk v least opt st ∧ yq_K kk w least opt st := by
  have hq' := cs_qi.mp hq
  have this : kk = 7 ∨ kk = 8 ∨ kk = 9 ∨ kk = 10 ∨ kk = 11 ∨ kk = 12 ∨ kk = 14 := by clear ht; omega
  obtain ⟨k2, hk2, ek, t0, t2, t14⟩ := ht
  obtain rfl : kk = k2 := fg_ij ek (by omega) (by omega)
  rcases this with h | h | h | h | h | h | h
  · exact ⟨0, 0, 1, Or.inl ⟨h, rfl, rfl, rfl⟩, Or.inl ⟨h, rfl, rfl, rfl⟩⟩
  · exact ⟨1, 0, 1, Or.inr (Or.inl ⟨h, rfl, rfl, rfl⟩), Or.inr (Or.inl ⟨h, rfl, rfl, rfl⟩)⟩
  · exact ⟨0, 1, 0, Or.inr (Or.inr (Or.inl ⟨h, rfl, rfl, rfl⟩)), Or.inr (Or.inr (Or.inl ⟨h, rfl, rfl, rfl⟩))⟩
  · exact ⟨0, 0, 1, Or.inr (Or.inr (Or.inr (Or.inl ⟨h, rfl, rfl, rfl⟩))), Or.inr (Or.inr (Or.inr (Or.inl ⟨h, rfl, rfl, rfl⟩)))⟩
  · exact ⟨1, 0, 1, Or.inr (Or.inr (Or.inr (Or.inr (Or.inl ⟨h, rfl, rfl, rfl⟩)))), Or.inr (Or.inr (Or.inr (Or.inr (Or.inl ⟨h, rfl, rfl, rfl⟩))))⟩
  · exact ⟨0, 1, 0, Or.inr (Or.inr (Or.inr (Or.inr (Or.inr (Or.inl ⟨h, rfl, rfl, rfl⟩))))), Or.inr (Or.inr (Or.inr (Or.inr (Or.inr (Or.inl ⟨h, rfl, rfl, rfl⟩)))))⟩
  · obtain ⟨lo, hi, e1, e2, h1, h2, h3⟩ := t14 h
    have e : 8 * lo + (lo + (hi - lo)) = 8 * lo + hi := by omega
    exact ⟨lo, hi - lo, 0, Or.inr (Or.inr (Or.inr (Or.inr (Or.inr (Or.inr ⟨h, rfl, by omega, by omega, by omega, by rw [e]; exact e1⟩))))), Or.inr (Or.inr (Or.inr (Or.inr (Or.inr (Or.inr ⟨h, rfl, by omega, by omega, by omega, by rw [e]; exact e2⟩)))))⟩
theorem yq_len {o n least opt st A : Nat} (hn : n ≤ 2 * A) : qf_at o n least (least + opt) + st * (n + 2) ≤ o + 2 * ((least + opt + st) * A + opt + st) := by
  have h1 : (least + opt + st) * n ≤ (least + opt + st) * (2 * A) := Nat.mul_le_mul_left _ hn
  unfold qf_at
  rw [Nat.mul_add, show least + opt - least = opt by omega]
  rw [Nat.add_mul (least + opt) st n, ← Nat.mul_assoc, Nat.mul_comm (least + opt + st) 2, Nat.mul_assoc] at h1
  omega
variable {f_tokens f_faultPlace f_length f_pieces f_patternEntry f_hasPattern f_tooLarge f_level f_groups f_atomStart f_atomEntry f_choices f_wayPiece f_wayPlace : Int32} {f_wayNotes : Int64} {f_hasResult f_resultStart f_resultEnd : Int32} {f_resultNotes : Int64} {a_tokenKind a_tokenValue a_text a_pieceKind a_pieceValue a_pieceNext a_pieceSecond a_levelGroup a_levelStart a_levelEntry a_branchStart a_branchEntry : Nat → Int32} {a_placesSeen : Nat → Int64} {a_choicePiece a_choicePlace : Nat → Int32} {a_choiceNotes : Nat → Int64}
variable {g_count g_place g_end g_size g_large g_ready g_depth g_groups g_atom g_atomSize g_length g_found : Int32} {b_kind b_value b_op b_with b_one b_two b_copyOp b_copyWith b_copyOne b_copyTwo b_opened b_branch b_sizes b_jumps b_groupOf b_text : Nat → Int32} {b_met : Nat → Int64} {b_todo b_notes : Nat → Int32}
variable {lv pc en sz g c i kk : Nat} {gg lsN bsN od br : Nat → Nat} {J : Nat → List Nat} {w : Int32}
theorem tk_quant (hc : c ≤ 24) (hi : i < c) (hk : kk ≤ 15) (hq : cs_q kk = true) (hK : a_tokenKind i = nI kk) (ht : rl_tok (nI kk) (a_tokenValue i) w)
    (H : cq_A true lv pc en sz gg lsN bsN od br J f_atomStart f_atomEntry g_atom g_atomSize a_pieceKind a_pieceValue a_pieceNext a_pieceSecond a_levelGroup a_levelStart a_levelEntry a_branchStart a_branchEntry b_op b_with b_one b_two b_opened b_branch b_sizes b_jumps b_groupOf) :
    tk_C (nI c) f_faultPlace f_length (nI pc) f_patternEntry f_hasPattern 0 (nI lv) (nI g) f_atomStart f_atomEntry f_choices f_wayPiece f_wayPlace f_wayNotes f_hasResult f_resultStart f_resultEnd f_resultNotes a_tokenKind a_tokenValue a_text a_pieceKind a_pieceValue a_pieceNext a_pieceSecond a_levelGroup a_levelStart a_levelEntry a_branchStart a_branchEntry a_placesSeen a_choicePiece a_choicePlace a_choiceNotes g_count g_place (nI en) (nI sz) (cq_la sz) g_ready (nI (lv + 1)) (nI g) g_atom g_atomSize g_length g_found b_kind b_value b_op b_with b_one b_two b_copyOp b_copyWith b_copyOne b_copyTwo b_opened b_branch b_sizes b_jumps b_groupOf b_text b_met b_todo b_notes i kk w (lv, g, false) := by
  obtain ⟨HK, has, hb1, hb0, B1, B2, S1, S2⟩ := H
  obtain ⟨rfl, haz, rfl⟩ := hb1 rfl
  have hlv := HK.1
  have hpc := HK.2.1
  have hen := HK.2.2.1
  have k4 := HK.2.2.2.1
  have k6 := HK.2.2.2.2.2.1
  have k7 := HK.2.2.2.2.2.2.1
  have k8 := HK.2.2.2.2.2.2.2.1
  have k9 := HK.2.2.2.2.2.2.2.2.1
  have k10 := HK.2.2.2.2.2.2.2.2.2.1
  have k11 := HK.2.2.2.2.2.2.2.2.2.2.1
  obtain ⟨f1, f2, f3, f4, f5, f6, f7, f8, f9, f10, f11, f12, f13⟩ := HK.2.2.2.2.2.2.2.2.2.2.2.1 lv (Nat.le_refl _)
  obtain ⟨hszb, hsz, hsz2, hop⟩ := cq_szb HK
  obtain ⟨least, opt, st, hKv, hKw⟩ := yq_ex hk hq ht
  obtain ⟨b1, b2, b3, b4, b5⟩ := yq_K_b hKv
  obtain ⟨A, rfl⟩ : ∃ A, pc = lsN (lv + 1) + A := ⟨pc - lsN (lv + 1), by omega⟩
  rw [Nat.add_sub_cancel_left] at haz
  subst haz
  have hPb : yq_P least opt st A ≤ 400 := by
    have : (least + opt + st) * A ≤ 9 * 36 := Nat.mul_le_mul (by omega) (by omega)
    unfold yq_P; omega
  have at0 : (0 : Int32) ≤ nI (od (lv + 1)) := nI_pos' (by omega)
  by_cases hp : lsN (lv + 1) + A + yq_P least opt st A ≤ 36
  · left
    obtain ⟨K, V, N, S, ae', x1, x2, x3, x4, x5⟩ := xr_OK (f_tokens := nI c) (f_faultPlace := f_faultPlace) (f_length := f_length) (f_patternEntry := f_patternEntry) (f_hasPattern := f_hasPattern) (f_level := nI lv) (f_groups := nI g) (f_atomEntry := f_atomEntry) (f_choices := f_choices) (f_wayPiece := f_wayPiece) (f_wayPlace := f_wayPlace) (f_wayNotes := f_wayNotes) (f_hasResult := f_hasResult) (f_resultStart := f_resultStart) (f_resultEnd := f_resultEnd) (f_resultNotes := f_resultNotes) (a_tokenKind := a_tokenKind) (a_tokenValue := a_tokenValue) (a_text := a_text) (a_pieceKind := a_pieceKind) (a_pieceValue := a_pieceValue) (a_pieceNext := a_pieceNext) (a_pieceSecond := a_pieceSecond) (a_levelGroup := a_levelGroup) (a_levelStart := a_levelStart) (a_levelEntry := a_levelEntry) (a_branchStart := a_branchStart) (a_branchEntry := a_branchEntry) (a_placesSeen := a_placesSeen) (a_choicePiece := a_choicePiece) (a_choicePlace := a_choicePlace) (a_choiceNotes := a_choiceNotes) (a := lsN (lv + 1)) (A := A) hKv hp k10 k11
    have hX : ∀ (post : SX → Prop) (n : Nat), wX_buildPattern_32 post n (nI (i + 1)) (nI c) f_faultPlace f_length (nI (lsN (lv + 1) + A + yq_P least opt st A)) f_patternEntry f_hasPattern 0 (nI lv) (nI g) (nI (lsN (lv + 1))) ae' f_choices f_wayPiece f_wayPlace f_wayNotes f_hasResult f_resultStart f_resultEnd f_resultNotes a_tokenKind a_tokenValue a_text K V N S a_levelGroup a_levelStart a_levelEntry a_branchStart a_branchEntry a_placesSeen a_choicePiece a_choicePlace a_choiceNotes → wX_buildPattern_32 post (n + 1) (nI i) (nI c) f_faultPlace f_length (nI (lsN (lv + 1) + A)) f_patternEntry f_hasPattern 0 (nI lv) (nI g) (nI (lsN (lv + 1))) f_atomEntry f_choices f_wayPiece f_wayPlace f_wayNotes f_hasResult f_resultStart f_resultEnd f_resultNotes a_tokenKind a_tokenValue a_text a_pieceKind a_pieceValue a_pieceNext a_pieceSecond a_levelGroup a_levelStart a_levelEntry a_branchStart a_branchEntry a_placesSeen a_choicePiece a_choicePlace a_choiceNotes := by
      intro post n h
      exact xl_quant (F := fun u => u = (nI c, f_faultPlace, f_length, nI (lsN (lv + 1) + A + yq_P least opt st A), f_patternEntry, f_hasPattern, 0, nI lv, nI g, nI (lsN (lv + 1)), ae', f_choices, f_wayPiece, f_wayPlace, f_wayNotes, f_hasResult, f_resultStart, f_resultEnd, f_resultNotes, a_tokenKind, a_tokenValue, a_text, K, V, N, S, a_levelGroup, a_levelStart, a_levelEntry, a_branchStart, a_branchEntry, a_placesSeen, a_choicePiece, a_choicePlace, a_choiceNotes)) hc hi hk hq hK rfl (fun post' h' => x5 post' (h' _ rfl)) (fun u hu => by rw [hu]; exact h)
    by_cases hs : sz + yq_P least opt st A ≤ 36
    · have hen2 := hsz2 (by omega)
      obtain ⟨c1, c2⟩ := HK.2.2.2.2.2.2.2.2.2.2.2.2 (by omega)
      have hoe := c2.1
      have hob := c2.2.2.1
      obtain ⟨n, rfl⟩ : ∃ n, en = od (lv + 1) + n := ⟨en - od (lv + 1), by omega⟩
      have hbd := cq_bound k4 k6 c1 (lv + 1) (Nat.le_refl _)
      have hlen := yq_len (o := od (lv + 1)) (n := n) (least := least) (opt := opt) (st := st) (A := A) (by omega)
      have hPl := yq_P_le (least := least) (opt := opt) (st := st) (A := A) b5
      have hPe : yq_P least opt st A + A = (least + opt + st) * A + opt + st := by unfold yq_P; omega
      have hE : qf_at (od (lv + 1)) n least (least + opt) + st * (n + 2) ≤ 72 := by omega
      obtain ⟨O, W, F, G, e1, e2, e3, e4, y1, y2, y3, y4, y5, y6⟩ := cy_quantC (g_count := g_count) (g_place := g_place) (g_ready := g_ready) (g_depth := nI (lv + 1)) (g_groups := nI g) (g_length := g_length) (g_found := g_found) (b_kind := b_kind) (b_value := b_value) (b_op := b_op) (b_with := b_with) (b_one := b_one) (b_two := b_two) (b_copyOp := b_copyOp) (b_copyWith := b_copyWith) (b_copyOne := b_copyOne) (b_copyTwo := b_copyTwo) (b_opened := b_opened) (b_branch := b_branch) (b_sizes := b_sizes) (b_jumps := b_jumps) (b_groupOf := b_groupOf) (b_text := b_text) (b_met := b_met) (b_todo := b_todo) (b_notes := b_notes) (o := od (lv + 1)) (n := n) (A := A) (sz := sz) hKw hs (by omega) (by omega) B1 B2 S1 S2
      refine ⟨lv, lsN (lv + 1) + A + yq_P least opt st A, qf_at (od (lv + 1)) n least (least + opt) + st * (n + 2), sz + yq_P least opt st A, gg, lsN, bsN, od, br, J, nI (lsN (lv + 1)), ae', -1, nI A, K, V, N, S, a_levelGroup, a_levelStart, a_levelEntry, a_branchStart, a_branchEntry, O, W, F, G, e1, e2, e3, e4, b_opened, b_branch, b_sizes, b_jumps, b_groupOf, rfl, ⟨?_, Or.inr rfl, (fun h => by cases h), fun _ => rfl, y1, y2, y3, y4⟩, hX, fun post h => ?_⟩
      · exact cq_atom HK hp (by omega) (by omega) (by omega) x2 x3 (by omega) (fun _ hF => ⟨x4 _ _ _ _ hF y5, y5.1, x1⟩)
      · rw [cq_la0 hs] at h
        refine ya_quant hk hq at0 ?_
        exact y6 _ h
    · refine ⟨lv, lsN (lv + 1) + A + yq_P least opt st A, en, sz + yq_P least opt st A, gg, lsN, bsN, od, br, J, nI (lsN (lv + 1)), ae', -1, nI A, K, V, N, S, a_levelGroup, a_levelStart, a_levelEntry, a_branchStart, a_branchEntry, b_op, b_with, b_one, b_two, b_copyOp, b_copyWith, b_copyOne, b_copyTwo, b_opened, b_branch, b_sizes, b_jumps, b_groupOf, rfl, ⟨?_, Or.inr rfl, (fun h => by cases h), fun _ => rfl, B1, B2, S1, S2⟩, hX, fun post h => ?_⟩
      · exact cq_atom HK hp (by omega) (by omega) (by omega) x2 x3 (by omega) (fun h _ => absurd h hs)
      · rw [cq_la1 (show 36 < sz + yq_P least opt st A by omega)] at h
        refine ya_quant hk hq at0 ?_
        exact cy_quantL hKw (by omega) (by omega) h
  · right
    refine ⟨fun post n h => ?_, ?_⟩
    · refine xl_quant (F := fun u => ∃ (pc' : Nat) (ae : Int32) (K V N S : Nat → Int32), pc' ≤ 36 ∧ u = (nI c, f_faultPlace, f_length, nI pc', f_patternEntry, f_hasPattern, 1, nI lv, nI g, nI (lsN (lv + 1)), ae, f_choices, f_wayPiece, f_wayPlace, f_wayNotes, f_hasResult, f_resultStart, f_resultEnd, f_resultNotes, a_tokenKind, a_tokenValue, a_text, K, V, N, S, a_levelGroup, a_levelStart, a_levelEntry, a_branchStart, a_branchEntry, a_placesSeen, a_choicePiece, a_choicePlace, a_choiceNotes)) hc hi hk hq hK rfl (fun post' h' => xr_L hKv hpc (by omega) (fun pc' ae K V N S hp' => h' _ ⟨pc', ae, K, V, N, S, hp', rfl⟩)) (fun u hu => ?_)
      obtain ⟨pc', ae, K, V, N, S, hp', hu⟩ := hu
      rw [hu]
      exact xl_done (by omega) hc (by omega) hp' (Or.inr ⟨lsN (lv + 1), bsN lv, rfl, by omega, f5, by omega⟩) h
    · refine ⟨nI (sz + yq_P least opt st A), nI (lv + 1), nI g, -1, nI A, b_opened, b_branch, b_sizes, b_jumps, b_groupOf, ⟨rfl, rfl, rfl, ⟨en, by omega, rfl⟩, (fun h => by cases h), fun _ => rfl, hop⟩, fun post h => ?_⟩
      refine ya_quant hk hq at0 ?_
      exact cy_quantL hKw (by omega) (by omega) h
end TO
end
section
section TP
variable {f_tokens f_faultPlace f_length f_pieces f_patternEntry f_hasPattern f_tooLarge f_level f_groups f_atomStart f_atomEntry f_choices f_wayPiece f_wayPlace : Int32} {f_wayNotes : Int64} {f_hasResult f_resultStart f_resultEnd : Int32} {f_resultNotes : Int64} {a_tokenKind a_tokenValue a_text a_pieceKind a_pieceValue a_pieceNext a_pieceSecond a_levelGroup a_levelStart a_levelEntry a_branchStart a_branchEntry : Nat → Int32} {a_placesSeen : Nat → Int64} {a_choicePiece a_choicePlace : Nat → Int32} {a_choiceNotes : Nat → Int64}
variable {g_count g_place g_end g_size g_large g_ready g_depth g_groups g_atom g_atomSize g_length g_found : Int32} {b_kind b_value b_op b_with b_one b_two b_copyOp b_copyWith b_copyOne b_copyTwo b_opened b_branch b_sizes b_jumps b_groupOf b_text : Nat → Int32} {b_met : Nat → Int64} {b_todo b_notes : Nat → Int32}
variable {lv pc en sz g c i kk : Nat} {gg lsN bsN od br : Nat → Nat} {J : Nat → List Nat} {b : Bool} {w : Int32}
theorem tk_step (hc : c ≤ 24) (hi : i < c) (hk : kk ≤ 15) (hK : a_tokenKind i = nI kk) (ht : rl_tok (nI kk) (a_tokenValue i) w) (hbad : ¬ cs_bad kk (lv, g, b)) (hl : lv ≤ i) (hg : g ≤ 3)
    (H : cq_A b lv pc en sz gg lsN bsN od br J f_atomStart f_atomEntry g_atom g_atomSize a_pieceKind a_pieceValue a_pieceNext a_pieceSecond a_levelGroup a_levelStart a_levelEntry a_branchStart a_branchEntry b_op b_with b_one b_two b_opened b_branch b_sizes b_jumps b_groupOf) :
    tk_C (nI c) f_faultPlace f_length (nI pc) f_patternEntry f_hasPattern 0 (nI lv) (nI g) f_atomStart f_atomEntry f_choices f_wayPiece f_wayPlace f_wayNotes f_hasResult f_resultStart f_resultEnd f_resultNotes a_tokenKind a_tokenValue a_text a_pieceKind a_pieceValue a_pieceNext a_pieceSecond a_levelGroup a_levelStart a_levelEntry a_branchStart a_branchEntry a_placesSeen a_choicePiece a_choicePlace a_choiceNotes g_count g_place (nI en) (nI sz) (cq_la sz) g_ready (nI (lv + 1)) (nI g) g_atom g_atomSize g_length g_found b_kind b_value b_op b_with b_one b_two b_copyOp b_copyWith b_copyOne b_copyTwo b_opened b_branch b_sizes b_jumps b_groupOf b_text b_met b_todo b_notes i kk w (cs_step kk (lv, g, b)) := by
  by_cases hq : cs_q kk = true
  · have hb : b = true := by
      cases b with
      | true => rfl
      | false => exact absurd (Or.inl ⟨hq, rfl⟩) hbad
    subst hb
    have hq' := cs_qi.mp hq
    have es : cs_step kk (lv, g, true) = (lv, g, false) := by
      unfold cs_step cs_b
      rw [hq]
      dsimp only
      rw [if_neg (by omega), if_neg (by omega), if_neg (by omega)]
      simp
    rw [es]
    exact tk_quant hc hi hk hq hK ht H
  · have hq' : ¬ ((7 ≤ kk ∧ kk ≤ 12) ∨ kk = 14) := fun h => hq (cs_qi.mpr h)
    by_cases k3 : kk = 3
    · subst k3
      have g3 : ¬ g = 3 := fun e => hbad (Or.inr (Or.inr ⟨rfl, e⟩))
      exact tk_open3 hc hi hK (by omega) (by omega) H
    · by_cases k4 : kk = 4
      · subst k4
        exact tk_open4 hc hi hK (by omega) H
      · by_cases k5 : kk = 5
        · subst k5
          obtain ⟨l, rfl⟩ : ∃ l, lv = l + 1 := by
            rcases Nat.eq_zero_or_pos lv with e | e
            · exact absurd (Or.inr (Or.inl ⟨rfl, e⟩)) hbad
            · exact ⟨lv - 1, by omega⟩
          exact tk_close hc hi hK H
        · by_cases k6 : kk = 6
          · subst k6
            exact tk_bar hc hi hK H
          · exact tk_atom hc hi hk hK ht (by omega) H
/-- behind the last token -/
def cm_R (f_tokens f_faultPlace f_length f_pieces f_patternEntry f_hasPattern f_tooLarge f_level f_groups f_atomStart f_atomEntry f_choices f_wayPiece f_wayPlace : Int32) (f_wayNotes : Int64) (f_hasResult f_resultStart f_resultEnd : Int32) (f_resultNotes : Int64) (a_tokenKind a_tokenValue a_text a_pieceKind a_pieceValue a_pieceNext a_pieceSecond a_levelGroup a_levelStart a_levelEntry a_branchStart a_branchEntry : Nat → Int32) (a_placesSeen : Nat → Int64) (a_choicePiece a_choicePlace : Nat → Int32) (a_choiceNotes : Nat → Int64) (g_count g_place g_end g_size g_large g_ready g_depth g_groups g_atom g_atomSize g_length g_found : Int32) (b_kind b_value b_op b_with b_one b_two b_copyOp b_copyWith b_copyOne b_copyTwo b_opened b_branch b_sizes b_jumps b_groupOf b_text : Nat → Int32) (b_met : Nat → Int64) (b_todo b_notes : Nat → Int32) (c i d : Nat) : Prop :=
  (∃ (P E : Nat) (pe : Int32) (K V N S O W F G : Nat → Int32), P ≤ 36 ∧ E ≤ 72 ∧ O E = 6 ∧ fg_F (fg_q O W F G) (fg_q K V N S) 0 E 0 P pe ∧ rl_B O ∧ rl_B W ∧ rl_S F ∧ rl_S G ∧
    (∀ post : SX → Prop, (∀ (lv gr as_ ae : Int32) (lg ls le bs be : Nat → Int32), post (f_tokens, f_faultPlace, f_length, nI P, pe, f_hasPattern, 0, lv, gr, as_, ae, f_choices, f_wayPiece, f_wayPlace, f_wayNotes, f_hasResult, f_resultStart, f_resultEnd, f_resultNotes, a_tokenKind, a_tokenValue, a_text, K, V, N, S, lg, ls, le, bs, be, a_placesSeen, a_choicePiece, a_choicePlace, a_choiceNotes)) → wX_buildPattern_32 post (d + 2) (nI i) f_tokens f_faultPlace f_length f_pieces f_patternEntry f_hasPattern f_tooLarge f_level f_groups f_atomStart f_atomEntry f_choices f_wayPiece f_wayPlace f_wayNotes f_hasResult f_resultStart f_resultEnd f_resultNotes a_tokenKind a_tokenValue a_text a_pieceKind a_pieceValue a_pieceNext a_pieceSecond a_levelGroup a_levelStart a_levelEntry a_branchStart a_branchEntry a_placesSeen a_choicePiece a_choicePlace a_choiceNotes) ∧
    (∀ post : Int32 → SY → Prop, (∀ (sz la dp gr at_ az : Int32) (c1 c2 c3 c4 opd brn szs jmp gof : Nat → Int32), post 0 (g_count, (-1), nI (E + 1), sz, la, 1, dp, gr, at_, az, g_length, g_found, b_kind, b_value, O, W, F, G, c1, c2, c3, c4, opd, brn, szs, jmp, gof, b_text, b_met, b_todo, b_notes)) → wY_compile_47 post (d + 1) (nI i) g_count g_place g_end g_size g_large g_ready g_depth g_groups g_atom g_atomSize g_length g_found b_kind b_value b_op b_with b_one b_two b_copyOp b_copyWith b_copyOne b_copyTwo b_opened b_branch b_sizes b_jumps b_groupOf b_text b_met b_todo b_notes)) ∨
  ((∀ post : SX → Prop, (∀ (pc pe lv gr as_ ae : Int32) (K V N S lg ls le bs be : Nat → Int32), post (f_tokens, f_faultPlace, f_length, pc, pe, f_hasPattern, 1, lv, gr, as_, ae, f_choices, f_wayPiece, f_wayPlace, f_wayNotes, f_hasResult, f_resultStart, f_resultEnd, f_resultNotes, a_tokenKind, a_tokenValue, a_text, K, V, N, S, lg, ls, le, bs, be, a_placesSeen, a_choicePiece, a_choicePlace, a_choiceNotes)) → wX_buildPattern_32 post (d + 2) (nI i) f_tokens f_faultPlace f_length f_pieces f_patternEntry f_hasPattern f_tooLarge f_level f_groups f_atomStart f_atomEntry f_choices f_wayPiece f_wayPlace f_wayNotes f_hasResult f_resultStart f_resultEnd f_resultNotes a_tokenKind a_tokenValue a_text a_pieceKind a_pieceValue a_pieceNext a_pieceSecond a_levelGroup a_levelStart a_levelEntry a_branchStart a_branchEntry a_placesSeen a_choicePiece a_choicePlace a_choiceNotes) ∧
    (∀ post : Int32 → SY → Prop, (∀ (en sz dp gr at_ az : Int32) (O W F G c1 c2 c3 c4 opd brn szs jmp gof : Nat → Int32), rl_B O → rl_B W → rl_S F → rl_S G → post 2 (g_count, nI c, en, sz, 1, g_ready, dp, gr, at_, az, g_length, g_found, b_kind, b_value, O, W, F, G, c1, c2, c3, c4, opd, brn, szs, jmp, gof, b_text, b_met, b_todo, b_notes)) → wY_compile_47 post (d + 1) (nI i) g_count g_place g_end g_size g_large g_ready g_depth g_groups g_atom g_atomSize g_length g_found b_kind b_value b_op b_with b_one b_two b_copyOp b_copyWith b_copyOne b_copyTwo b_opened b_branch b_sizes b_jumps b_groupOf b_text b_met b_todo b_notes))
theorem tk_end (hc : c ≤ 24)
    (H : cq_A b 0 pc en sz gg lsN bsN od br J f_atomStart f_atomEntry g_atom g_atomSize a_pieceKind a_pieceValue a_pieceNext a_pieceSecond a_levelGroup a_levelStart a_levelEntry a_branchStart a_branchEntry b_op b_with b_one b_two b_opened b_branch b_sizes b_jumps b_groupOf) :
    cm_R (nI c) f_faultPlace f_length (nI pc) f_patternEntry f_hasPattern 0 (nI 0) (nI g) f_atomStart f_atomEntry f_choices f_wayPiece f_wayPlace f_wayNotes f_hasResult f_resultStart f_resultEnd f_resultNotes a_tokenKind a_tokenValue a_text a_pieceKind a_pieceValue a_pieceNext a_pieceSecond a_levelGroup a_levelStart a_levelEntry a_branchStart a_branchEntry a_placesSeen a_choicePiece a_choicePlace a_choiceNotes (nI c) g_place (nI en) (nI sz) (cq_la sz) g_ready (nI (0 + 1)) (nI g) g_atom g_atomSize g_length g_found b_kind b_value b_op b_with b_one b_two b_copyOp b_copyWith b_copyOne b_copyTwo b_opened b_branch b_sizes b_jumps b_groupOf b_text b_met b_todo b_notes c c 0 := by
  obtain ⟨HK, has, hb1, hb0, B1, B2, S1, S2⟩ := H
  obtain ⟨N', S', be', J1, J2⟩ := tk_join (f_tokens := nI c) (f_faultPlace := f_faultPlace) (f_length := f_length) (f_pieces := nI pc) (f_patternEntry := f_patternEntry) (f_hasPattern := f_hasPattern) (f_tooLarge := 0) (f_groups := nI g) (f_atomStart := f_atomStart) (f_atomEntry := f_atomEntry) (f_choices := f_choices) (f_wayPiece := f_wayPiece) (f_wayPlace := f_wayPlace) (f_wayNotes := f_wayNotes) (f_hasResult := f_hasResult) (f_resultStart := f_resultStart) (f_resultEnd := f_resultEnd) (f_resultNotes := f_resultNotes) (a_tokenKind := a_tokenKind) (a_tokenValue := a_tokenValue) (a_text := a_text) (a_pieceKind := a_pieceKind) (a_pieceValue := a_pieceValue) (a_pieceNext := a_pieceNext) (a_pieceSecond := a_pieceSecond) (a_levelGroup := a_levelGroup) (a_levelStart := a_levelStart) (a_levelEntry := a_levelEntry) (a_branchStart := a_branchStart) (a_branchEntry := a_branchEntry) (a_placesSeen := a_placesSeen) (a_choicePiece := a_choicePiece) (a_choicePlace := a_choicePlace) (a_choiceNotes := a_choiceNotes) HK has
  have hpc := HK.2.1
  have hen := HK.2.2.1
  have k4 := HK.2.2.2.1
  have k5 := HK.2.2.2.2.1
  have k6 := HK.2.2.2.2.2.1
  obtain ⟨hszb, hsz, hsz2, hop⟩ := cq_szb HK
  have hlag : cp_lag (gg 0) (a_levelEntry 0) = if a_levelEntry 0 = -2 then 0 else 1 := by
    unfold cp_lag cp_gb; rw [k5]; simp
  have k9 : sz = pc + (0 + cp_lag (gg 0) (a_levelEntry 0)) := HK.2.2.2.2.2.2.2.2.1
  rw [hlag] at k9
  have hle : nI c ≤ nI c := nI_le (Nat.le_refl _) (by omega)
  have hv : vp_in (nI 0) 25 := vp_in_nI (by omega) (by omega)
  have e0 : (nI 0).toNatClampNeg = 0 := nI_clamp (by omega)
  by_cases hok : a_levelEntry 0 = -2 ∨ pc < 36
  · left
    obtain ⟨pc1, K, V, N, S, e1, f1, f2, f3⟩ := cx_endOK (f_tokens := nI c) (f_faultPlace := f_faultPlace) (f_length := f_length) (f_patternEntry := f_patternEntry) (f_hasPattern := f_hasPattern) (f_tooLarge := 0) (f_groups := nI g) (f_atomStart := f_atomStart) (f_atomEntry := (-1)) (f_choices := f_choices) (f_wayPiece := f_wayPiece) (f_wayPlace := f_wayPlace) (f_wayNotes := f_wayNotes) (f_hasResult := f_hasResult) (f_resultStart := f_resultStart) (f_resultEnd := f_resultEnd) (f_resultNotes := f_resultNotes) (a_tokenKind := a_tokenKind) (a_tokenValue := a_tokenValue) (a_text := a_text) (a_pieceKind := a_pieceKind) (a_pieceValue := a_pieceValue) (a_pieceNext := N') (a_pieceSecond := S') (a_levelGroup := a_levelGroup) (a_levelStart := a_levelStart) (a_levelEntry := a_levelEntry) (a_branchStart := a_branchStart) (a_branchEntry := be') (a_placesSeen := a_placesSeen) (a_choicePiece := a_choicePiece) (a_choicePlace := a_choicePlace) (a_choiceNotes := a_choiceNotes) (lv := 0) (pc := pc) (by omega) hok
    have hpc1 : pc1 = sz ∧ pc1 ≤ 36 := by
      rcases f1 with ⟨q1, _, q⟩ | ⟨q1, _, q, _⟩
      · rw [if_pos q1] at k9; omega
      · rw [if_neg q1] at k9
        have := hok.resolve_left q1; omega
    have hs : sz ≤ 36 := by omega
    have hen2 := hsz2 hs
    obtain ⟨c1, c2⟩ := J1.2.2.2.2.2.2.2.2.2.2.2.2 hs
    obtain ⟨d1, d2⟩ := c1 0 (Nat.le_refl _)
    have d2' := d2
    rw [show (0 : Nat) + 1 = 1 by omega] at d2'
    rw [show cq_u lsN (0 + 1) pc 1 = pc from cq_us, show cq_u od (0 + 1) en 1 = en from cq_us, show cq_u lsN (0 + 1) pc 0 = 0 from (cq_un (by omega)).trans k4, show cq_u od (0 + 1) en 0 = 0 from (cq_un (by omega)).trans k6, k5] at d2'
    obtain ⟨b1', b2', _⟩ := cp_L_le d2'
    obtain ⟨J0, hJ0, hJ1⟩ : ∃ J0 : List Nat, fg_JC (fg_q b_op b_with b_one b_two) J0 (b_jumps 0) ∧ ((a_levelEntry 0 = -2 ∧ J0 = []) ∨ (¬ a_levelEntry 0 = -2 ∧ J0 = J 0 ∧ ∀ j, j ∈ J 0 → j < br 0 ∧ b_op j = 4)) := by
      rcases d2'.2.1 with ⟨a1, _, _, a4⟩ | ⟨a1, a2, a3⟩
      · exact ⟨[], a4, Or.inl ⟨a1, rfl⟩⟩
      · exact ⟨J 0, a3, Or.inr ⟨a1, rfl, fun j hj => ⟨(a2.2.2.2.1 j hj).2.1, (a2.2.2.2.1 j hj).2.2⟩⟩⟩
    have hJb : ∀ j, j ∈ J0 → j < en := by
      intro j hj
      rcases hJ1 with ⟨_, h2⟩ | ⟨_, h2, h3⟩
      · rw [h2] at hj; cases hj
      · rw [h2] at hj; have := (h3 j hj).1; omega
    obtain ⟨D1, _⟩ := cp_done (m' := fg_q b_op b_with (cy_pt en J0 b_one) b_two) (x' := fg_q K V N S) (pc' := pc1) (le' := e1) d2' (by omega) (fun j j1 j2 j3 => by
        unfold fg_q
        rw [cy_pt_n J0 b_one j (fun hj => by
          rcases hJ1 with ⟨_, h2⟩ | ⟨h1, h2, h3⟩
          · rw [h2] at hj; cases hj
          · rw [h2] at hj; exact j3 h1 hj)]) (fun hne j hj => by
        rcases hJ1 with ⟨h1, _⟩ | ⟨h1, h2, h3⟩
        · exact absurd h1 hne
        · have hj0 : j ∈ J0 := by rw [h2]; exact hj
          have hlt := hJb j hj0
          refine ⟨(h3 j hj).2, ?_⟩
          show nI j + cy_pt en J0 b_one j = nI en
          rw [cy_pt_m J0 b_one j hj0, nI_add]
          congr 1; omega) (fun p _ p2 => f2 p p2) f1
    have D1' : fg_F (fg_q b_op b_with (cy_pt en J0 b_one) b_two) (fg_q K V N S) 0 en 0 pc1 e1 := D1
    refine ⟨pc1, en, e1, K, V, N, S, upd b_op en 6, upd b_with en 0, upd (cy_pt en J0 b_one) en 0, upd b_two en 0, hpc1.2, hen2, rl_us, fg_frame D1' (fun j _ j2 => fg_q_un (by omega)) (fun _ _ _ => rfl), rl_Bu B1 (cy_Bn (n := 6) (by omega)), rl_Bu B2 (cy_Bn (n := 0) (by omega)), rl_Su (cy_pt_S (by omega) J0 _ S1) (cy_Sn (n := 0) (by omega)), rl_Su S2 (cy_Sn (n := 0) (by omega)), fun post h => ?_, fun post h => ?_⟩
    · refine br_t hle ?_
      unfold wX_buildPattern_104
      refine J2 _ ?_
      refine f3 _ ?_
      refine ⟨hv, nm_r (e' := e1) (by rw [e0, rl_us]) ?_⟩
      exact h _ _ _ _ _ _ _ _ _
    · rw [cq_la0 hs]
      refine br_t hle (br_t rfl ?_)
      refine cy_closeC (m := fg_q b_op b_with b_one b_two) (J := J0) (lv := 0) (by omega) (by omega) hJ0 (fun j hj => ⟨hJb j hj, rfl⟩) ?_
      have hgof := (J1.2.2.2.2.2.2.2.2.2.2.2.1 0 (Nat.le_refl _)).2.1
      rw [k5] at hgof
      refine cy_close55_0 (by omega) hgof ?_
      refine br_t rfl ?_
      refine cy_emit (by omega) (cy_Bn (n := 6) (by omega)) (cy_Bn (n := 0) (by omega)) (cy_Sn (n := 0) (by omega)) (cy_Sn (n := 0) (by omega)) ?_
      exact h _ _ _ _ _ _ _ _ _ _ _ _ _ _ _
  · right
    have hne : ¬ a_levelEntry 0 = -2 := fun e => hok (Or.inl e)
    obtain rfl : pc = 36 := by omega
    rw [if_neg hne] at k9
    have hs : 36 < sz := by omega
    refine ⟨fun post h => ?_, fun post h => ?_⟩
    · refine br_t hle ?_
      unfold wX_buildPattern_104
      refine J2 _ ?_
      refine cx_end3 (by omega) hne ?_
      refine ⟨hv, nm_e ?_⟩
      exact h _ _ _ _ _ _ _ _ _ _ _ _ _ _ _
    · rw [cq_la1 hs]
      refine br_t hle (br_t rfl ?_)
      refine cy_close1 (lv := 0) (by omega) ?_
      exact br_f (by decide) (h _ _ _ _ _ _ _ _ _ _ _ _ _ _ _ _ _ _ _ B1 B2 S1 S2)
end TP
end
section
section TQ
theorem ff_at {kk : Nat → Nat} {c i : Nat} {r : Int32} (hR : ff_R kk c r) (hi : i < c) (hcl : ∀ j, j < i → ¬ cs_bad (kk j) (cs_st kk j)) (hb : cs_bad (kk i) (cs_st kk i)) : r = nI i := by
  rcases hR with ⟨_, h, _⟩ | ⟨i0, h1, h2, h3, h4⟩ | ⟨_, h, _⟩
  · exact absurd hb (h i hi)
  · have : i0 = i := by
      rcases Nat.lt_trichotomy i0 i with e | e | e
      · exact absurd h4 (hcl i0 e)
      · exact e
      · exact absurd hb (h3 i e)
    rw [← this]; exact h2
  · exact absurd hb (h i hi)
theorem ff_end {kk : Nat → Nat} {c : Nat} {r : Int32} (hR : ff_R kk c r) (hcl : ∀ j, j < c → ¬ cs_bad (kk j) (cs_st kk j)) : (r = -1 ∧ (cs_st kk c).1 = 0) ∨ (r = nI c ∧ 0 < (cs_st kk c).1) := by
  rcases hR with ⟨h1, _, h3⟩ | ⟨i0, h1, _, _, h4⟩ | ⟨h1, _, h3⟩
  · exact Or.inl ⟨h1, h3⟩
  · exact absurd h4 (hcl i0 h1)
  · exact Or.inr ⟨h1, h3⟩
def cm_P1 (g_count g_place g_end g_size g_large g_ready g_depth g_groups g_atom g_atomSize g_length g_found : Int32) (b_kind b_value b_op b_with b_one b_two b_copyOp b_copyWith b_copyOne b_copyTwo b_opened b_branch b_sizes b_jumps b_groupOf b_text : Nat → Int32) (b_met : Nat → Int64) (b_todo b_notes : Nat → Int32) (post : Int32 → SY → Prop) (c : Nat) (r : Int32) : Prop := ∀ (en sz la dp gr at_ az : Int32) (O W F G c1 c2 c3 c4 opd brn szs jmp gof : Nat → Int32), rl_B O → rl_B W → rl_S F → rl_S G → post 1 (nI c, r, en, sz, la, g_ready, dp, gr, at_, az, g_length, g_found, b_kind, b_value, O, W, F, G, c1, c2, c3, c4, opd, brn, szs, jmp, gof, b_text, b_met, b_todo, b_notes)
def cm_P2 (g_count g_place g_end g_size g_large g_ready g_depth g_groups g_atom g_atomSize g_length g_found : Int32) (b_kind b_value b_op b_with b_one b_two b_copyOp b_copyWith b_copyOne b_copyTwo b_opened b_branch b_sizes b_jumps b_groupOf b_text : Nat → Int32) (b_met : Nat → Int64) (b_todo b_notes : Nat → Int32) (post : Int32 → SY → Prop) (c : Nat) : Prop := ∀ (en sz dp gr at_ az : Int32) (O W F G c1 c2 c3 c4 opd brn szs jmp gof : Nat → Int32), rl_B O → rl_B W → rl_S F → rl_S G → post 2 (nI c, nI c, en, sz, 1, g_ready, dp, gr, at_, az, g_length, g_found, b_kind, b_value, O, W, F, G, c1, c2, c3, c4, opd, brn, szs, jmp, gof, b_text, b_met, b_todo, b_notes)
variable {f_tokens f_faultPlace f_length f_pieces f_patternEntry f_hasPattern f_tooLarge f_level f_groups f_atomStart f_atomEntry f_choices f_wayPiece f_wayPlace : Int32} {f_wayNotes : Int64} {f_hasResult f_resultStart f_resultEnd : Int32} {f_resultNotes : Int64} {a_tokenKind a_tokenValue a_text a_pieceKind a_pieceValue a_pieceNext a_pieceSecond a_levelGroup a_levelStart a_levelEntry a_branchStart a_branchEntry : Nat → Int32} {a_placesSeen : Nat → Int64} {a_choicePiece a_choicePlace : Nat → Int32} {a_choiceNotes : Nat → Int64}
variable {g_count g_place g_end g_size g_large g_ready g_depth g_groups g_atom g_atomSize g_length g_found : Int32} {b_kind b_value b_op b_with b_one b_two b_copyOp b_copyWith b_copyOne b_copyTwo b_opened b_branch b_sizes b_jumps b_groupOf b_text : Nat → Int32} {b_met : Nat → Int64} {b_todo b_notes : Nat → Int32}
/-- one token of the reference's loop -/
theorem yl_tok {post : Int32 → SY → Prop} {n i c kk : Nat} (hc : c ≤ 24) (hi : i < c) (hK : b_kind i = nI kk)
    (h : wpY_accept (fun r u => match u with | (g_count, g_place, g_end, g_size, g_large, g_ready, g_depth, g_groups, g_atom, g_atomSize, g_length, g_found, b_kind, b_value, b_op, b_with, b_one, b_two, b_copyOp, b_copyWith, b_copyOne, b_copyTwo, b_opened, b_branch, b_sizes, b_jumps, b_groupOf, b_text, b_met, b_todo, b_notes) => (((r = 0 → (post 1 (g_count, g_place, g_end, g_size, g_large, g_ready, g_depth, g_groups, g_atom, g_atomSize, g_length, g_found, b_kind, b_value, b_op, b_with, b_one, b_two, b_copyOp, b_copyWith, b_copyOne, b_copyTwo, b_opened, b_branch, b_sizes, b_jumps, b_groupOf, b_text, b_met, b_todo, b_notes))) ∧ (¬ r = 0 → (∀ y : Int32, y = nI i + 1 → (wY_compile_47 post n y g_count g_place g_end g_size g_large g_ready g_depth g_groups g_atom g_atomSize g_length g_found b_kind b_value b_op b_with b_one b_two b_copyOp b_copyWith b_copyOne b_copyTwo b_opened b_branch b_sizes b_jumps b_groupOf b_text b_met b_todo b_notes)))))) (nI c, nI i, g_end, g_size, g_large, g_ready, g_depth, g_groups, g_atom, g_atomSize, g_length, g_found, b_kind, b_value, b_op, b_with, b_one, b_two, b_copyOp, b_copyWith, b_copyOne, b_copyTwo, b_opened, b_branch, b_sizes, b_jumps, b_groupOf, b_text, b_met, b_todo, b_notes) (nI kk) (b_value i)) : wY_compile_47 post (n + 1) (nI i) (nI c) g_place g_end g_size g_large g_ready g_depth g_groups g_atom g_atomSize g_length g_found b_kind b_value b_op b_with b_one b_two b_copyOp b_copyWith b_copyOne b_copyTwo b_opened b_branch b_sizes b_jumps b_groupOf b_text b_met b_todo b_notes := by
  have hv : vp_in (nI i) 24 := vp_in_nI (by omega) (by omega)
  have ec : (nI i).toNatClampNeg = i := nI_clamp (by omega)
  refine br_f (nI_ge hi (by omega)) ⟨hv, hv, ?_⟩
  rw [ec, hK]
  exact h
theorem y3_loop {kk : Nat → Nat} {c : Nat} {r : Int32} {post : Int32 → SY → Prop} (hc : c ≤ 24) (hKY : ∀ j, j < c → kk j ≤ 15 ∧ b_kind j = nI (kk j)) (hR : ff_R kk c r) (B1 : rl_B b_op) (B2 : rl_B b_with) (S1 : rl_S b_one) (S2 : rl_S b_two)
    (h2 : r = -1 → cm_P2 g_count g_place g_end g_size g_large g_ready g_depth g_groups g_atom g_atomSize g_length g_found b_kind b_value b_op b_with b_one b_two b_copyOp b_copyWith b_copyOne b_copyTwo b_opened b_branch b_sizes b_jumps b_groupOf b_text b_met b_todo b_notes post c) (h1 : ¬ r = -1 → cm_P1 g_count g_place g_end g_size g_large g_ready g_depth g_groups g_atom g_atomSize g_length g_found b_kind b_value b_op b_with b_one b_two b_copyOp b_copyWith b_copyOne b_copyTwo b_opened b_branch b_sizes b_jumps b_groupOf b_text b_met b_todo b_notes post c r) : ∀ (d i : Nat) (pl sz la dp gr at_ az : Int32) (opd brn szs jmp gof : Nat → Int32), i + d = c → (∀ j, j < i → ¬ cs_bad (kk j) (cs_st kk j)) → ys_S (cs_st kk i) g_end la dp gr at_ opd →
    wY_compile_47 post (d + 1) (nI i) (nI c) pl g_end sz la g_ready dp gr at_ az g_length g_found b_kind b_value b_op b_with b_one b_two b_copyOp b_copyWith b_copyOne b_copyTwo opd brn szs jmp gof b_text b_met b_todo b_notes := by
  intro d
  induction d with
  | zero =>
    intro i pl sz la dp gr at_ az opd brn szs jmp gof hi hcl hS
    obtain rfl : i = c := by omega
    obtain ⟨rfl, rfl, rfl, he, ha, hb, ho⟩ := hS
    have hle : nI i ≤ nI i := nI_le (Nat.le_refl _) (by omega)
    have ho' := cs_o kk i
    rcases ff_end hR hcl with ⟨q1, q2⟩ | ⟨q1, q2⟩
    · rw [q2]
      refine br_t hle (br_t rfl ?_)
      refine cy_close1 (lv := 0) (by omega) ?_
      exact br_f (by decide) (h2 q1 _ _ _ _ _ _ _ _ _ _ _ _ _ _ _ _ _ _ _ B1 B2 S1 S2)
    · have n1 : ¬ nI ((cs_st kk i).1 + 1) = 1 := fun e => by
        have := (nI_eq (b := 1) (by omega) (by omega)).mp e
        omega
      refine br_t hle (br_f n1 ?_)
      have h1' := h1 (by rw [q1]; exact fg_ne (by omega))
      rw [q1] at h1'
      exact h1' _ _ _ _ _ _ _ _ _ _ _ _ _ _ _ _ _ _ _ _ B1 B2 S1 S2
  | succ d ih =>
    intro i pl sz la dp gr at_ az opd brn szs jmp gof hi hcl hS
    obtain ⟨hk, hkk⟩ := hKY i (by omega)
    have ho' := cs_o kk i
    have hg' := cs_g kk i hcl
    refine yl_tok hc (by omega) hkk ?_
    by_cases hbad : cs_bad (kk i) (cs_st kk i)
    · have hr := ff_at hR (by omega) hcl hbad
      have hr1 : ¬ r = -1 := by rw [hr]; exact fg_ne (by omega)
      obtain ⟨rfl, rfl, rfl, he, ha, hb, ho⟩ := hS
      refine ya_bad (o := (cs_st kk i).1) (g := (cs_st kk i).2.1) (b := (cs_st kk i).2.2) hk (by omega) hbad hb ?_
      refine br_t rfl ?_
      rw [← hr]
      exact h1 hr1 _ _ _ _ _ _ _ _ _ _ _ _ _ _ _ _ _ _ _ _ B1 B2 S1 S2
    · refine ys_step (v' := 0) (vx := 0) hS hk hbad (by omega) hg' (fun sz' dp' gr' at' az' opd' brn' szs' jmp' gof' hS' => ?_)
      refine br_f (by decide) (nm_r (nI_1 i) ?_)
      exact ih (i + 1) _ _ _ _ _ _ _ _ _ _ _ _ (by omega) (fun j hj => by
        by_cases e : j = i
        · rw [e]; exact hbad
        · exact hcl j (by omega)) hS'
variable {lv pc en sz g c i : Nat} {gg lsN bsN od br : Nat → Nat} {J : Nat → List Nat}
/-- no fault: both build -/
theorem cm_loop {kk : Nat → Nat} (hc : c ≤ 24) (hKX : ∀ j, j < c → kk j ≤ 15 ∧ a_tokenKind j = nI (kk j) ∧ b_kind j = nI (kk j) ∧ rl_tok (nI (kk j)) (a_tokenValue j) (b_value j)) (hcl : ∀ j, j < c → ¬ cs_bad (kk j) (cs_st kk j)) (h0 : (cs_st kk c).1 = 0) (d : Nat)
    (hi : i + d = c) (hlv : lv = (cs_st kk i).1) (hg : g = (cs_st kk i).2.1)
    (H : cq_A (cs_st kk i).2.2 lv pc en sz gg lsN bsN od br J f_atomStart f_atomEntry g_atom g_atomSize a_pieceKind a_pieceValue a_pieceNext a_pieceSecond a_levelGroup a_levelStart a_levelEntry a_branchStart a_branchEntry b_op b_with b_one b_two b_opened b_branch b_sizes b_jumps b_groupOf) :
    cm_R (nI c) f_faultPlace f_length (nI pc) f_patternEntry f_hasPattern 0 (nI lv) (nI g) f_atomStart f_atomEntry f_choices f_wayPiece f_wayPlace f_wayNotes f_hasResult f_resultStart f_resultEnd f_resultNotes a_tokenKind a_tokenValue a_text a_pieceKind a_pieceValue a_pieceNext a_pieceSecond a_levelGroup a_levelStart a_levelEntry a_branchStart a_branchEntry a_placesSeen a_choicePiece a_choicePlace a_choiceNotes (nI c) g_place (nI en) (nI sz) (cq_la sz) g_ready (nI (lv + 1)) (nI g) g_atom g_atomSize g_length g_found b_kind b_value b_op b_with b_one b_two b_copyOp b_copyWith b_copyOne b_copyTwo b_opened b_branch b_sizes b_jumps b_groupOf b_text b_met b_todo b_notes c i d := by
  induction d generalizing i lv pc en sz g gg lsN bsN od br J f_atomStart f_atomEntry a_pieceKind a_pieceValue a_pieceNext a_pieceSecond a_levelGroup a_levelStart a_levelEntry a_branchStart a_branchEntry g_place g_atom g_atomSize b_op b_with b_one b_two b_copyOp b_copyWith b_copyOne b_copyTwo b_opened b_branch b_sizes b_jumps b_groupOf with
  | zero =>
    obtain rfl : i = c := by omega
    rw [h0] at hlv
    subst hlv
    exact tk_end hc H
  | succ d ih =>
    obtain ⟨hk, hkx, hky, htok⟩ := hKX i (by omega)
    have hcl' : ∀ j, j < i → ¬ cs_bad (kk j) (cs_st kk j) := fun j hj => hcl j (by omega)
    have ho := cs_o kk i
    have hg3 := cs_g kk i hcl'
    have es : (lv, g, (cs_st kk i).2.2) = cs_st kk i := by rw [hlv, hg]
    have hS := H.2.2.2.2
    have T := tk_step (w := b_value i) (g := g) (f_faultPlace := f_faultPlace) (f_length := f_length) (f_patternEntry := f_patternEntry) (f_hasPattern := f_hasPattern) (f_atomStart := f_atomStart) (f_atomEntry := f_atomEntry) (f_choices := f_choices) (f_wayPiece := f_wayPiece) (f_wayPlace := f_wayPlace) (f_wayNotes := f_wayNotes) (f_hasResult := f_hasResult) (f_resultStart := f_resultStart) (f_resultEnd := f_resultEnd) (f_resultNotes := f_resultNotes) (a_tokenKind := a_tokenKind) (a_tokenValue := a_tokenValue) (a_text := a_text) (a_pieceKind := a_pieceKind) (a_pieceValue := a_pieceValue) (a_pieceNext := a_pieceNext) (a_pieceSecond := a_pieceSecond) (a_levelGroup := a_levelGroup) (a_levelStart := a_levelStart) (a_levelEntry := a_levelEntry) (a_branchStart := a_branchStart) (a_branchEntry := a_branchEntry) (a_placesSeen := a_placesSeen) (a_choicePiece := a_choicePiece) (a_choicePlace := a_choicePlace) (a_choiceNotes := a_choiceNotes) (g_count := nI c) (g_place := nI i) (g_ready := g_ready) (g_atom := g_atom) (g_atomSize := g_atomSize) (g_length := g_length) (g_found := g_found) (b_kind := b_kind) (b_value := b_value) (b_op := b_op) (b_with := b_with) (b_one := b_one) (b_two := b_two) (b_copyOp := b_copyOp) (b_copyWith := b_copyWith) (b_copyOne := b_copyOne) (b_copyTwo := b_copyTwo) (b_opened := b_opened) (b_branch := b_branch) (b_sizes := b_sizes) (b_jumps := b_jumps) (b_groupOf := b_groupOf) (b_text := b_text) (b_met := b_met) (b_todo := b_todo) (b_notes := b_notes) hc (show i < c by omega) hk hkx htok (by rw [es]; exact hcl i (by omega)) (by omega) (by omega) H
    rw [es] at T
    rcases T with ⟨lv', pc', en', sz', gg', lsN', bsN', od', br', J', as', ae', at', az', K, V, N, S, lg, ls, le, bs, be, O, W, F, G, c1, c2, c3, c4, opd, brn, szs, jmp, gof, e1, HA, hX, hY⟩ | ⟨hX, sz', dp, gr, at', az', opd, brn, szs, jmp, gof, hS', hY⟩
    · have I := ih (i := i + 1) (lv := lv') (g := (cs_st kk (i + 1)).2.1) (g_place := nI i) (b_copyOp := c1) (b_copyWith := c2) (b_copyOne := c3) (b_copyTwo := c4) (by omega) e1 rfl HA
      rcases I with ⟨P, E, pe, K', V', N', S', O', W', F', G', q1, q2, q3, q4, q5, q6, q7, q8, iX, iY⟩ | ⟨iX, iY⟩
      · refine Or.inl ⟨P, E, pe, K', V', N', S', O', W', F', G', q1, q2, q3, q4, q5, q6, q7, q8, fun post h => hX post (d + 2) (iX post h), fun post h => ?_⟩
        refine yl_tok hc (by omega) hky ?_
        refine hY _ ?_
        exact br_f (by decide) (nm_r (nI_1 i) (iY post h))
      · refine Or.inr ⟨fun post h => hX post (d + 2) (iX post h), fun post h => ?_⟩
        refine yl_tok hc (by omega) hky ?_
        refine hY _ ?_
        exact br_f (by decide) (nm_r (nI_1 i) (iY post h))
    · refine Or.inr ⟨fun post h => hX post (d + 1) h, fun post h => ?_⟩
      refine yl_tok hc (by omega) hky ?_
      refine hY _ ?_
      refine br_f (by decide) (nm_r (nI_1 i) ?_)
      exact y3_loop (g_count := 0) (g_place := 0) (g_size := 0) (g_large := 0) (g_depth := 0) (g_groups := 0) (g_atom := 0) (g_atomSize := 0) (b_opened := fun _ => 0) (b_branch := fun _ => 0) (b_sizes := fun _ => 0) (b_jumps := fun _ => 0) (b_groupOf := fun _ => 0) hc (fun j hj => ⟨(hKX j hj).1, (hKX j hj).2.2.1⟩) (Or.inl ⟨rfl, hcl, h0⟩) hS.1 hS.2.1 hS.2.2.1 hS.2.2.2 (fun _ => h) (fun hh => absurd rfl hh) d (i + 1) _ _ _ _ _ _ _ _ _ _ _ _ (by omega) (fun j hj => hcl j (by omega)) hS'
/-- a fault: the reference finds it too -/
theorem fl_loop {kk : Nat → Nat} {r : Int32} {post : Int32 → SY → Prop} (hc : c ≤ 24) (hKX : ∀ j, j < c → kk j ≤ 15 ∧ a_tokenKind j = nI (kk j) ∧ b_kind j = nI (kk j) ∧ rl_tok (nI (kk j)) (a_tokenValue j) (b_value j)) (hR : ff_R kk c r) (hr : ¬ r = -1) (d : Nat)
    (hi : i + d = c) (hcl : ∀ j, j < i → ¬ cs_bad (kk j) (cs_st kk j)) (hlv : lv = (cs_st kk i).1) (hg : g = (cs_st kk i).2.1)
    (H : cq_A (cs_st kk i).2.2 lv pc en sz gg lsN bsN od br J f_atomStart f_atomEntry g_atom g_atomSize a_pieceKind a_pieceValue a_pieceNext a_pieceSecond a_levelGroup a_levelStart a_levelEntry a_branchStart a_branchEntry b_op b_with b_one b_two b_opened b_branch b_sizes b_jumps b_groupOf)
    (h : cm_P1 g_count g_place g_end g_size g_large g_ready g_depth g_groups g_atom g_atomSize g_length g_found b_kind b_value b_op b_with b_one b_two b_copyOp b_copyWith b_copyOne b_copyTwo b_opened b_branch b_sizes b_jumps b_groupOf b_text b_met b_todo b_notes post c r) :
    wY_compile_47 post (d + 1) (nI i) (nI c) g_place (nI en) (nI sz) (cq_la sz) g_ready (nI (lv + 1)) (nI g) g_atom g_atomSize g_length g_found b_kind b_value b_op b_with b_one b_two b_copyOp b_copyWith b_copyOne b_copyTwo b_opened b_branch b_sizes b_jumps b_groupOf b_text b_met b_todo b_notes := by
  induction d generalizing i lv pc en sz g gg lsN bsN od br J f_atomStart f_atomEntry a_pieceKind a_pieceValue a_pieceNext a_pieceSecond a_levelGroup a_levelStart a_levelEntry a_branchStart a_branchEntry g_place g_atom g_atomSize b_op b_with b_one b_two b_copyOp b_copyWith b_copyOne b_copyTwo b_opened b_branch b_sizes b_jumps b_groupOf with
  | zero =>
    obtain rfl : i = c := by omega
    have hS := H.2.2.2.2
    have hle : nI i ≤ nI i := nI_le (Nat.le_refl _) (by omega)
    have ho' := cs_o kk i
    rcases ff_end hR hcl with ⟨q1, q2⟩ | ⟨q1, q2⟩
    · exact absurd q1 hr
    · have n1 : ¬ nI (lv + 1) = 1 := fun e => by
        have := (nI_eq (b := 1) (by omega) (by omega)).mp e
        omega
      refine br_t hle (br_f n1 ?_)
      rw [q1] at h
      exact h _ _ _ _ _ _ _ _ _ _ _ _ _ _ _ _ _ _ _ _ hS.1 hS.2.1 hS.2.2.1 hS.2.2.2
  | succ d ih =>
    obtain ⟨hk, hkx, hky, htok⟩ := hKX i (by omega)
    have ho := cs_o kk i
    have hg3 := cs_g kk i hcl
    have es : (lv, g, (cs_st kk i).2.2) = cs_st kk i := by rw [hlv, hg]
    have hS := H.2.2.2.2
    refine yl_tok hc (by omega) hky ?_
    by_cases hbad : cs_bad (kk i) (cs_st kk i)
    · have hri := ff_at hR (by omega) hcl hbad
      refine ya_bad (o := lv) (g := g) (b := (cs_st kk i).2.2) hk (by omega) (by rw [es]; exact hbad) H.2.2.2.1 ?_
      refine br_t rfl ?_
      rw [← hri]
      exact h _ _ _ _ _ _ _ _ _ _ _ _ _ _ _ _ _ _ _ _ hS.1 hS.2.1 hS.2.2.1 hS.2.2.2
    · have hcl2 : ∀ j, j < i + 1 → ¬ cs_bad (kk j) (cs_st kk j) := fun j hj => by
        by_cases e : j = i
        · rw [e]; exact hbad
        · exact hcl j (by omega)
      have T := tk_step (w := b_value i) (g := g) (f_faultPlace := 0) (f_length := 0) (f_patternEntry := 0) (f_hasPattern := 0) (f_atomStart := f_atomStart) (f_atomEntry := f_atomEntry) (f_choices := 0) (f_wayPiece := 0) (f_wayPlace := 0) (f_wayNotes := 0) (f_hasResult := 0) (f_resultStart := 0) (f_resultEnd := 0) (f_resultNotes := 0) (a_tokenKind := a_tokenKind) (a_tokenValue := a_tokenValue) (a_text := fun _ => 0) (a_pieceKind := a_pieceKind) (a_pieceValue := a_pieceValue) (a_pieceNext := a_pieceNext) (a_pieceSecond := a_pieceSecond) (a_levelGroup := a_levelGroup) (a_levelStart := a_levelStart) (a_levelEntry := a_levelEntry) (a_branchStart := a_branchStart) (a_branchEntry := a_branchEntry) (a_placesSeen := fun _ => 0) (a_choicePiece := fun _ => 0) (a_choicePlace := fun _ => 0) (a_choiceNotes := fun _ => 0) (g_count := nI c) (g_place := nI i) (g_ready := g_ready) (g_atom := g_atom) (g_atomSize := g_atomSize) (g_length := g_length) (g_found := g_found) (b_kind := b_kind) (b_value := b_value) (b_op := b_op) (b_with := b_with) (b_one := b_one) (b_two := b_two) (b_copyOp := b_copyOp) (b_copyWith := b_copyWith) (b_copyOne := b_copyOne) (b_copyTwo := b_copyTwo) (b_opened := b_opened) (b_branch := b_branch) (b_sizes := b_sizes) (b_jumps := b_jumps) (b_groupOf := b_groupOf) (b_text := b_text) (b_met := b_met) (b_todo := b_todo) (b_notes := b_notes) hc (show i < c by omega) hk hkx htok (by rw [es]; exact hbad) (by omega) (by omega) H
      rw [es] at T
      rcases T with ⟨lv', pc', en', sz', gg', lsN', bsN', od', br', J', as', ae', at', az', K, V, N, S, lg, ls, le, bs, be, O, W, F, G, c1, c2, c3, c4, opd, brn, szs, jmp, gof, e1, HA, hX, hY⟩ | ⟨hX, sz', dp, gr, at', az', opd, brn, szs, jmp, gof, hS', hY⟩
      · refine hY _ ?_
        refine br_f (by decide) (nm_r (nI_1 i) ?_)
        exact ih (i := i + 1) (lv := lv') (g := (cs_st kk (i + 1)).2.1) (g_place := nI i) (b_copyOp := c1) (b_copyWith := c2) (b_copyOne := c3) (b_copyTwo := c4) (by omega) hcl2 e1 rfl HA h
      · refine hY _ ?_
        refine br_f (by decide) (nm_r (nI_1 i) ?_)
        exact y3_loop (g_count := 0) (g_place := 0) (g_size := 0) (g_large := 0) (g_depth := 0) (g_groups := 0) (g_atom := 0) (g_atomSize := 0) (b_opened := fun _ => 0) (b_branch := fun _ => 0) (b_sizes := fun _ => 0) (b_jumps := fun _ => 0) (b_groupOf := fun _ => 0) hc (fun j hj => ⟨(hKX j hj).1, (hKX j hj).2.2.1⟩) hR hS.1 hS.2.1 hS.2.2.1 hS.2.2.2 (fun hh => absurd hh hr) (fun _ => h) d (i + 1) _ _ _ _ _ _ _ _ _ _ _ _ (by omega) hcl2 hS'
end TQ
end
section
section CZ
/-- how a building begins -/
theorem cz_init (K V N S lg ls le bs be O W F G opd brn szs jmp gof : Nat → Int32) (as_ az : Int32) (B1 : rl_B O) (B2 : rl_B W) (S1 : rl_S F) (S2 : rl_S G) :
    cq_A false 0 0 0 0 (fun _ => 0) (fun _ => 0) (fun _ => 0) (fun _ => 0) (fun _ => 0) (fun _ => []) as_ (-1) (-1) az K V N S (upd lg 0 (nI 0)) (upd ls 0 (nI 0)) (upd le 0 (-2)) (upd bs 0 (nI 0)) (upd be 0 (-1)) O W F G (upd opd 0 (nI 0)) (upd brn 0 (nI 0)) (upd szs 0 (nI 0)) (upd jmp 0 (-1)) (upd gof 0 (nI 0)) := by
  refine ⟨⟨by omega, by omega, by omega, rfl, rfl, rfl, Nat.le_refl _, Nat.zero_le 80, ?_, Or.inl rfl, fun _ => rfl, fun d hd => ?_, fun _ => ⟨fun d hd => ?_, fg_empty _ _ 0 0⟩⟩, Or.inl rfl, (fun h => by cases h), fun _ => rfl, B1, B2, S1, S2⟩
  · show 0 = 0 + (0 + cp_lag 0 (upd le 0 (-2) 0))
    rw [rl_us, cp_lag_2]
    rfl
  · obtain rfl : d = 0 := by omega
    exact ⟨rl_us, rl_us, Nat.zero_le 3, rl_us, rl_us, rl_us, Nat.le_refl _, Nat.le_refl _, by rw [rl_us]; exact Or.inl rfl, fun _ => rfl, rl_us, Nat.zero_le 80, fun _ => rfl⟩
  · obtain rfl : d = 0 := by omega
    rw [rl_us, rl_us, rl_us, rl_us]
    exact ⟨rfl, (fun h => absurd h (Nat.lt_irrefl 0)), Or.inl ⟨rfl, rfl, rfl, rfl⟩, fg_empty _ _ 0 0⟩
theorem cz_n0 : vp_nar .short (0 : Int32).toInt16.toInt32 = nI 0 := cy_nS (cy_Sn (n := 0) (by omega))
theorem i_vc_compile {k : Nat} {u : SX} {v : SY} (I : i_Rel k u v) (hk : k + 3 ≤ 1536) : wpX_compile (fun r u' => wpY_compile (fun r' v' => r' = r ∧ i_Rel (k + 3) u' v') v) u := by
  obtain ⟨f_tokens, f_faultPlace, f_length, f_pieces, f_patternEntry, f_hasPattern, f_tooLarge, f_level, f_groups, f_atomStart, f_atomEntry, f_choices, f_wayPiece, f_wayPlace, f_wayNotes, f_hasResult, f_resultStart, f_resultEnd, f_resultNotes, a_tokenKind, a_tokenValue, a_text, a_pieceKind, a_pieceValue, a_pieceNext, a_pieceSecond, a_levelGroup, a_levelStart, a_levelEntry, a_branchStart, a_branchEntry, a_placesSeen, a_choicePiece, a_choicePlace, a_choiceNotes⟩ := u
  obtain ⟨g_count, g_place, g_end, g_size, g_large, g_ready, g_depth, g_groups, g_atom, g_atomSize, g_length, g_found, b_kind, b_value, b_op, b_with, b_one, b_two, b_copyOp, b_copyWith, b_copyOne, b_copyTwo, b_opened, b_branch, b_sizes, b_jumps, b_groupOf, b_text, b_met, b_todo, b_notes⟩ := v
  obtain ⟨c, n, hc, rfl, rfl, rfl, htok, rfl, hn, rfl, rfl, rfl, rfl, hpat, rfl, hres, hB1, hB2, hS1, hS2⟩ := I
  obtain ⟨kk, hKX⟩ : ∃ kk : Nat → Nat, ∀ j, j < c → kk j ≤ 15 ∧ b_kind j = nI (kk j) ∧ b_kind j = nI (kk j) ∧ rl_tok (nI (kk j)) (a_tokenValue j) (b_value j) := by
    refine ⟨fun j => (b_kind j).toNatClampNeg, fun j hj => ?_⟩
    have ht := htok j hj
    obtain ⟨k2, hk2, ek, _⟩ := ht
    have e : (b_kind j).toNatClampNeg = k2 := by rw [ek, nI_clamp (by omega)]
    dsimp only
    rw [e, ← ek]
    exact ⟨hk2, rfl, rfl, htok j hj⟩
  obtain ⟨r, hR, hE⟩ := ff_eval (f_faultPlace := g_place) (f_length := nI n) (f_pieces := f_pieces) (f_patternEntry := f_patternEntry) (f_hasPattern := 0) (f_tooLarge := f_tooLarge) (f_level := f_level) (f_groups := f_groups) (f_atomStart := f_atomStart) (f_atomEntry := f_atomEntry) (f_choices := f_choices) (f_wayPiece := f_wayPiece) (f_wayPlace := f_wayPlace) (f_wayNotes := f_wayNotes) (f_hasResult := 0) (f_resultStart := f_resultStart) (f_resultEnd := f_resultEnd) (f_resultNotes := f_resultNotes) (a_tokenKind := b_kind) (a_tokenValue := a_tokenValue) (a_text := b_text) (a_pieceKind := a_pieceKind) (a_pieceValue := a_pieceValue) (a_pieceNext := a_pieceNext) (a_pieceSecond := a_pieceSecond) (a_levelGroup := a_levelGroup) (a_levelStart := a_levelStart) (a_levelEntry := a_levelEntry) (a_branchStart := a_branchStart) (a_branchEntry := a_branchEntry) (a_placesSeen := a_placesSeen) (a_choicePiece := a_choicePiece) (a_choicePlace := a_choicePlace) (a_choiceNotes := a_choiceNotes) hc (fun j hj => ⟨(hKX j hj).1, (hKX j hj).2.1⟩)
  have H := cz_init a_pieceKind a_pieceValue a_pieceNext a_pieceSecond a_levelGroup a_levelStart a_levelEntry a_branchStart a_branchEntry b_op b_with b_one b_two b_opened b_branch b_sizes b_jumps b_groupOf f_atomStart g_atomSize hB1 hB2 hS1 hS2
  unfold wpX_compile
  refine hE _ ?_
  by_cases hr : r = -1
  · have hcl : (∀ j, j < c → ¬ cs_bad (kk j) (cs_st kk j)) ∧ (cs_st kk c).1 = 0 := by
      rcases hR with ⟨_, h1, h2⟩ | ⟨i0, h1, h2, _⟩ | ⟨h1, _⟩
      · exact ⟨h1, h2⟩
      · rw [h2] at hr; exact absurd hr (fg_ne (by omega))
      · rw [h1] at hr; exact absurd hr (fg_ne (by omega))
    have M := cm_loop (f_faultPlace := r) (f_length := nI n) (f_patternEntry := f_patternEntry) (f_hasPattern := 0) (f_atomStart := f_atomStart) (f_atomEntry := (-1)) (f_choices := f_choices) (f_wayPiece := f_wayPiece) (f_wayPlace := f_wayPlace) (f_wayNotes := f_wayNotes) (f_hasResult := 0) (f_resultStart := f_resultStart) (f_resultEnd := f_resultEnd) (f_resultNotes := f_resultNotes) (a_tokenKind := b_kind) (a_tokenValue := a_tokenValue) (a_text := b_text) (a_pieceKind := a_pieceKind) (a_pieceValue := a_pieceValue) (a_pieceNext := a_pieceNext) (a_pieceSecond := a_pieceSecond) (a_levelGroup := upd a_levelGroup 0 (nI 0)) (a_levelStart := upd a_levelStart 0 (nI 0)) (a_levelEntry := upd a_levelEntry 0 (-2)) (a_branchStart := upd a_branchStart 0 (nI 0)) (a_branchEntry := upd a_branchEntry 0 (-1)) (a_placesSeen := a_placesSeen) (a_choicePiece := a_choicePiece) (a_choicePlace := a_choicePlace) (a_choiceNotes := a_choiceNotes) (g_place := g_place) (g_ready := 0) (g_atom := (-1)) (g_atomSize := g_atomSize) (g_length := nI n) (g_found := 0) (b_kind := b_kind) (b_value := b_value) (b_op := b_op) (b_with := b_with) (b_one := b_one) (b_two := b_two) (b_copyOp := b_copyOp) (b_copyWith := b_copyWith) (b_copyOne := b_copyOne) (b_copyTwo := b_copyTwo) (b_opened := upd b_opened 0 (nI 0)) (b_branch := upd b_branch 0 (nI 0)) (b_sizes := upd b_sizes 0 (nI 0)) (b_jumps := upd b_jumps 0 (-1)) (b_groupOf := upd b_groupOf 0 (nI 0)) (b_text := b_text) (b_met := b_met) (b_todo := b_todo) (b_notes := b_notes) (c := c) (i := 0) (lv := 0) (g := 0) (kk := kk) hc hKX hcl.1 hcl.2 c (by omega) rfl rfl H
    refine br_t hr ?_
    unfold wpX_buildPattern
    refine cx_begin (lv := 0) (by omega) ?_
    rcases M with ⟨P, E, pe, K, V, N, S, O, W, F, G, q1, q2, q3, q4, q5, q6, q7, q8, iX, iY⟩ | ⟨iX, iY⟩
    · refine ⟨c + 2, iX _ (fun lv gr as_ ae lg ls le bs be => br_t rfl ?_)⟩
      unfold wpY_compile
      refine cy_open0 (en := 0) (dp := 0) (by omega) (by omega) ?_
      rw [cz_n0]
      refine ⟨c + 1, iY _ (fun sz la dp gr at_ az c1 c2 c3 c4 opd brn szs jmp gof => ⟨rfl, ?_⟩)⟩
      exact ⟨c, n, hc, rfl, rfl, rfl, htok, hr.symm, hn, rfl, rfl, rfl, rfl, Or.inr ⟨rfl, P, E, q1, q2, rfl, rfl, q3, q4⟩, rfl, Or.inl rfl, q5, q6, q7, q8⟩
    · refine ⟨c + 2, iX _ (fun pc pe lv gr as_ ae K V N S lg ls le bs be => br_f (by decide) ?_)⟩
      unfold wpY_compile
      refine cy_open0 (en := 0) (dp := 0) (by omega) (by omega) ?_
      rw [cz_n0]
      refine ⟨c + 1, iY _ (fun en sz dp gr at_ az O W F G c1 c2 c3 c4 opd brn szs jmp gof y1 y2 y3 y4 => ⟨rfl, ?_⟩)⟩
      exact ⟨c, n, hc, rfl, rfl, rfl, htok, rfl, hn, rfl, rfl, rfl, rfl, Or.inl rfl, rfl, Or.inl rfl, y1, y2, y3, y4⟩
  · refine br_f hr ?_
    unfold wpY_compile
    refine cy_open0 (en := 0) (dp := 0) (by omega) (by omega) ?_
    rw [cz_n0]
    refine ⟨c + 1, ?_⟩
    have M := fl_loop (post := fun r' v' => r' = 1 ∧ i_Rel (k + 3) (nI c, r, nI n, f_pieces, f_patternEntry, 0, f_tooLarge, f_level, f_groups, f_atomStart, f_atomEntry, f_choices, f_wayPiece, f_wayPlace, f_wayNotes, 0, f_resultStart, f_resultEnd, f_resultNotes, b_kind, a_tokenValue, b_text, a_pieceKind, a_pieceValue, a_pieceNext, a_pieceSecond, a_levelGroup, a_levelStart, a_levelEntry, a_branchStart, a_branchEntry, a_placesSeen, a_choicePiece, a_choicePlace, a_choiceNotes) v') (r := r) (f_atomStart := f_atomStart) (f_atomEntry := (-1)) (a_tokenKind := b_kind) (a_tokenValue := a_tokenValue) (a_pieceKind := a_pieceKind) (a_pieceValue := a_pieceValue) (a_pieceNext := a_pieceNext) (a_pieceSecond := a_pieceSecond) (a_levelGroup := upd a_levelGroup 0 (nI 0)) (a_levelStart := upd a_levelStart 0 (nI 0)) (a_levelEntry := upd a_levelEntry 0 (-2)) (a_branchStart := upd a_branchStart 0 (nI 0)) (a_branchEntry := upd a_branchEntry 0 (-1)) (g_count := nI c) (g_place := g_place) (g_end := nI 0) (g_size := 0) (g_large := 0) (g_ready := 0) (g_depth := nI 1) (g_groups := 0) (g_atom := (-1)) (g_atomSize := g_atomSize) (g_length := nI n) (g_found := 0) (b_kind := b_kind) (b_value := b_value) (b_op := b_op) (b_with := b_with) (b_one := b_one) (b_two := b_two) (b_copyOp := b_copyOp) (b_copyWith := b_copyWith) (b_copyOne := b_copyOne) (b_copyTwo := b_copyTwo) (b_opened := upd b_opened 0 (nI 0)) (b_branch := upd b_branch 0 (nI 0)) (b_sizes := upd b_sizes 0 (nI 0)) (b_jumps := upd b_jumps 0 (-1)) (b_groupOf := upd b_groupOf 0 (nI 0)) (b_text := b_text) (b_met := b_met) (b_todo := b_todo) (b_notes := b_notes) (c := c) (i := 0) (lv := 0) (g := 0) (kk := kk) hc hKX hR hr c (by omega) (fun j hj => by omega) rfl rfl H (fun en sz la dp gr at_ az O W F G c1 c2 c3 c4 opd brn szs jmp gof y1 y2 y3 y4 => ⟨rfl, c, n, hc, rfl, rfl, rfl, htok, rfl, hn, rfl, rfl, rfl, rfl, Or.inl rfl, rfl, Or.inl rfl, y1, y2, y3, y4⟩)
    exact M
end CZ
end
