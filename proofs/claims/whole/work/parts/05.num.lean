/-! numbers: Int64 and Int32 by their values -/
theorem bm_b64 {n : Int} (h1 : -9223372036854775808 ≤ n) (h2 : n < 9223372036854775808) : n.bmod (2 ^ 64) = n := by
  have e : (2 : Nat) ^ 64 = 18446744073709551616 := by decide
  rw [e]; simp only [Int.bmod]; split <;> omega
theorem bm_b32 {n : Int} (h1 : -2147483648 ≤ n) (h2 : n < 2147483648) : n.bmod (2 ^ 32) = n := by
  have e : (2 : Nat) ^ 32 = 4294967296 := by decide
  rw [e]; simp only [Int.bmod]; split <;> omega
theorem bm_rl (x : Int64) : -9223372036854775808 ≤ x.toInt ∧ x.toInt < 9223372036854775808 := by
  have a := x.le_toInt
  have b := x.toInt_lt
  omega
theorem bm_ri (x : Int32) : -2147483648 ≤ x.toInt ∧ x.toInt < 2147483648 := by
  have a := x.le_toInt
  have b := x.toInt_lt
  omega
theorem bm_ladd {a b : Int64} (h1 : -9223372036854775808 ≤ a.toInt + b.toInt) (h2 : a.toInt + b.toInt < 9223372036854775808) : (a + b).toInt = a.toInt + b.toInt := by rw [Int64.toInt_add, bm_b64 h1 h2]
theorem bm_lsub {a b : Int64} (h1 : -9223372036854775808 ≤ a.toInt - b.toInt) (h2 : a.toInt - b.toInt < 9223372036854775808) : (a - b).toInt = a.toInt - b.toInt := by rw [Int64.toInt_sub, bm_b64 h1 h2]
theorem bm_lmul {a b : Int64} (h1 : -9223372036854775808 ≤ a.toInt * b.toInt) (h2 : a.toInt * b.toInt < 9223372036854775808) : (a * b).toInt = a.toInt * b.toInt := by rw [Int64.toInt_mul, bm_b64 h1 h2]
theorem bm_lneg {a : Int64} (h1 : -9223372036854775808 < a.toInt) : (-a).toInt = -a.toInt := by
  have := bm_rl a
  rw [Int64.toInt_neg, bm_b64 (by omega) (by omega)]
theorem bm_iadd {a b : Int32} (h1 : -2147483648 ≤ a.toInt + b.toInt) (h2 : a.toInt + b.toInt < 2147483648) : (a + b).toInt = a.toInt + b.toInt := by rw [Int32.toInt_add, bm_b32 h1 h2]
theorem bm_isub {a b : Int32} (h1 : -2147483648 ≤ a.toInt - b.toInt) (h2 : a.toInt - b.toInt < 2147483648) : (a - b).toInt = a.toInt - b.toInt := by rw [Int32.toInt_sub, bm_b32 h1 h2]
theorem bm_ineg {a : Int32} (h1 : -2147483648 < a.toInt) : (-a).toInt = -a.toInt := by
  have := bm_ri a
  rw [Int32.toInt_neg, bm_b32 (by omega) (by omega)]
theorem bm_i2l (x : Int32) : x.toInt64.toInt = x.toInt := Int32.toInt_toInt64 x
theorem bm_l2i {x : Int64} (h1 : -2147483648 ≤ x.toInt) (h2 : x.toInt < 2147483648) : x.toInt32.toInt = x.toInt := by rw [Int64.toInt_toInt32, bm_b32 h1 h2]
theorem bm_ldiv {a b : Int64} (h1 : 0 ≤ a.toInt) (h2 : 0 < b.toInt) : (a / b).toInt = a.toInt / b.toInt := by
  have ra := bm_rl a
  have hd : a.toInt / b.toInt ≤ a.toInt := Int.ediv_le_self _ h1
  have h0 : 0 ≤ a.toInt / b.toInt := Int.ediv_nonneg h1 (by omega)
  rw [Int64.toInt_div, Int.tdiv_eq_ediv_of_nonneg h1, bm_b64 (by omega) (by omega)]
theorem bm_lrem {a b : Int64} (h1 : 0 ≤ a.toInt) (h2 : 0 < b.toInt) : (a - a / b * b).toInt = a.toInt % b.toInt := by
  have ra := bm_rl a
  have hd := bm_ldiv h1 h2
  have e := Int.mul_ediv_add_emod a.toInt b.toInt
  have e1 : a.toInt / b.toInt * b.toInt = b.toInt * (a.toInt / b.toInt) := Int.mul_comm _ _
  have n1 := Int.emod_nonneg a.toInt (show b.toInt ≠ 0 by omega)
  have n2 := Int.emod_lt_of_pos a.toInt h2
  have n3 : 0 ≤ b.toInt * (a.toInt / b.toInt) := Int.mul_nonneg (by omega) (Int.ediv_nonneg h1 (by omega))
  have hm : (a / b * b).toInt = a.toInt / b.toInt * b.toInt := by
    rw [bm_lmul (by rw [hd]; omega) (by rw [hd]; omega), hd]
  rw [bm_lsub (by rw [hm]; omega) (by rw [hm]; omega), hm]
  omega
theorem bm_leq {a b : Int64} : a = b ↔ a.toInt = b.toInt := Int64.toInt_inj.symm
theorem bm_ieq {a b : Int32} : a = b ↔ a.toInt = b.toInt := Int32.toInt_inj.symm
theorem bm_llt {a b : Int64} : a < b ↔ a.toInt < b.toInt := Int64.lt_iff_toInt_lt
theorem bm_lle {a b : Int64} : a ≤ b ↔ a.toInt ≤ b.toInt := Int64.le_iff_toInt_le
theorem bm_ilt {a b : Int32} : a < b ↔ a.toInt < b.toInt := Int32.lt_iff_toInt_lt
theorem bm_ile {a b : Int32} : a ≤ b ↔ a.toInt ≤ b.toInt := Int32.le_iff_toInt_le
/-! shifts -/
theorem bm_amt : ∀ j, j < 64 → (((nI j).toInt64 &&& 63).toBitVec.smod 64).toNat = j := by decide +kernel
theorem bm_i32 {k : Int32} {j : Nat} (hk : k.toInt = j) : k = nI j := by
  have := bm_ri k
  exact Int32.toInt_inj.mp (by rw [hk, nI_toInt (by omega)])
theorem bm_shlM (x : Int64) {k : Int32} {j : Nat} (hk : k.toInt = j) (hj : j < 64) : x <<< (k.toInt64 &&& 63) = x * Int64.ofNat (2 ^ j) := by
  rw [bm_i32 hk]
  apply Int64.toBitVec_inj.mp
  show x.toBitVec <<< (((nI j).toInt64 &&& 63).toBitVec.smod 64).toNat = x.toBitVec * BitVec.ofNat 64 (2 ^ j)
  rw [bm_amt j hj]
  apply BitVec.eq_of_toNat_eq
  rw [BitVec.toNat_shiftLeft, BitVec.toNat_mul, BitVec.toNat_ofNat, Nat.shiftLeft_eq, Nat.mul_mod_mod]
theorem bm_pw {j : Nat} (hj : j < 63) : (Int64.ofNat (2 ^ j)).toInt = ((2 ^ j : Nat) : Int) := Int64.toInt_ofNat_of_lt (Nat.pow_lt_pow_right (by decide) hj)
theorem bm_shl {x : Int64} {k : Int32} {j : Nat} (hk : k.toInt = j) (hj : j < 63) (h1 : -9223372036854775808 ≤ x.toInt * ((2 ^ j : Nat) : Int)) (h2 : x.toInt * ((2 ^ j : Nat) : Int) < 9223372036854775808) : (x <<< (k.toInt64 &&& 63)).toInt = x.toInt * ((2 ^ j : Nat) : Int) := by
  rw [bm_shlM x hk (by omega), bm_lmul (by rw [bm_pw hj]; exact h1) (by rw [bm_pw hj]; exact h2), bm_pw hj]
theorem bm_shr (x : Int64) {k : Int32} {j : Nat} (hk : k.toInt = j) (hj : j < 64) : (x >>> (k.toInt64 &&& 63)).toInt = x.toInt / ((2 ^ j : Nat) : Int) := by
  rw [bm_i32 hk]
  show (x.toBitVec.sshiftRight (((nI j).toInt64 &&& 63).toBitVec.smod 64).toNat).toInt = _
  rw [bm_amt j hj, BitVec.toInt_sshiftRight, Int.shiftRight_eq_div_pow]
  rfl
/-! the unsigned value -/
theorem bm_tl (x : Int64) : x.toInt = if 2 * x.toBitVec.toNat < 18446744073709551616 then (x.toBitVec.toNat : Int) else (x.toBitVec.toNat : Int) - 18446744073709551616 := BitVec.toInt_eq_toNat_cond _
theorem bm_ti (x : Int32) : x.toInt = if 2 * x.toBitVec.toNat < 4294967296 then (x.toBitVec.toNat : Int) else (x.toBitVec.toNat : Int) - 4294967296 := BitVec.toInt_eq_toNat_cond _
theorem bm_nl (x : Int64) : x.toBitVec.toNat < 18446744073709551616 := x.toBitVec.isLt
theorem bm_ni (x : Int32) : x.toBitVec.toNat < 4294967296 := x.toBitVec.isLt
theorem bm_andN (x c : Int64) (j : Nat) (hc : c.toBitVec.toNat = 2 ^ j - 1) : (x &&& c).toBitVec.toNat = x.toBitVec.toNat % 2 ^ j := by
  rw [Int64.toBitVec_and, BitVec.toNat_and, hc, Nat.and_two_pow_sub_one_eq_mod]
theorem bm_maskP (x c : Int64) (j L : Nat) (hc : c.toBitVec.toNat = 2 ^ j - 1) (hL : 2 ^ j = L) (hd : ∃ d, 18446744073709551616 = L * d) (hs : L ≤ 9223372036854775808) (h0 : 0 < L) : (x &&& c).toInt = x.toInt % (L : Int) := by
  have h := bm_andN x c j hc
  have a := bm_tl x
  have b := bm_tl (x &&& c)
  have nx := bm_nl x
  rw [h, hL] at b
  have hm := Nat.mod_lt x.toBitVec.toNat h0
  obtain ⟨d, hd⟩ := hd
  rw [if_pos (by omega)] at b
  rw [b]
  split at a
  · rw [a]; rfl
  · rw [a, show ((x.toBitVec.toNat : Int) - 18446744073709551616) = (x.toBitVec.toNat : Int) + (L : Int) * (-(d : Int)) by
      have e : (18446744073709551616 : Int) = (L : Int) * (d : Int) := by rw [← Int.natCast_mul, ← hd]; rfl
      rw [Int.mul_neg, ← e]; omega, Int.add_mul_emod_self_left]
    rfl
theorem bm_m63 (x : Int64) : (x &&& 9223372036854775807).toInt = x.toInt % 9223372036854775808 := bm_maskP x _ 63 9223372036854775808 (by decide +kernel) (by decide) ⟨2, by decide⟩ (by decide) (by decide)
theorem bm_m52 (x : Int64) : (x &&& 4503599627370495).toInt = x.toInt % 4503599627370496 := bm_maskP x _ 52 4503599627370496 (by decide +kernel) (by decide) ⟨4096, by decide⟩ (by decide) (by decide)
theorem bm_m54 (x : Int64) : (x &&& 18014398509481983).toInt = x.toInt % 18014398509481984 := bm_maskP x _ 54 18014398509481984 (by decide +kernel) (by decide) ⟨1024, by decide⟩ (by decide) (by decide)
theorem bm_m27 (x : Int64) : (x &&& 134217727).toInt = x.toInt % 134217728 := bm_maskP x _ 27 134217728 (by decide +kernel) (by decide) ⟨137438953472, by decide⟩ (by decide) (by decide)
theorem bm_m1 (x : Int64) : (x &&& 1).toInt = x.toInt % 2 := bm_maskP x _ 1 2 (by decide +kernel) (by decide) ⟨9223372036854775808, by decide⟩ (by decide) (by decide)
theorem bm_m2 (x : Int64) : (x &&& 3).toInt = x.toInt % 4 := bm_maskP x _ 2 4 (by decide +kernel) (by decide) ⟨4611686018427387904, by decide⟩ (by decide) (by decide)
theorem bm_m3 (x : Int64) : (x &&& 7).toInt = x.toInt % 8 := bm_maskP x _ 3 8 (by decide +kernel) (by decide) ⟨2305843009213693952, by decide⟩ (by decide) (by decide)
/-! the sign bit -/
theorem bm_sgN {x : Int64} (h : x < 0) : x &&& (-9223372036854775808) = -9223372036854775808 := by
  have a := bm_tl x
  have nx := bm_nl x
  have h0 : x.toInt < 0 := bm_llt.mp h
  have hb : x.toBitVec.getLsbD 63 = true := by
    show x.toBitVec.toNat.testBit 63 = true
    rw [Nat.testBit_eq_decide_div_mod_eq]
    exact decide_eq_true (by split at a <;> omega)
  apply Int64.toBitVec_inj.mp
  rw [Int64.toBitVec_and, show (-9223372036854775808 : Int64).toBitVec = BitVec.twoPow 64 63 by decide +kernel, BitVec.and_twoPow, if_pos hb]
theorem bm_sgP {x : Int64} (h : ¬ x < 0) : x &&& (-9223372036854775808) = 0 := by
  have a := bm_tl x
  have nx := bm_nl x
  have h0 : ¬ x.toInt < 0 := fun z => h (bm_llt.mpr z)
  have hb : ¬ x.toBitVec.getLsbD 63 = true := by
    show ¬ x.toBitVec.toNat.testBit 63 = true
    rw [Nat.testBit_eq_decide_div_mod_eq, decide_eq_true_iff]
    split at a <;> omega
  apply Int64.toBitVec_inj.mp
  rw [Int64.toBitVec_and, show (-9223372036854775808 : Int64).toBitVec = BitVec.twoPow 64 63 by decide +kernel, BitVec.and_twoPow, if_neg hb]
  rfl
/-- or with the sign bit, of a number that has none -/
theorem bm_orS {a : Int64} (h : 0 ≤ a.toInt) : (a ||| (-9223372036854775808)).toInt = a.toInt - 9223372036854775808 := by
  have e := bm_tl a
  have na := bm_nl a
  have b := bm_tl (a ||| (-9223372036854775808))
  have hn : a.toBitVec.toNat < 9223372036854775808 := by split at e <;> omega
  have g : (a ||| (-9223372036854775808)).toBitVec.toNat = 9223372036854775808 + a.toBitVec.toNat := by
    rw [Int64.toBitVec_or, BitVec.toNat_or, show (-9223372036854775808 : Int64).toBitVec.toNat = 2 ^ 63 by decide +kernel, Nat.or_comm]
    have := Nat.two_pow_add_eq_or_of_lt (i := 63) (b := a.toBitVec.toNat) (by omega) 1
    rw [Nat.mul_one] at this
    rw [← this]
  rw [g] at b
  rw [b, if_neg (by omega), e, if_pos (by omega)]
  omega
/-! pure arithmetic -/
theorem bm_pw2 {m : Int} {s t : Nat} (hm : 0 ≤ m) (h : s < t) : 2 * (m * ((2 ^ s : Nat) : Int)) ≤ m * ((2 ^ t : Nat) : Int) := by
  have h1 : 2 * 2 ^ s ≤ 2 ^ t := by
    have h0 : 2 ^ (s + 1) ≤ 2 ^ t := Nat.pow_le_pow_right (by decide) h
    rw [Nat.pow_succ] at h0
    omega
  have h2 : ((2 * 2 ^ s : Nat) : Int) ≤ ((2 ^ t : Nat) : Int) := Int.ofNat_le.mpr h1
  have h3 := Int.mul_le_mul_of_nonneg_left h2 hm
  rw [Int.natCast_mul] at h3
  have e : m * (((2 : Nat) : Int) * ((2 ^ s : Nat) : Int)) = 2 * (m * ((2 ^ s : Nat) : Int)) := by
    rw [← Int.mul_assoc, Int.mul_comm m, Int.mul_assoc]; rfl
  omega
/-- there is one shift that fills a significand as far as the power lets it -/
theorem bm_uniq {m q : Int} {s1 s2 : Nat} (hm : 0 < m) (a1 : m * ((2 ^ s1 : Nat) : Int) < 9007199254740992) (a2 : m * ((2 ^ s2 : Nat) : Int) < 9007199254740992) (b1 : -1074 ≤ q - s1) (b2 : -1074 ≤ q - s2) (c1 : 4503599627370496 ≤ m * ((2 ^ s1 : Nat) : Int) ∨ q - s1 = -1074) (c2 : 4503599627370496 ≤ m * ((2 ^ s2 : Nat) : Int) ∨ q - s2 = -1074) : s1 = s2 := by
  rcases Nat.lt_trichotomy s1 s2 with h | h | h
  · have := bm_pw2 (Int.le_of_lt hm) h
    omega
  · exact h
  · have := bm_pw2 (Int.le_of_lt hm) h
    omega
theorem bm_room {m : Int} {s1 s2 : Nat} (hm : 0 < m) (a1 : m * ((2 ^ s1 : Nat) : Int) < 9007199254740992) (a2 : m * ((2 ^ s2 : Nat) : Int) < 9007199254740992) (c1 : 4503599627370496 ≤ m * ((2 ^ s1 : Nat) : Int)) (c2 : 4503599627370496 ≤ m * ((2 ^ s2 : Nat) : Int)) : s1 = s2 := by
  rcases Nat.lt_trichotomy s1 s2 with h | h | h
  · have := bm_pw2 (Int.le_of_lt hm) h
    omega
  · exact h
  · have := bm_pw2 (Int.le_of_lt hm) h
    omega
/-! the root by hand -/
theorem bm_sqE (r : Nat) : (2 * r) * (2 * r) = 4 * (r * r) := by
  rw [Nat.mul_mul_mul_comm]
theorem bm_sqO (r : Nat) : (2 * r + 1) * (2 * r + 1) = 4 * (r * r) + 4 * r + 1 := by
  rw [Nat.add_mul, Nat.mul_add, bm_sqE]
  omega
theorem bm_sq1 {V r t d : Nat} (h1 : V = r * r + t) (h2 : t ≤ 2 * r) (hd : d < 4) (h : 4 * t + d < 4 * r + 1) : 4 * V + d = (2 * r) * (2 * r) + (4 * t + d) ∧ 4 * t + d ≤ 2 * (2 * r) := by
  rw [bm_sqE]
  omega
theorem bm_sq2 {V r t d : Nat} (h1 : V = r * r + t) (h2 : t ≤ 2 * r) (hd : d < 4) (h : 4 * r + 1 ≤ 4 * t + d) : 4 * V + d = (2 * r + 1) * (2 * r + 1) + (4 * t + d - (4 * r + 1)) ∧ 4 * t + d - (4 * r + 1) ≤ 2 * (2 * r + 1) := by
  rw [bm_sqO]
  omega
theorem bm_dig (X : Nat) : 4 * X / 18446744073709551616 = 4 * (X / 18446744073709551616) + X % 18446744073709551616 / 4611686018427387904 ∧ X % 18446744073709551616 / 4611686018427387904 < 4 ∧ 4 * (X % 18446744073709551616) % 18446744073709551616 = 4 * X % 18446744073709551616 := by
  omega
theorem bm_sqle {a b : Nat} (h : a * a < (b + 1) * (b + 1)) : a ≤ b := by
  rcases Nat.lt_or_ge b a with z | z
  · have := Nat.mul_le_mul (show b + 1 ≤ a from z) (show b + 1 ≤ a from z)
    omega
  · exact z
theorem bm_sqmono {a b : Nat} (h : a ≤ b) : a * a ≤ b * b := Nat.mul_le_mul h h
theorem bm_sqlt {a b : Nat} (h : a * a < b * b) : a < b := by
  rcases Nat.lt_or_ge a b with z | z
  · exact z
  · have := bm_sqmono z
    omega
/-! division with a rest, by shifts -/
theorem bm_rem {M N d r j : Nat} (s : Nat) (h : M * 2 ^ j = N * d + r) : M * 2 ^ (j + s) = (N * 2 ^ s + (r * 2 ^ s) / d) * d + (r * 2 ^ s) % d := by
  have e := Nat.div_add_mod (r * 2 ^ s) d
  rw [Nat.pow_add, ← Nat.mul_assoc, h, Nat.add_mul, Nat.add_mul, Nat.add_assoc, Nat.mul_comm (r * 2 ^ s / d) d, e, Nat.mul_right_comm]
theorem bm_divu {X N d r : Nat} (h : X = N * d + r) (hr : r < d) : N = X / d ∧ r = X % d := by
  subst h
  constructor
  · rw [Nat.add_comm, Nat.add_mul_div_right _ _ (by omega), Nat.div_eq_of_lt hr, Nat.zero_add]
  · rw [Nat.add_comm, Nat.add_mul_mod_self_right, Nat.mod_eq_of_lt hr]
/-! a product by halves of 27 bits -/
theorem bm_half (a b : Int) : a * b = (a / 134217728) * (b / 134217728) * 18014398509481984 + ((a / 134217728) * (b % 134217728) + (a % 134217728) * (b / 134217728)) * 134217728 + (a % 134217728) * (b % 134217728) := by
  have ha := Int.mul_ediv_add_emod a 134217728
  have hb := Int.mul_ediv_add_emod b 134217728
  generalize a / 134217728 = a1 at *
  generalize a % 134217728 = a0 at *
  generalize b / 134217728 = b1 at *
  generalize b % 134217728 = b0 at *
  subst ha; subst hb
  grind
theorem bm_mono {m : Int} {s t : Nat} (hm : 0 ≤ m) (h : s ≤ t) : m * ((2 ^ s : Nat) : Int) ≤ m * ((2 ^ t : Nat) : Int) := Int.mul_le_mul_of_nonneg_left (Int.ofNat_le.mpr (Nat.pow_le_pow_right (by decide) h)) hm
theorem bm_ge1 {m : Int} {s : Nat} (hm : 0 ≤ m) : m ≤ m * ((2 ^ s : Nat) : Int) := by
  have := bm_mono (s := 0) (t := s) hm (by omega)
  omega
/-! counters -/
theorem bm_mu {v c : Int32} (h : ¬ c ≤ v) : (c.toInt - (v + 1).toInt).toNat < (c.toInt - v.toInt).toNat := by
  have h : ¬ c.toInt ≤ v.toInt := fun z => h (bm_ile.mpr z)
  have hv := bm_ri v
  have hc := bm_ri c
  have e : (v + 1).toInt = v.toInt + 1 := bm_iadd (by show _ ≤ _ + (1 : Int); omega) (by show _ + (1 : Int) < _; omega)
  omega
theorem bm_inc {v : Int32} (h : v.toInt < 2147483647) : (v + 1).toInt = v.toInt + 1 := by
  have := bm_ri v
  exact bm_iadd (by show _ ≤ _ + (1 : Int); omega) (by show _ + (1 : Int) < _; omega)
theorem bm_dec {v : Int32} (h : -2147483648 < v.toInt) : (v + (-1 : Int32)).toInt = v.toInt - 1 := by
  have := bm_ri v
  have c : (-1 : Int32).toInt = -1 := by decide
  rw [bm_iadd (by rw [c]; omega) (by rw [c]; omega), c]
  omega
theorem bm_dbl {x : Int64} (h0 : 0 ≤ x.toInt) (h : x.toInt < 4611686018427387904) : (x <<< ((1 : Int32).toInt64 &&& 63)).toInt = 2 * x.toInt := by
  rw [bm_shl (j := 1) (by decide) (by decide) (by show _ ≤ x.toInt * (2 : Int); omega) (by show x.toInt * (2 : Int) < _; omega)]
  show x.toInt * (2 : Int) = _
  omega
theorem bm_pws (m : Int) (s : Nat) : m * ((2 ^ (s + 1) : Nat) : Int) = 2 * (m * ((2 ^ s : Nat) : Int)) := by
  rw [Nat.pow_succ, Int.natCast_mul, ← Int.mul_assoc, Int.mul_comm]
  rfl
theorem bm_s52 {m : Int} {s : Nat} (hm : 0 < m) (h : m * ((2 ^ s : Nat) : Int) < 9007199254740992) : s ≤ 52 := by
  rcases Nat.lt_or_ge s 53 with z | z
  · omega
  · have a : m * ((2 ^ 53 : Nat) : Int) ≤ m * ((2 ^ s : Nat) : Int) := bm_mono (by omega) z
    have b : ((2 ^ 53 : Nat) : Int) = 9007199254740992 := by decide
    rw [b] at a
    omega
theorem bm_mu10 {v : Int32} (h : ¬ v ≤ 0) : (v + (-10 : Int32)).toInt.toNat < v.toInt.toNat := by
  have h : ¬ v.toInt ≤ 0 := fun z => h (bm_ile.mpr z)
  have c10 : (-10 : Int32).toInt = -10 := by decide
  have rv := bm_ri v
  rw [bm_iadd (by rw [c10]; omega) (by rw [c10]; omega), c10]
  omega
theorem bm_muh {v : Int64} (h : ¬ v ≤ 1) : (v >>> ((1 : Int32).toInt64 &&& 63)).toInt.toNat < v.toInt.toNat := by
  have h : ¬ v.toInt ≤ 1 := fun z => h (bm_lle.mpr z)
  rw [bm_shr v (j := 1) (by decide) (by decide)]
  show ((v.toInt / (2 : Int))).toNat < _
  omega
