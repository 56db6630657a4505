/-! leading zeros -/
theorem bm_iuN (x : Int32) {k : Int32} {j : Nat} (hk : (k.toUInt32 &&& Int32.toUInt32 31).toNat % 32 = j) (hx : 0 ≤ x.toInt) : ((x.toUInt32 >>> (k.toUInt32 &&& Int32.toUInt32 31)).toInt32).toInt = x.toInt / ((2 ^ j : Nat) : Int) := by
  have a := bm_ti x
  have nx := bm_ni x
  have e : ((x.toUInt32 >>> (k.toUInt32 &&& Int32.toUInt32 31)).toInt32).toBitVec.toNat = x.toBitVec.toNat / 2 ^ j := by
    show (x.toUInt32 >>> (k.toUInt32 &&& Int32.toUInt32 31)).toNat = _
    rw [UInt32.toNat_shiftRight, hk, Nat.shiftRight_eq_div_pow]
    rfl
  have b := bm_ti ((x.toUInt32 >>> (k.toUInt32 &&& Int32.toUInt32 31)).toInt32)
  have hd := Nat.div_le_self x.toBitVec.toNat (2 ^ j)
  have hn : 2 * x.toBitVec.toNat < 4294967296 := by split at a <;> omega
  rw [e, if_pos (by omega)] at b
  rw [b, a, if_pos hn]
  exact Int.natCast_ediv _ _
theorem bm_luN (x : Int64) {k : Int32} {j : Nat} (hk : (k.toInt64.toUInt64 &&& Int64.toUInt64 63).toNat % 64 = j) : ((x.toUInt64 >>> (k.toInt64.toUInt64 &&& Int64.toUInt64 63)).toInt64).toBitVec.toNat = x.toBitVec.toNat / 2 ^ j := by
  show (x.toUInt64 >>> (k.toInt64.toUInt64 &&& Int64.toUInt64 63)).toNat = _
  rw [UInt64.toNat_shiftRight, hk, Nat.shiftRight_eq_div_pow]
  rfl
def bj_s5 (i n : Int32) : Int32 := n - (i.toUInt32 >>> ((1 : Int32).toUInt32 &&& Int32.toUInt32 31)).toInt32
def bj_s4 (i n : Int32) : Int32 := if i < (4 : Int32) then bj_s5 i n else bj_s5 ((i.toUInt32 >>> ((2 : Int32).toUInt32 &&& Int32.toUInt32 31)).toInt32) (n + (-2 : Int32))
def bj_s3 (i n : Int32) : Int32 := if i < (16 : Int32) then bj_s4 i n else bj_s4 ((i.toUInt32 >>> ((4 : Int32).toUInt32 &&& Int32.toUInt32 31)).toInt32) (n + (-4 : Int32))
def bj_s2 (i n : Int32) : Int32 := if i < (256 : Int32) then bj_s3 i n else bj_s3 ((i.toUInt32 >>> ((8 : Int32).toUInt32 &&& Int32.toUInt32 31)).toInt32) (n + (-8 : Int32))
def bj_s1 (i n : Int32) : Int32 := if i < (65536 : Int32) then bj_s2 i n else bj_s2 ((i.toUInt32 >>> ((16 : Int32).toUInt32 &&& Int32.toUInt32 31)).toInt32) (n + (-16 : Int32))
theorem bm_up {i k s : Nat} (h1 : 2 ^ k ≤ i / 2 ^ s) (h2 : i / 2 ^ s < 2 ^ (k + 1)) : 2 ^ (k + s) ≤ i ∧ i < 2 ^ (k + s + 1) := by
  have p := Nat.two_pow_pos s
  constructor
  · rw [Nat.pow_add]; exact (Nat.le_div_iff_mul_le p).mp h1
  · rw [show k + s + 1 = (k + 1) + s by omega, Nat.pow_add]; exact (Nat.div_lt_iff_lt_mul p).mp h2
/-- r is the place of i's leading bit, counted down from n -/
def bm_lead (i n r : Int) : Prop := ∃ k : Nat, r = n - k ∧ ((2 ^ k : Nat) : Int) ≤ i ∧ i < ((2 ^ (k + 1) : Nat) : Int)
theorem bm_lead_up {i n r : Int} {s : Nat} (hi : 0 ≤ i) (h : bm_lead (i / ((2 ^ s : Nat) : Int)) (n - s) r) : bm_lead i n r := by
  obtain ⟨k, h1, h2, h3⟩ := h
  obtain ⟨j, rfl⟩ : ∃ j : Nat, i = j := ⟨i.toNat, by omega⟩
  rw [← Int.natCast_ediv] at h2 h3
  obtain ⟨g1, g2⟩ := bm_up (Int.ofNat_le.mp h2) (Int.ofNat_lt.mp h3)
  exact ⟨k + s, by omega, Int.ofNat_le.mpr g1, Int.ofNat_lt.mpr g2⟩
theorem bm_s5 {i n : Int32} (h1 : 1 ≤ i.toInt) (h2 : i.toInt < 4) (h3 : 1 ≤ n.toInt) : bm_lead i.toInt n.toInt (bj_s5 i n).toInt := by
  have e := bm_iuN i (k := 1) (j := 1) (by decide) (by omega)
  have hn := bm_ri n
  unfold bj_s5
  rw [bm_isub (by rw [e]; omega) (by rw [e]; omega), e]
  rcases Int.lt_or_le i.toInt 2 with h | h
  · exact ⟨0, by omega, by omega, by omega⟩
  · exact ⟨1, by omega, by omega, by omega⟩
theorem bm_s4 {i n : Int32} (h1 : 1 ≤ i.toInt) (h2 : i.toInt < 16) (h3 : 3 ≤ n.toInt) : bm_lead i.toInt n.toInt (bj_s4 i n).toInt := by
  have hn := bm_ri n
  unfold bj_s4
  split
  · rename_i h
    have h : i.toInt < (4 : Int) := bm_ilt.mp h
    exact bm_s5 h1 (by omega) (by omega)
  · rename_i h
    have h : ¬ i.toInt < (4 : Int) := fun z => h (bm_ilt.mpr z)
    have e := bm_iuN i (k := 2) (j := 2) (by decide) (by omega)
    have en : (n + (-2 : Int32)).toInt = n.toInt - 2 := by rw [bm_iadd (by rw [show (-2 : Int32).toInt = -2 by decide]; omega) (by rw [show (-2 : Int32).toInt = -2 by decide]; omega), show (-2 : Int32).toInt = -2 by decide]; omega
    apply bm_lead_up (s := 2) (by omega)
    have := bm_s5 (i := (i.toUInt32 >>> ((2 : Int32).toUInt32 &&& Int32.toUInt32 31)).toInt32) (n := n + (-2 : Int32)) (by rw [e]; omega) (by rw [e]; omega) (by omega)
    rw [e, en] at this
    exact this
theorem bm_s3 {i n : Int32} (h1 : 1 ≤ i.toInt) (h2 : i.toInt < 256) (h3 : 7 ≤ n.toInt) : bm_lead i.toInt n.toInt (bj_s3 i n).toInt := by
  have hn := bm_ri n
  unfold bj_s3
  split
  · rename_i h
    have h : i.toInt < (16 : Int) := bm_ilt.mp h
    exact bm_s4 h1 (by omega) (by omega)
  · rename_i h
    have h : ¬ i.toInt < (16 : Int) := fun z => h (bm_ilt.mpr z)
    have e := bm_iuN i (k := 4) (j := 4) (by decide) (by omega)
    have en : (n + (-4 : Int32)).toInt = n.toInt - 4 := by rw [bm_iadd (by rw [show (-4 : Int32).toInt = -4 by decide]; omega) (by rw [show (-4 : Int32).toInt = -4 by decide]; omega), show (-4 : Int32).toInt = -4 by decide]; omega
    apply bm_lead_up (s := 4) (by omega)
    have := bm_s4 (i := (i.toUInt32 >>> ((4 : Int32).toUInt32 &&& Int32.toUInt32 31)).toInt32) (n := n + (-4 : Int32)) (by rw [e]; omega) (by rw [e]; omega) (by omega)
    rw [e, en] at this
    exact this
theorem bm_s2 {i n : Int32} (h1 : 1 ≤ i.toInt) (h2 : i.toInt < 65536) (h3 : 15 ≤ n.toInt) : bm_lead i.toInt n.toInt (bj_s2 i n).toInt := by
  have hn := bm_ri n
  unfold bj_s2
  split
  · rename_i h
    have h : i.toInt < (256 : Int) := bm_ilt.mp h
    exact bm_s3 h1 (by omega) (by omega)
  · rename_i h
    have h : ¬ i.toInt < (256 : Int) := fun z => h (bm_ilt.mpr z)
    have e := bm_iuN i (k := 8) (j := 8) (by decide) (by omega)
    have en : (n + (-8 : Int32)).toInt = n.toInt - 8 := by rw [bm_iadd (by rw [show (-8 : Int32).toInt = -8 by decide]; omega) (by rw [show (-8 : Int32).toInt = -8 by decide]; omega), show (-8 : Int32).toInt = -8 by decide]; omega
    apply bm_lead_up (s := 8) (by omega)
    have := bm_s3 (i := (i.toUInt32 >>> ((8 : Int32).toUInt32 &&& Int32.toUInt32 31)).toInt32) (n := n + (-8 : Int32)) (by rw [e]; omega) (by rw [e]; omega) (by omega)
    rw [e, en] at this
    exact this
theorem bm_s1 {i n : Int32} (h1 : 1 ≤ i.toInt) (h3 : 31 ≤ n.toInt) : bm_lead i.toInt n.toInt (bj_s1 i n).toInt := by
  have hn := bm_ri n
  have hi := bm_ri i
  unfold bj_s1
  split
  · rename_i h
    have h : i.toInt < (65536 : Int) := bm_ilt.mp h
    exact bm_s2 h1 (by omega) (by omega)
  · rename_i h
    have h : ¬ i.toInt < (65536 : Int) := fun z => h (bm_ilt.mpr z)
    have e := bm_iuN i (k := 16) (j := 16) (by decide) (by omega)
    have en : (n + (-16 : Int32)).toInt = n.toInt - 16 := by rw [bm_iadd (by rw [show (-16 : Int32).toInt = -16 by decide]; omega) (by rw [show (-16 : Int32).toInt = -16 by decide]; omega), show (-16 : Int32).toInt = -16 by decide]; omega
    apply bm_lead_up (s := 16) (by omega)
    have := bm_s2 (i := (i.toUInt32 >>> ((16 : Int32).toUInt32 &&& Int32.toUInt32 31)).toInt32) (n := n + (-16 : Int32)) (by rw [e]; omega) (by rw [e]; omega) (by omega)
    rw [e, en] at this
    exact this
/-! what the small functions say, in numbers -/
def bm_p (x : Int64) : Int := x.toInt % 9223372036854775808
def bm_sig (p : Int) : Int := if p < 4503599627370496 then p else p % 4503599627370496 + 4503599627370496
def bm_pow (p : Int) : Int := if p < 4503599627370496 then -1074 else p / 4503599627370496 - 1075
theorem bm_p_r (x : Int64) : 0 ≤ bm_p x ∧ bm_p x < 9223372036854775808 := by
  unfold bm_p
  omega
theorem bm_sig_r {p : Int} (h0 : 0 ≤ p) : 0 ≤ bm_sig p ∧ bm_sig p < 9007199254740992 := by
  unfold bm_sig
  split <;> omega
theorem bm_sig_pos {p : Int} (h0 : 0 < p) : 0 < bm_sig p := by
  unfold bm_sig
  split <;> omega
theorem bm_pow_r {p : Int} (h0 : 0 ≤ p) (h1 : p < 9218868437227405312) : -1074 ≤ bm_pow p ∧ bm_pow p ≤ 971 := by
  unfold bm_pow
  split <;> omega
theorem bm_pow_r2 {p : Int} (h0 : 0 ≤ p) (h1 : p < 9223372036854775808) : -1074 ≤ bm_pow p ∧ bm_pow p ≤ 972 := by
  unfold bm_pow
  split <;> omega
/-- the pattern back out of its significand and power -/
theorem bm_back {p : Int} (h0 : 0 ≤ p) (h1 : p < 9223372036854775808) : bm_sig p + (bm_pow p + 1074) * 4503599627370496 = p ∧ (4503599627370496 ≤ bm_sig p ∨ bm_pow p = -1074) := by
  unfold bm_sig bm_pow
  split <;> omega
theorem bs_fieldE (x : Int64) : (bf_fieldE x).toInt = bm_p x / 4503599627370496 := by
  have h := bm_shr (x &&& 9223372036854775807) (k := 52) (j := 52) (by decide) (by decide)
  rw [bm_m63] at h
  have hp := bm_p_r x
  unfold bm_p at *
  unfold bf_fieldE
  rw [bm_l2i (by rw [h]; omega) (by rw [h]; omega), h]
  rfl
theorem bs_significand (x : Int64) : (bf_significand x).toInt = bm_sig (bm_p x) := by
  have hE := bs_fieldE x
  have hm := bm_m52 x
  have hp := bm_p_r x
  have hq : x.toInt % 4503599627370496 = bm_p x % 4503599627370496 := by unfold bm_p; omega
  unfold bf_significand bm_sig
  split
  · rename_i h
    rw [h] at hE
    have hE : (0 : Int) = bm_p x / 4503599627370496 := hE
    rw [if_pos (by omega), hm, hq]
    omega
  · rename_i h
    have h : ¬ (bf_fieldE x).toInt = 0 := fun z => h (bm_ieq.mpr z)
    rw [if_neg (by omega), bm_ladd (by rw [hm, show (4503599627370496 : Int64).toInt = 4503599627370496 by decide]; omega) (by rw [hm, show (4503599627370496 : Int64).toInt = 4503599627370496 by decide]; omega), hm, hq, show (4503599627370496 : Int64).toInt = 4503599627370496 by decide]
    omega
theorem bs_power (x : Int64) : (bf_power x).toInt = bm_pow (bm_p x) := by
  have hE := bs_fieldE x
  have hp := bm_p_r x
  have c1 : (1 : Int32).toInt = 1 := by decide
  have c2 : (-1074 : Int32).toInt = -1074 := by decide
  have hm : (if bf_fieldE x < 1 then (1 : Int32) else bf_fieldE x).toInt = if bm_p x < 4503599627370496 then 1 else bm_p x / 4503599627370496 := by
    split
    · rename_i h
      have h : (bf_fieldE x).toInt < 1 := bm_ilt.mp h
      rw [if_pos (by omega)]
      rfl
    · rename_i h
      have h : ¬ (bf_fieldE x).toInt < 1 := fun z => h (bm_ilt.mpr z)
      rw [if_neg (by omega), hE]
  unfold bf_power bm_pow
  generalize (if bf_fieldE x < 1 then (1 : Int32) else bf_fieldE x) = M at hm ⊢
  have e1 : (M - 1).toInt = M.toInt - 1 := by
    rw [bm_isub (by rw [c1]; split at hm <;> omega) (by rw [c1]; split at hm <;> omega), c1]
  rw [bm_iadd (by rw [e1, c2]; split at hm <;> omega) (by rw [e1, c2]; split at hm <;> omega), e1, c2, hm]
  split <;> omega
theorem bs_nlzI (i : Int32) (h : 0 < i.toInt) : bm_lead i.toInt 31 (bj_nlzI i).toInt := by
  have e : bj_nlzI i = if 0 < i then bj_s1 i 31 else (if i = 0 then 32 else 0) := rfl
  have h0 : (0 : Int32) < i := bm_ilt.mpr h
  rw [e, if_pos h0]
  exact bm_s1 (by omega) (by decide)
theorem bs_nlzI_neg (i : Int32) (h : i.toInt < 0) : bj_nlzI i = 0 := by
  have e : bj_nlzI i = if 0 < i then bj_s1 i 31 else (if i = 0 then 32 else 0) := rfl
  have z : (0 : Int32).toInt = 0 := by decide
  rw [e, if_neg (fun q => by have := bm_ilt.mp q; omega), if_neg (fun q => by rw [q] at h; omega)]
theorem bs_nlzL {m : Int64} (h1 : 0 < m.toInt) (h2 : m.toInt < 9007199254740992) : bm_lead m.toInt 63 (bj_nlzL m).toInt := by
  have e := bm_luN m (k := 32) (j := 32) (by decide)
  have a := bm_tl m
  have na := bm_nl m
  have hn : (m.toBitVec.toNat : Int) = m.toInt := by split at a <;> omega
  have b := bm_tl ((m.toUInt64 >>> ((32 : Int32).toInt64.toUInt64 &&& Int64.toUInt64 63)).toInt64)
  rw [e, if_pos (by omega)] at b
  have hb : ((m.toUInt64 >>> ((32 : Int32).toInt64.toUInt64 &&& Int64.toUInt64 63)).toInt64).toInt = m.toInt / 4294967296 := by
    rw [b, ← hn]
    exact Int.natCast_ediv _ _
  have hc : ((m.toUInt64 >>> ((32 : Int32).toInt64.toUInt64 &&& Int64.toUInt64 63)).toInt64).toInt32.toInt = m.toInt / 4294967296 := by
    rw [bm_l2i (by rw [hb]; omega) (by rw [hb]; omega), hb]
  unfold bj_nlzL
  split
  · rename_i h
    rw [h] at hc
    have hc : (0 : Int) = m.toInt / 4294967296 := hc
    have hm : m.toInt32.toInt = m.toInt.bmod (2 ^ 32) := Int64.toInt_toInt32 m
    rcases Int.lt_or_le m.toInt 2147483648 with g | g
    · rw [bm_b32 (by omega) (by omega)] at hm
      obtain ⟨k, g1, g2, g3⟩ := bs_nlzI m.toInt32 (by omega)
      have r := bm_ri (bj_nlzI m.toInt32)
      rw [hm] at g2 g3
      have hk : k ≤ 31 := by
        rcases Nat.lt_or_ge k 32 with z | z
        · omega
        · have : 2 ^ 32 ≤ 2 ^ k := Nat.pow_le_pow_right (by decide) z
          omega
      refine ⟨k, ?_, g2, g3⟩
      rw [bm_iadd (by rw [g1]; show _ ≤ (32 : Int) + _; omega) (by rw [g1]; show (32 : Int) + _ < _; omega), g1]
      show (32 : Int) + _ = _
      omega
    · have hneg : m.toInt32.toInt < 0 := by
        rw [hm]
        have e2 : (2 : Nat) ^ 32 = 4294967296 := by decide
        rw [e2]; simp only [Int.bmod]; split <;> omega
      rw [bs_nlzI_neg _ hneg]
      exact ⟨31, by decide, by show (2147483648 : Int) ≤ _; omega, by show _ < (4294967296 : Int); omega⟩
  · rename_i h
    have h : ¬ ((m.toUInt64 >>> ((32 : Int32).toInt64.toUInt64 &&& Int64.toUInt64 63)).toInt64).toInt32.toInt = 0 := fun z => h (bm_ieq.mpr z)
    have g := bs_nlzI ((m.toUInt64 >>> ((32 : Int32).toInt64.toUInt64 &&& Int64.toUInt64 63)).toInt64).toInt32 (by omega)
    rw [hc] at g
    exact bm_lead_up (s := 32) (by omega) g
theorem bm_room_of {M k : Nat} (h1 : 2 ^ k ≤ M) (h2 : M < 2 ^ (k + 1)) (h : k ≤ 52) : 2 ^ 52 ≤ M * 2 ^ (52 - k) ∧ M * 2 ^ (52 - k) < 2 ^ 53 := by
  have e1 : 2 ^ k * 2 ^ (52 - k) = 2 ^ 52 := by rw [← Nat.pow_add]; congr 1; omega
  have e2 : 2 ^ (k + 1) * 2 ^ (52 - k) = 2 ^ 53 := by rw [← Nat.pow_add]; congr 1; omega
  constructor
  · rw [← e1]; exact Nat.mul_le_mul_right _ h1
  · rw [← e2]; exact Nat.mul_lt_mul_of_pos_right h2 (Nat.two_pow_pos _)
theorem bs_nlz {m : Int64} (h1 : 0 < m.toInt) (h2 : m.toInt < 9007199254740992) : ∃ k : Nat, k ≤ 52 ∧ (bj_nlzL m).toInt = 11 + k ∧ 4503599627370496 ≤ m.toInt * ((2 ^ k : Nat) : Int) ∧ m.toInt * ((2 ^ k : Nat) : Int) < 9007199254740992 := by
  obtain ⟨k, g1, g2, g3⟩ := bs_nlzL h1 h2
  obtain ⟨M, hM⟩ : ∃ M : Nat, m.toInt = M := ⟨m.toInt.toNat, by omega⟩
  rw [hM] at g2 g3 h2 ⊢
  have g2 := Int.ofNat_le.mp g2
  have g3 := Int.ofNat_lt.mp g3
  have hk : k ≤ 52 := by
    rcases Nat.lt_or_ge k 53 with z | z
    · omega
    · have : 2 ^ 53 ≤ 2 ^ k := Nat.pow_le_pow_right (by decide) z
      omega
  obtain ⟨q1, q2⟩ := bm_room_of g2 g3 hk
  refine ⟨52 - k, by omega, by omega, ?_, ?_⟩
  · rw [← Int.natCast_mul]; exact Int.ofNat_le.mpr q1
  · rw [← Int.natCast_mul]; exact Int.ofNat_lt.mpr q2
theorem bs_spareRoom {x : Int64} (h : 0 < bm_p x) : ∃ k : Nat, k ≤ 52 ∧ (bf_spareRoom x).toInt = k ∧ 4503599627370496 ≤ bm_sig (bm_p x) * ((2 ^ k : Nat) : Int) ∧ bm_sig (bm_p x) * ((2 ^ k : Nat) : Int) < 9007199254740992 := by
  have hs := bs_significand x
  have hr := bm_sig_r (bm_p_r x).1
  have hq := bm_sig_pos h
  obtain ⟨k, h1, h2, h3, h4⟩ := bs_nlz (m := bf_significand x) (by omega) (by omega)
  rw [hs] at h3 h4
  refine ⟨k, h1, ?_, h3, h4⟩
  unfold bf_spareRoom
  rw [bm_isub (by rw [h2]; show _ ≤ _ - (11 : Int); omega) (by rw [h2]; show _ - (11 : Int) < _; omega), h2]
  show _ - (11 : Int) = _
  omega
/-! a significand and a power: the pattern -/
def bm_fill (m q : Int) (s : Nat) : Prop := m * ((2 ^ s : Nat) : Int) < 9007199254740992 ∧ -1074 ≤ q - s ∧ (4503599627370496 ≤ m * ((2 ^ s : Nat) : Int) ∨ q - s = -1074)
def bm_val (m q : Int) (s : Nat) : Int := m * ((2 ^ s : Nat) : Int) + (q - s + 1074) * 4503599627370496
theorem bm_fill_u {m q : Int} {s1 s2 : Nat} (hm : 0 < m) (h1 : bm_fill m q s1) (h2 : bm_fill m q s2) : s1 = s2 := bm_uniq hm h1.1 h2.1 h1.2.1 h2.2.1 h1.2.2 h2.2.2
theorem bs_pattern {m : Int64} {q : Int32} (h1 : 0 < m.toInt) (h2 : m.toInt < 9007199254740992) (h3 : -1074 ≤ q.toInt) (h4 : q.toInt ≤ 971) : ∃ s : Nat, bm_fill m.toInt q.toInt s ∧ (bf_pattern m q).toInt = bm_val m.toInt q.toInt s := by
  have c1 : (-1074 : Int32).toInt = -1074 := by decide
  have c2 : (11 : Int32).toInt = 11 := by decide
  obtain ⟨k, k1, k2, k3, k4⟩ := bs_nlz h1 h2
  have hr : (bj_nlzL m - (11 : Int32)).toInt = k := by
    rw [bm_isub (by rw [k2, c2]; omega) (by rw [k2, c2]; omega), k2, c2]
    omega
  have he : (q - (-1074 : Int32)).toInt = q.toInt + 1074 := by
    rw [bm_isub (by rw [c1]; omega) (by rw [c1]; omega), c1]
    omega
  have hS : ∃ s : Nat, (if (q - (-1074 : Int32)) < (bj_nlzL m - (11 : Int32)) then (q - (-1074 : Int32)) else (bj_nlzL m - (11 : Int32))).toInt = s ∧ bm_fill m.toInt q.toInt s ∧ s ≤ 52 := by
    split
    · rename_i h
      have h := bm_ilt.mp h
      rw [he, hr] at h
      refine ⟨(q.toInt + 1074).toNat, by rw [he]; omega, ⟨?_, by omega, Or.inr (by omega)⟩, by omega⟩
      have := bm_mono (m := m.toInt) (s := (q.toInt + 1074).toNat) (t := k) (by omega) (by omega)
      omega
    · rename_i h
      have h : ¬ (q.toInt + 1074 < k) := fun z => h (bm_ilt.mpr (by rw [he, hr]; exact z))
      exact ⟨k, hr, ⟨k4, by omega, Or.inl k3⟩, k1⟩
  obtain ⟨s, s1, s2, s3⟩ := hS
  refine ⟨s, s2, ?_⟩
  obtain ⟨f1, f2, f3⟩ := s2
  have hne : ¬ m = 0 := fun z => by
    rw [z] at h1
    exact absurd h1 (by decide)
  unfold bf_pattern
  rw [if_neg hne]
  generalize (if (q - (-1074 : Int32)) < (bj_nlzL m - (11 : Int32)) then (q - (-1074 : Int32)) else (bj_nlzL m - (11 : Int32))) = S at s1 ⊢
  have e1 : (q - S).toInt = q.toInt - s := by rw [bm_isub (by rw [s1]; omega) (by rw [s1]; omega), s1]
  have e2 : (q - S - (-1074 : Int32)).toInt = q.toInt - s + 1074 := by
    rw [bm_isub (by rw [e1, c1]; omega) (by rw [e1, c1]; omega), e1, c1]
    omega
  have e3 : (q - S - (-1074 : Int32)).toInt64.toInt = q.toInt - s + 1074 := by rw [bm_i2l, e2]
  have p52 : ((2 ^ 52 : Nat) : Int) = 4503599627370496 := by decide
  have e4 : ((q - S - (-1074 : Int32)).toInt64 <<< ((52 : Int32).toInt64 &&& 63)).toInt = (q.toInt - s + 1074) * 4503599627370496 := by
    rw [bm_shl (j := 52) (by decide) (by decide) (by rw [e3, p52]; omega) (by rw [e3, p52]; omega), e3, p52]
  have hm0 : 0 ≤ m.toInt * ((2 ^ s : Nat) : Int) := Int.mul_nonneg (by omega) (Int.natCast_nonneg _)
  have e5 : (m <<< (S.toInt64 &&& 63)).toInt = m.toInt * ((2 ^ s : Nat) : Int) := bm_shl s1 (by omega) (by omega) (by omega)
  rw [bm_ladd (by rw [e4, e5]; omega) (by rw [e4, e5]; omega), e4, e5]
  unfold bm_val
  omega
theorem bs_pattern_val {m : Int64} {q : Int32} {s : Nat} (h1 : 0 < m.toInt) (h2 : m.toInt < 9007199254740992) (h3 : -1074 ≤ q.toInt) (h4 : q.toInt ≤ 971) (h : bm_fill m.toInt q.toInt s) : (bf_pattern m q).toInt = bm_val m.toInt q.toInt s := by
  obtain ⟨s2, g1, g2⟩ := bs_pattern h1 h2 h3 h4
  rw [g2, bm_fill_u h1 g1 h]
