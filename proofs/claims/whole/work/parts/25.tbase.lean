/-! class and reference beside each other: the small functions, signs, rounding -/
def bt_R (F : Int32 × Int32 × Int32 × (Nat → Int64)) (G : Int32 × Int32 × Int32 × Int64 × Int64 × (Nat → Int64)) : Prop := F.1 = G.1 ∧ F.2.1 = G.2.1 ∧ F.2.2.1 = G.2.2.1 ∧ F.2.2.2 = G.2.2.2.2.2
theorem bt_reg (i : Int32) : bf_isRegister i = bg_isRegister i := by
  unfold bf_isRegister bg_isRegister
  by_cases h : i < 0
  · rw [if_pos h, if_pos h]
  · rw [if_neg h, if_neg h]
    have e : ((8 : Int32) ≤ i) ↔ ((7 : Int32) < i) := by
      rw [bm_ile, bm_ilt]
      show (8 : Int) ≤ i.toInt ↔ (7 : Int) < i.toInt
      omega
    by_cases h2 : (8 : Int32) ≤ i
    · rw [if_pos h2, if_pos (e.mp h2)]
    · rw [if_neg h2, if_neg (fun z => h2 (e.mpr z))]
theorem bt_nan (x : Int64) : bf_isNan x = bg_isNan x := rfl
theorem bt_inf (x : Int64) : bf_isInfinity x = bg_isInfinite x := rfl
theorem bt_zero (x : Int64) : bf_isZero x = bg_isZero x := rfl
theorem bt_sig (x : Int64) : bf_significand x = bg_number x := bm_leq.mpr (by rw [bs_significand, bs_number])
theorem bt_pow (x : Int64) : bf_power x = bg_power x := bm_ieq.mpr (by rw [bs_power, bs_gpower])
theorem bs_isNan (x : Int64) : bg_isNan x = 0 ↔ bm_p x ≤ 9218868437227405312 := by
  have h := bs_plain x
  have c : (9218868437227405312 : Int64).toInt = 9218868437227405312 := by decide
  unfold bg_isNan
  by_cases e : bg_plain x ≤ (9218868437227405312 : Int64)
  · rw [if_pos e]
    have e := bm_lle.mp e
    rw [h, c] at e
    exact ⟨fun _ => e, fun _ => rfl⟩
  · rw [if_neg e]
    have e : ¬ bm_p x ≤ 9218868437227405312 := fun z => e (bm_lle.mpr (by rw [h, c]; exact z))
    exact ⟨fun z => absurd z (by decide), fun z => absurd z e⟩
theorem bs_isInf (x : Int64) : bg_isInfinite x = 0 ↔ ¬ bm_p x = 9218868437227405312 := by
  have h := bs_plain x
  have c : (9218868437227405312 : Int64).toInt = 9218868437227405312 := by decide
  unfold bg_isInfinite
  by_cases e : bg_plain x = (9218868437227405312 : Int64)
  · rw [if_pos e]
    have e := bm_leq.mp e
    rw [h, c] at e
    exact ⟨fun z => absurd z (by decide), fun z => absurd e z⟩
  · rw [if_neg e]
    have e : ¬ bm_p x = 9218868437227405312 := fun z => e (bm_leq.mpr (by rw [h, c]; exact z))
    exact ⟨fun _ => e, fun _ => rfl⟩
theorem bs_fin {x : Int64} (h1 : bg_isNan x = 0) (h2 : bg_isInfinite x = 0) : bm_p x < 9218868437227405312 := by
  have a := (bs_isNan x).mp h1
  have b := (bs_isInf x).mp h2
  omega
theorem bs_pos {x : Int64} (h : bg_isZero x = 0) : 0 < bm_p x := by
  have a := (bt_isZero x).mp h
  have r := bm_p_r x
  omega
theorem bs_neg0 {x : Int64} (h : (0 : Int64) ≤ x) : bg_negative x = 0 := if_pos h
theorem bs_neg1 {x : Int64} (h : ¬ (0 : Int64) ≤ x) : bg_negative x = 1 := if_neg h
theorem bt_sign (x a : Int64) : bf_signOf x ||| a = bg_signed a (bg_negative x) := by
  unfold bf_signOf bg_signed
  by_cases h : (0 : Int64) ≤ x
  · have n : ¬ x < 0 := fun z => by
      have z := bm_llt.mp z
      have h := bm_lle.mp h
      omega
    rw [bs_neg0 h, if_pos rfl, bm_sgP n, Int64.zero_or]
  · have n : x < 0 := by
      apply bm_llt.mpr
      have h : ¬ (0 : Int64).toInt ≤ x.toInt := fun z => h (bm_lle.mpr z)
      omega
    rw [bs_neg1 h, if_neg (by decide), bm_sgN n, Int64.or_comm]
theorem bt_eqx {x a : Int64} (ha : 0 ≤ a.toInt) : (bg_signed a (bg_negative x) = x) ↔ (a = bg_plain x) := by
  have hp := bs_plain x
  have rx := bm_rl x
  have ra := bm_rl a
  have z0 : (0 : Int64).toInt = 0 := by decide
  unfold bg_signed
  rw [bm_leq, bm_leq, hp]
  unfold bm_p
  by_cases h : (0 : Int64) ≤ x
  · rw [bs_neg0 h, if_pos rfl]
    have h := bm_lle.mp h
    rw [z0] at h
    omega
  · rw [bs_neg1 h, if_neg (by decide), bm_orS ha]
    have h : ¬ (0 : Int) ≤ x.toInt := fun z => h (bm_lle.mpr (by rw [z0]; exact z))
    omega
theorem bs_pat0 {m : Int64} {q : Int32} (h1 : 0 ≤ m.toInt) (h2 : m.toInt < 9007199254740992) (h3 : -1074 ≤ q.toInt) (h4 : q.toInt ≤ 971) : 0 ≤ (bf_pattern m q).toInt := by
  rcases Int.lt_or_eq_of_le h1 with h | h
  · obtain ⟨s, g1, g2⟩ := bs_pattern h h2 h3 h4
    rw [g2]
    obtain ⟨e1, e2, e3⟩ := g1
    unfold bm_val
    have := Int.mul_nonneg h1 (Int.natCast_nonneg (2 ^ s))
    omega
  · have hz : m = 0 := bm_leq.mpr h.symm
    subst hz
    have a : bf_pattern 0 q = 0 := by unfold bf_pattern; rw [if_pos rfl]
    rw [a]
    decide
/-! rounding -/
theorem bm_shr0 {m : Int64} {S : Int32} (h0 : 0 ≤ m.toInt) (h1 : m.toInt < 9007199254740992) (s1 : 53 ≤ S.toInt) (s2 : S.toInt ≤ 60) : m >>> (S.toInt64 &&& 63) = 0 := by
  obtain ⟨j, hj⟩ : ∃ j : Nat, S.toInt = j := ⟨S.toInt.toNat, by omega⟩
  have hp : 2 ^ 53 ≤ 2 ^ j := Nat.pow_le_pow_right (by decide) (by omega)
  have hp2 : (9007199254740992 : Int) ≤ ((2 ^ j : Nat) : Int) := Int.ofNat_le.mpr hp
  apply bm_leq.mpr
  rw [bm_shr m hj (by omega), Int.ediv_eq_zero_of_lt h0 (by omega)]
  rfl
theorem bm_shl0 {S : Int32} (s1 : 0 ≤ S.toInt) (s2 : S.toInt ≤ 60) : (0 : Int64) <<< (S.toInt64 &&& 63) = 0 := by
  obtain ⟨j, hj⟩ : ∃ j : Nat, S.toInt = j := ⟨S.toInt.toNat, by omega⟩
  rw [bm_shlM 0 hj (by omega), Int64.zero_mul]
theorem bm_par {v : Int64} (h : 0 ≤ v.toInt) : (v &&& (1 : Int64)) = (1 : Int64) ↔ v - v / (2 : Int64) * (2 : Int64) = (1 : Int64) := by
  have c2 : (2 : Int64).toInt = 2 := by decide
  rw [bm_leq, bm_leq, bm_m1, bm_lrem h (by rw [c2]; decide), c2]
theorem bs_near0 {m : Int64} {S : Int32} (h0 : 0 ≤ m.toInt) (h1 : m.toInt < 9007199254740992) (s1 : 55 ≤ S.toInt) (s2 : S.toInt ≤ 60) : bf_nearestShifted m S = 0 := by
  have c1 : (1 : Int32).toInt = 1 := by decide
  have o1 : (1 : Int64).toInt = 1 := by decide
  have e1 : (S - (1 : Int32)).toInt = S.toInt - 1 := by rw [bm_isub (by rw [c1]; omega) (by rw [c1]; omega), c1]
  obtain ⟨j, hj⟩ : ∃ j : Nat, (S - (1 : Int32)).toInt = j := ⟨(S.toInt - 1).toNat, by rw [e1]; omega⟩
  have hp : 2 ^ 54 ≤ 2 ^ j := Nat.pow_le_pow_right (by decide) (by omega)
  have hp3 : 2 ^ j ≤ 2 ^ 60 := Nat.pow_le_pow_right (by decide) (by omega)
  have hp2 : (18014398509481984 : Int) ≤ ((2 ^ j : Nat) : Int) := Int.ofNat_le.mpr hp
  have hp4 : ((2 ^ j : Nat) : Int) ≤ (1152921504606846976 : Int) := Int.ofNat_le.mpr hp3
  have e2 : ((1 : Int64) <<< ((S - (1 : Int32)).toInt64 &&& 63)).toInt = ((2 ^ j : Nat) : Int) := by
    rw [bm_shl hj (by omega) (by rw [o1]; omega) (by rw [o1]; omega), o1, Int.one_mul]
  unfold bf_nearestShifted
  rw [bm_shr0 h0 h1 (by omega) s2, bm_shl0 (by omega) s2, Int64.sub_zero]
  generalize (1 : Int64) <<< ((S - (1 : Int32)).toInt64 &&& 63) = HF at e2 ⊢
  rw [if_neg (fun z => by have z := bm_llt.mp z; omega), if_neg (fun z => by have z := bm_leq.mp z; omega)]
theorem bt_nearS {m : Int64} {K : Int32} (u : Int32) (h0 : 0 ≤ m.toInt) (k1 : 1 ≤ K.toInt) (k2 : K.toInt ≤ 54) : bf_nearestShifted m K = bg_cut m K 1 u := by
  obtain ⟨j, hj⟩ : ∃ j : Nat, K.toInt = j := ⟨K.toInt.toNat, by omega⟩
  have hk : 0 ≤ (m >>> (K.toInt64 &&& 63)).toInt := by
    rw [bm_shr m hj (by omega)]
    exact Int.ediv_nonneg h0 (Int.natCast_nonneg _)
  have par := bm_par hk
  have c54 : (54 : Int32).toInt = 54 := by decide
  have kc : K ≤ (54 : Int32) := bm_ile.mpr (by rw [c54]; omega)
  have n10 : ¬ (1 : Int32) = 0 := by decide
  unfold bf_nearestShifted bg_cut
  rw [if_pos kc, if_neg n10, if_neg n10]
  generalize m >>> (K.toInt64 &&& 63) = kept at par ⊢
  generalize m - kept <<< (K.toInt64 &&& 63) = lost
  generalize (1 : Int64) <<< ((K - (1 : Int32)).toInt64 &&& 63) = half
  have key : (if half < lost then kept + (1 : Int64) else if lost = half then (if (kept &&& (1 : Int64)) = (1 : Int64) then kept + (1 : Int64) else kept) else kept) = (if half < lost then kept + (1 : Int64) else if lost = half then (if (kept - kept / (2 : Int64) * (2 : Int64)) = (1 : Int64) then kept + (1 : Int64) else kept) else kept) := by
    by_cases a1 : half < lost
    · rw [if_pos a1, if_pos a1]
    · rw [if_neg a1, if_neg a1]
      by_cases a2 : lost = half
      · rw [if_pos a2, if_pos a2]
        by_cases a3 : (kept &&& (1 : Int64)) = (1 : Int64)
        · rw [if_pos a3, if_pos (par.mp a3)]
        · rw [if_neg a3, if_neg (fun z => a3 (par.mpr z))]
      · rw [if_neg a2, if_neg a2]
  rw [key]
  by_cases c : kept <<< (K.toInt64 &&& 63) = m
  · rw [if_pos c]
  · rw [if_neg c]
theorem bs_cutbig {m : Int64} {K : Int32} (u : Int32) (k2 : 54 < K.toInt) : bg_cut m K 1 u = 0 := by
  have c54 : (54 : Int32).toInt = 54 := by decide
  have kc : ¬ K ≤ (54 : Int32) := fun z => by have z := bm_ile.mp z; rw [c54] at z; omega
  have n10 : ¬ (1 : Int32) = 0 := by decide
  unfold bg_cut
  rw [if_neg kc, if_neg n10, if_neg n10]
  by_cases c : m ≤ (0 : Int64)
  · rw [if_pos c]
  · rw [if_neg c]
theorem bm_min60 {K : Int32} : (54 < K.toInt → 55 ≤ (if (60 : Int32) < K then (60 : Int32) else K).toInt ∧ (if (60 : Int32) < K then (60 : Int32) else K).toInt ≤ 60) ∧ (K.toInt ≤ 54 → (if (60 : Int32) < K then (60 : Int32) else K) = K) := by
  have c : (60 : Int32).toInt = 60 := by decide
  by_cases h : (60 : Int32) < K
  · rw [if_pos h, c]
    have h := bm_ilt.mp h
    rw [c] at h
    exact ⟨fun _ => by omega, fun z => by omega⟩
  · rw [if_neg h]
    have h : ¬ 60 < K.toInt := fun z => h (bm_ilt.mpr (by rw [c]; exact z))
    exact ⟨fun z => by omega, fun _ => rfl⟩
theorem bt_near {m : Int64} {K : Int32} (u : Int32) (h0 : 0 ≤ m.toInt) (h1 : m.toInt < 9007199254740992) (k1 : 1 ≤ K.toInt) : bf_nearestShifted m (if (60 : Int32) < K then (60 : Int32) else K) = bg_cut m K 1 u := by
  rcases Int.lt_or_le 54 K.toInt with h | h
  · obtain ⟨a, b⟩ := bm_min60.1 h
    rw [bs_near0 h0 h1 a b, bs_cutbig u h]
  · rw [bm_min60.2 h, bt_nearS u h0 k1 h]
theorem bt_far0 {m : Int64} {K : Int32} (h0 : 0 ≤ m.toInt) (h1 : m.toInt < 9007199254740992) (k1 : 1 ≤ K.toInt) : m >>> ((if (60 : Int32) < K then (60 : Int32) else K).toInt64 &&& 63) = bg_cut m K 0 0 := by
  have c54 : (54 : Int32).toInt = 54 := by decide
  unfold bg_cut
  rcases Int.lt_or_le 54 K.toInt with h | h
  · obtain ⟨a, b⟩ := bm_min60.1 h
    have kc : ¬ K ≤ (54 : Int32) := fun z => by have z := bm_ile.mp z; rw [c54] at z; omega
    rw [bm_shr0 h0 h1 (by omega) b, if_neg kc, if_pos rfl, if_pos rfl, if_pos rfl]
    by_cases c : m ≤ (0 : Int64)
    · rw [if_pos c]
    · rw [if_neg c]
  · rw [bm_min60.2 h]
    have kc : K ≤ (54 : Int32) := bm_ile.mpr (by rw [c54]; omega)
    rw [if_pos kc, if_pos rfl, if_pos rfl, if_pos rfl]
    by_cases c : (m >>> (K.toInt64 &&& 63)) <<< (K.toInt64 &&& 63) = m
    · rw [if_pos c]
    · rw [if_neg c]
theorem bt_far1 {m : Int64} {K : Int32} (h0 : 0 ≤ m.toInt) (h1 : m.toInt < 9007199254740992) (k1 : 1 ≤ K.toInt) : (if (m >>> ((if (60 : Int32) < K then (60 : Int32) else K).toInt64 &&& 63)) <<< ((if (60 : Int32) < K then (60 : Int32) else K).toInt64 &&& 63) = m then m >>> ((if (60 : Int32) < K then (60 : Int32) else K).toInt64 &&& 63) else (m >>> ((if (60 : Int32) < K then (60 : Int32) else K).toInt64 &&& 63)) + (1 : Int64)) = bg_cut m K 0 1 := by
  have c54 : (54 : Int32).toInt = 54 := by decide
  have z0 : (0 : Int64).toInt = 0 := by decide
  have n10 : ¬ (1 : Int32) = 0 := by decide
  unfold bg_cut
  rcases Int.lt_or_le 54 K.toInt with h | h
  · obtain ⟨a, b⟩ := bm_min60.1 h
    have kc : ¬ K ≤ (54 : Int32) := fun z => by have z := bm_ile.mp z; rw [c54] at z; omega
    rw [bm_shr0 h0 h1 (by omega) b, bm_shl0 (by omega) b, if_neg kc, if_pos rfl, if_pos rfl, if_neg n10]
    by_cases c : m ≤ (0 : Int64)
    · have c2 : (0 : Int64) = m := bm_leq.mpr (by have c := bm_lle.mp c; rw [z0] at c ⊢; omega)
      rw [if_pos c, if_pos c2]
    · have c2 : ¬ (0 : Int64) = m := fun z => c (bm_lle.mpr (by rw [← z]; exact Int.le_refl _))
      rw [if_neg c, if_neg c2]
  · rw [bm_min60.2 h]
    have kc : K ≤ (54 : Int32) := bm_ile.mpr (by rw [c54]; omega)
    rw [if_pos kc, if_pos rfl, if_pos rfl, if_neg n10]
