/-! what the walks themselves need: an index within, a divisor that is not 0 -/
theorem bm_in8 {i : Int32} (h1 : 0 ≤ i.toInt) (h2 : i.toInt < 8) : vp_in i 8 := by
  intro h
  rcases h with h | h
  · have h : i.toInt < 0 := bm_ilt.mp h
    omega
  · have e : (i.toNatClampNeg : Int) = i.toInt := by rw [← Int32.toNat_toInt]; omega
    omega
theorem bs_reg0 (i : Int32) : bf_isRegister i = 0 ↔ ¬ (0 ≤ i.toInt ∧ i.toInt < 8) := by
  unfold bf_isRegister
  split
  · rename_i h
    have h : i.toInt < 0 := bm_ilt.mp h
    exact ⟨fun _ => by omega, fun _ => rfl⟩
  · rename_i h
    have h : ¬ i.toInt < 0 := fun z => h (bm_ilt.mpr z)
    split
    · rename_i h2
      have h2 : (8 : Int) ≤ i.toInt := bm_ile.mp h2
      exact ⟨fun _ => by omega, fun _ => rfl⟩
    · rename_i h2
      have h2 : ¬ (8 : Int) ≤ i.toInt := fun z => h2 (bm_ile.mpr z)
      exact ⟨fun z => absurd z (by decide), fun z => absurd z (by omega)⟩
theorem bs_reg1 (i : Int32) : bg_isRegister i = 0 ↔ ¬ (0 ≤ i.toInt ∧ i.toInt < 8) := by
  unfold bg_isRegister
  split
  · rename_i h
    have h : i.toInt < 0 := bm_ilt.mp h
    exact ⟨fun _ => by omega, fun _ => rfl⟩
  · rename_i h
    have h : ¬ i.toInt < 0 := fun z => h (bm_ilt.mpr z)
    split
    · rename_i h2
      have h2 : (7 : Int) < i.toInt := bm_ilt.mp h2
      exact ⟨fun _ => by omega, fun _ => rfl⟩
    · rename_i h2
      have h2 : ¬ (7 : Int) < i.toInt := fun z => h2 (bm_ilt.mpr z)
      exact ⟨fun z => absurd z (by decide), fun z => absurd z (by omega)⟩
theorem bm_reg0 {i : Int32} (h : ¬ bf_isRegister i = 0) : vp_in i 8 := by
  have h : 0 ≤ i.toInt ∧ i.toInt < 8 := Classical.byContradiction fun z => h ((bs_reg0 i).mpr z)
  exact bm_in8 h.1 h.2
theorem bm_reg1 {i : Int32} (h : ¬ bg_isRegister i = 0) : vp_in i 8 := by
  have h : 0 ≤ i.toInt ∧ i.toInt < 8 := Classical.byContradiction fun z => h ((bs_reg1 i).mpr z)
  exact bm_in8 h.1 h.2
theorem bs_isZero (x : Int64) : bf_isZero x = 0 ↔ ¬ bm_p x = 0 := by
  have h := bm_m63 x
  unfold bf_isZero bm_p
  split
  · rename_i c
    have c := bm_leq.mp c
    rw [h] at c
    have c : x.toInt % 9223372036854775808 = 0 := c
    exact ⟨fun z => absurd z (by decide), fun z => absurd c z⟩
  · rename_i c
    have c : ¬ x.toInt % 9223372036854775808 = 0 := fun z => c (bm_leq.mpr (by rw [h]; exact z))
    exact ⟨fun _ => c, fun _ => rfl⟩
theorem bs_plain (x : Int64) : (bg_plain x).toInt = bm_p x := by
  unfold bg_plain bm_p
  exact bm_m63 x
theorem bt_isZero (x : Int64) : bg_isZero x = 0 ↔ ¬ bm_p x = 0 := by
  have h := bs_plain x
  unfold bg_isZero
  split
  · rename_i c
    have c := bm_leq.mp c
    rw [h] at c
    have c : bm_p x = 0 := c
    exact ⟨fun z => absurd z (by decide), fun z => absurd c z⟩
  · rename_i c
    have c : ¬ bm_p x = 0 := fun z => c (bm_leq.mpr (by rw [h]; exact z))
    exact ⟨fun _ => c, fun _ => rfl⟩
theorem bs_number (x : Int64) : (bg_number x).toInt = bm_sig (bm_p x) := by
  have hp := bs_plain x
  have hm := bm_m52 x
  have hr := bm_p_r x
  have hq : x.toInt % 4503599627370496 = bm_p x % 4503599627370496 := by unfold bm_p; omega
  have c1 : (4503599627370496 : Int64).toInt = 4503599627370496 := by decide
  unfold bg_number bm_sig
  split
  · rename_i c
    have c := bm_lle.mp c
    rw [hp, c1] at c
    rw [if_neg (by omega), bm_ladd (by rw [hm, c1]; omega) (by rw [hm, c1]; omega), hm, hq, c1]
  · rename_i c
    have c : ¬ (4503599627370496 : Int) ≤ bm_p x := fun z => c (bm_lle.mpr (by rw [hp, c1]; exact z))
    rw [if_pos (by omega), hm, hq]
    omega
theorem bs_gpower (x : Int64) : (bg_power x).toInt = bm_pow (bm_p x) := by
  have hp := bs_plain x
  have hr := bm_p_r x
  have h := bm_shr (bg_plain x) (k := 52) (j := 52) (by decide) (by decide)
  rw [hp] at h
  have p52 : ((2 ^ 52 : Nat) : Int) = 4503599627370496 := by decide
  rw [p52] at h
  have e : ((bg_plain x) >>> ((52 : Int32).toInt64 &&& 63)).toInt32.toInt = bm_p x / 4503599627370496 := by
    rw [bm_l2i (by rw [h]; omega) (by rw [h]; omega), h]
  have c2 : (1075 : Int32).toInt = 1075 := by decide
  unfold bg_power bm_pow
  split
  · rename_i c
    rw [c] at e
    have e : (0 : Int) = bm_p x / 4503599627370496 := e
    rw [if_pos (by omega)]
    rfl
  · rename_i c
    have c : ¬ ((bg_plain x) >>> ((52 : Int32).toInt64 &&& 63)).toInt32.toInt = 0 := fun z => c (bm_ieq.mpr z)
    rw [if_neg (by omega), bm_isub (by rw [e, c2]; omega) (by rw [e, c2]; omega), e, c2]
theorem bs_dist (x y : Int64) : ((bf_power x) - (bf_power y)).toInt = bm_pow (bm_p x) - bm_pow (bm_p y) := by
  have a := bs_power x
  have b := bs_power y
  have rx := bm_pow_r2 (bm_p_r x).1 (bm_p_r x).2
  have ry := bm_pow_r2 (bm_p_r y).1 (bm_p_r y).2
  rw [bm_isub (by omega) (by omega), a, b]
theorem bs_gdist (x y : Int64) : ((bg_power x) - (bg_power y)).toInt = bm_pow (bm_p x) - bm_pow (bm_p y) := by
  have a := bs_gpower x
  have b := bs_gpower y
  have rx := bm_pow_r2 (bm_p_r x).1 (bm_p_r x).2
  have ry := bm_pow_r2 (bm_p_r y).1 (bm_p_r y).2
  rw [bm_isub (by omega) (by omega), a, b]
/-- the class's divisor -/
theorem bs_div {y : Int64} {d : Int32} (h : -1 ≤ d.toInt) (h2 : d.toInt < 4096) : ((bf_significand y) <<< ((if (-d) < (0 : Int32) then (0 : Int32) else (-d)).toInt64 &&& 63)).toInt = if d.toInt = -1 then 2 * bm_sig (bm_p y) else bm_sig (bm_p y) := by
  have hs := bs_significand y
  have hr := bm_sig_r (bm_p_r y).1
  have hn : (-d).toInt = -d.toInt := bm_ineg (by omega)
  split
  · rename_i c
    have c : (-d).toInt < 0 := bm_ilt.mp c
    rw [bm_shl (j := 0) (by decide) (by decide) (by rw [hs]; omega) (by rw [hs]; omega), hs, if_neg (by omega)]
    omega
  · rename_i c
    have c : ¬ (-d).toInt < 0 := fun z => c (bm_ilt.mpr z)
    by_cases e : d.toInt = -1
    · rw [if_pos e, bm_shl (j := 1) (by rw [hn]; omega) (by decide) (by rw [hs]; omega) (by rw [hs]; omega), hs]
      omega
    · rw [if_neg e, bm_shl (j := 0) (by rw [hn]; omega) (by decide) (by rw [hs]; omega) (by rw [hs]; omega), hs]
      omega
theorem bs_nz0 {x y : Int64} (h1 : bf_isZero y = 0) (h2 : (-1 : Int32) ≤ ((bf_power x) - (bf_power y))) : ¬ ((bf_significand y) <<< ((if (-((bf_power x) - (bf_power y))) < (0 : Int32) then (0 : Int32) else (-((bf_power x) - (bf_power y)))).toInt64 &&& 63)) = 0 := by
  intro z
  have z := bm_leq.mp z
  have hd := bs_dist x y
  have rx := bm_pow_r2 (bm_p_r x).1 (bm_p_r x).2
  have ry := bm_pow_r2 (bm_p_r y).1 (bm_p_r y).2
  have h2 := bm_ile.mp h2
  rw [show (-1 : Int32).toInt = -1 by decide] at h2
  rw [bs_div h2 (by omega)] at z
  have z : (if ((bf_power x) - (bf_power y)).toInt = -1 then 2 * bm_sig (bm_p y) else bm_sig (bm_p y)) = 0 := z
  have hp := bm_p_r y
  have h1 := (bs_isZero y).mp h1
  have := bm_sig_pos (p := bm_p y) (by omega)
  split at z <;> omega
theorem bs_nz1 {y : Int64} (h1 : bg_isZero y = 0) : ¬ bg_number y = 0 := by
  intro z
  have z := bm_leq.mp z
  rw [bs_number] at z
  have z : bm_sig (bm_p y) = 0 := z
  have hp := bm_p_r y
  have h1 := (bt_isZero y).mp h1
  have := bm_sig_pos (p := bm_p y) (by omega)
  omega
/-- the reference's divisor, where the power of x is the lesser -/
theorem bs_gdiv {x y : Int64} {d : Int32} (hd : d.toInt < 0) (h1 : -62 ≤ d.toInt) (h2 : (bg_number y) ≤ ((1 : Int64) <<< (((62 : Int32) + d).toInt64 &&& 63))) : ∃ j : Nat, (j : Int) = -d.toInt ∧ ((bg_number y) <<< ((-d).toInt64 &&& 63)).toInt = bm_sig (bm_p y) * ((2 ^ j : Nat) : Int) ∧ bm_sig (bm_p y) * ((2 ^ j : Nat) : Int) ≤ 4611686018427387904 := by
  have hs := bs_number y
  have hr := bm_sig_r (bm_p_r y).1
  have hn : (-d).toInt = -d.toInt := bm_ineg (by omega)
  have c62 : (62 : Int32).toInt = 62 := by decide
  obtain ⟨j, hj⟩ : ∃ j : Nat, (j : Int) = -d.toInt := ⟨(-d.toInt).toNat, by omega⟩
  have he : ((62 : Int32) + d).toInt = ((62 - j : Nat) : Int) := by
    rw [bm_iadd (by rw [c62]; omega) (by rw [c62]; omega), c62]
    omega
  have hp : 2 ^ (62 - j) ≤ 2 ^ 62 := Nat.pow_le_pow_right (by decide) (by omega)
  have e62 : (2 : Nat) ^ 62 = 4611686018427387904 := by decide
  have e1 : ((1 : Int64) <<< (((62 : Int32) + d).toInt64 &&& 63)).toInt = ((2 ^ (62 - j) : Nat) : Int) := by
    have o : (1 : Int64).toInt = 1 := by decide
    have hb : ((2 ^ (62 - j) : Nat) : Int) ≤ 4611686018427387904 := Int.ofNat_le.mpr (by omega)
    have hb0 := Int.natCast_nonneg (2 ^ (62 - j))
    rw [bm_shl he (by omega) (by rw [o]; omega) (by rw [o]; omega), o]
    omega
  have h2 := bm_lle.mp h2
  rw [hs, e1] at h2
  have e2 : 2 ^ (62 - j) * 2 ^ j = 2 ^ 62 := by rw [← Nat.pow_add]; congr 1; omega
  have h3 : bm_sig (bm_p y) * ((2 ^ j : Nat) : Int) ≤ 4611686018427387904 := by
    have := Int.mul_le_mul_of_nonneg_right h2 (Int.natCast_nonneg (2 ^ j))
    rw [← Int.natCast_mul, e2, e62] at this
    exact this
  have h0 : 0 ≤ bm_sig (bm_p y) * ((2 ^ j : Nat) : Int) := Int.mul_nonneg hr.1 (Int.natCast_nonneg _)
  refine ⟨j, hj, ?_, h3⟩
  rw [bm_shl (j := j) (by rw [hn]; omega) (by omega) (by rw [hs]; omega) (by rw [hs]; omega), hs]
theorem bs_nz2 {x y : Int64} (h1 : bg_isZero y = 0) (h2 : ¬ 0 ≤ ((bg_power x) - (bg_power y))) (h3 : ¬ ((bg_power x) - (bg_power y)) < (-62 : Int32)) (h4 : (bg_number y) ≤ ((1 : Int64) <<< (((62 : Int32) + ((bg_power x) - (bg_power y))).toInt64 &&& 63))) : ¬ ((bg_number y) <<< ((-((bg_power x) - (bg_power y))).toInt64 &&& 63)) = 0 := by
  intro z
  have z := bm_leq.mp z
  have h2 : ¬ (0 : Int) ≤ ((bg_power x) - (bg_power y)).toInt := fun q => h2 (bm_ile.mpr q)
  have h3 : ¬ ((bg_power x) - (bg_power y)).toInt < (-62 : Int) := fun q => h3 (bm_ilt.mpr q)
  obtain ⟨j, hj, e, _⟩ := bs_gdiv (x := x) (by omega) (by omega) h4
  rw [e] at z
  have z : bm_sig (bm_p y) * ((2 ^ j : Nat) : Int) = 0 := z
  have hp := bm_p_r y
  have h1 := (bt_isZero y).mp h1
  have := bm_sig_pos (p := bm_p y) (by omega)
  have := bm_ge1 (s := j) (show 0 ≤ bm_sig (bm_p y) by omega)
  omega
