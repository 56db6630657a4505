/-! scale: class beside reference -/
theorem bs_rnd {m p : Int64} {k : Nat} (h1 : 0 < m.toInt) (k0 : k ≤ 52) (k1 : 4503599627370496 ≤ m.toInt * ((2 ^ k : Nat) : Int)) (k2 : m.toInt * ((2 ^ k : Nat) : Int) < 9007199254740992) (p1 : -4294967296 ≤ p.toInt) (p2 : p.toInt ≤ 4294967296) : (bl_rnd_1 (m, p, 0)).1.toInt = m.toInt * ((2 ^ k : Nat) : Int) ∧ (bl_rnd_1 (m, p, 0)).2.1.toInt = p.toInt - k := by
  obtain ⟨n, hn⟩ := bl_rnd_1_ok (m, p, 0)
  have cO : (4503599627370496 : Int64).toInt = 4503599627370496 := by decide
  have c1 : (1 : Int64).toInt = 1 := by decide
  have big : ∀ s : Nat, 4503599627370496 ≤ m.toInt * ((2 ^ s : Nat) : Int) → k ≤ s := fun s hs => by
    rcases Nat.lt_or_ge s k with z | z
    · have := bm_pw2 (m := m.toInt) (by omega) z
      omega
    · exact z
  have small : ∀ s : Nat, ¬ 4503599627370496 ≤ m.toInt * ((2 ^ s : Nat) : Int) → s < k := fun s hs => by
    rcases Nat.lt_or_ge s k with z | z
    · exact z
    · have := bm_mono (m := m.toInt) (by omega) z
      omega
  refine bl_inv bl_rnd_1_st (fun v => ∃ s : Nat, v.1.toInt = m.toInt * ((2 ^ s : Nat) : Int) ∧ v.2.1.toInt = p.toInt - s ∧ v.2.2.toInt = s ∧ s ≤ k) (fun v => v.1.toInt = m.toInt * ((2 ^ k : Nat) : Int) ∧ v.2.1.toInt = p.toInt - k) ?_ ?_ n (m, p, 0) _ ⟨0, by show m.toInt = _; omega, by show p.toInt = _; omega, by show (0 : Int32).toInt = ((0 : Nat) : Int); decide, by omega⟩ hn
  · rintro ⟨v5, v7, v9⟩ s2 ⟨s, g1, g2, g3, g4⟩ h
    have g1 : v5.toInt = m.toInt * ((2 ^ s : Nat) : Int) := g1
    have g2 : v7.toInt = p.toInt - s := g2
    have g3 : v9.toInt = s := g3
    have g0 : 0 ≤ m.toInt * ((2 ^ s : Nat) : Int) := Int.mul_nonneg (by omega) (Int.natCast_nonneg _)
    have h : bl_rnd_1_b v5 v7 v9 = .inl s2 := h
    unfold bl_rnd_1_b at h
    split at h
    · cases h
    split at h
    · cases h
    rename_i ca cb
    have cb : ¬ 4503599627370496 ≤ v5.toInt := fun z => cb (bm_lle.mpr (by rw [cO]; exact z))
    have hs := small s (by omega)
    have b1 : 0 ≤ v5.toInt := by omega
    have b2 : v5.toInt < 4611686018427387904 := by omega
    have b3 : v9.toInt < 2147483647 := by omega
    have b4 : -9223372036854775808 ≤ v7.toInt - (1 : Int64).toInt := by rw [c1]; omega
    have b5 : v7.toInt - (1 : Int64).toInt < 9223372036854775808 := by rw [c1]; omega
    have e1 := bm_dbl b1 b2
    have e2 := bm_lsub b4 b5
    have e3 := bm_inc b3
    rw [c1] at e2
    obtain rfl := Sum.inl.inj h
    refine ⟨s + 1, ?_, ?_, ?_, hs⟩
    · show (v5 <<< ((1 : Int32).toInt64 &&& 63)).toInt = _
      rw [e1, g1, bm_pws]
    · show (v7 - (1 : Int64)).toInt = _
      rw [e2, g2]
      omega
    · show (v9 + (1 : Int32)).toInt = _
      rw [e3, g3]
      omega
  · rintro ⟨v5, v7, v9⟩ a ⟨s, g1, g2, g3, g4⟩ h
    have g1 : v5.toInt = m.toInt * ((2 ^ s : Nat) : Int) := g1
    have g2 : v7.toInt = p.toInt - s := g2
    have g3 : v9.toInt = s := g3
    have h : bl_rnd_1_b v5 v7 v9 = .inr a := h
    unfold bl_rnd_1_b at h
    split at h
    · rename_i c
      have c : (60 : Int) ≤ v9.toInt := bm_ile.mp c
      omega
    split at h
    · rename_i ca cb
      have cb := bm_lle.mp cb
      rw [cO, g1] at cb
      have hb := big s cb
      have hs : s = k := by omega
      subst hs
      obtain rfl := Sum.inr.inj h
      exact ⟨g1, g2⟩
    · cases h
theorem bs_least {m : Int64} (h1 : 0 ≤ m.toInt) (h2 : m.toInt < 9007199254740992) : bf_pattern m (-1074 : Int32) = m := by
  have c : (-1074 : Int32).toInt = -1074 := by decide
  rcases Int.lt_or_eq_of_le h1 with h | h
  · apply bm_leq.mpr
    have hf : bm_fill m.toInt (-1074 : Int32).toInt 0 := ⟨by omega, by rw [c]; omega, Or.inr (by rw [c]; omega)⟩
    rw [bs_pattern_val h h2 (by rw [c]; omega) (by rw [c]; omega) hf]
    unfold bm_val
    rw [c]
    omega
  · have hz : m = 0 := bm_leq.mpr h.symm
    subst hz
    unfold bf_pattern
    rw [if_pos rfl]
theorem bt_scale (f1 f2 : Int32) (f3 f4 : Int64) (g : Nat → Int64) (x1 x2 x3 : Int32) : bt_R (bf_scale f1 f2 g x1 x2 x3) (bg_scale f1 f2 f3 f4 g x1 x2 x3) := by
  unfold bf_scale bg_scale bf_scale_k1 bg_scale_k1 bf_timesPowerOfTwo bf_timesPowerOfTwo_k1 bf_timesPowerOfTwo_k2
  rw [bt_reg, bt_reg]
  by_cases r1 : bg_isRegister x1 = 0
  · rw [if_pos r1, if_pos r1]; exact ⟨rfl, rfl, rfl, rfl⟩
  rw [if_neg r1, if_neg r1]
  by_cases r2 : bg_isRegister x2 = 0
  · rw [if_pos r2, if_pos r2]; exact ⟨rfl, rfl, rfl, rfl⟩
  rw [if_neg r2, if_neg r2]
  generalize g x2.toNatClampNeg = x
  rw [bt_nan x, bt_zero x, bt_inf x]
  by_cases n : bg_isNan x = 0
  rotate_left
  · rw [if_neg n, if_neg n]; exact ⟨rfl, rfl, rfl, rfl⟩
  rw [if_pos n, if_pos n]
  by_cases z : bg_isZero x = 0
  rotate_left
  · rw [if_neg z, if_neg z]
    by_cases i : bg_isInfinite x = 0
    · rw [if_pos i]; exact ⟨rfl, rfl, rfl, rfl⟩
    · rw [if_neg i]; exact ⟨rfl, rfl, rfl, rfl⟩
  rw [if_pos z, if_pos z]
  by_cases i : bg_isInfinite x = 0
  rotate_left
  · rw [if_neg i, if_neg i]; exact ⟨rfl, rfl, rfl, rfl⟩
  rw [if_pos i, if_pos i]
  have hf := bs_fin n i
  have h0 := bs_pos z
  obtain ⟨k, k0, kS, kP, k1, k2⟩ := bs_full h0
  have hm := bs_number x
  have hp := bs_gpower x
  have rp := bm_pow_r (bm_p_r x).1 hf
  have sp := bm_sig_pos h0
  have r3 := bm_ri x3
  have hP : ((bg_power x).toInt64 + x3.toInt64).toInt = bm_pow (bm_p x) + x3.toInt := by
    rw [bm_ladd (by rw [bm_i2l, bm_i2l, hp]; omega) (by rw [bm_i2l, bm_i2l, hp]; omega), bm_i2l, bm_i2l, hp]
  have hFP : ((bf_fullPower x).toInt64 + x3.toInt64).toInt = bm_pow (bm_p x) - k + x3.toInt := by
    rw [bm_ladd (by rw [bm_i2l, bm_i2l, kP]; omega) (by rw [bm_i2l, bm_i2l, kP]; omega), bm_i2l, bm_i2l, kP]
  unfold bg_rounded
  generalize (bg_power x).toInt64 + x3.toInt64 = PX at hP ⊢
  generalize (bf_fullPower x).toInt64 + x3.toInt64 = Q at hFP ⊢
  generalize bg_number x = N at hm ⊢
  generalize bf_fullSignificand x = F at kS ⊢
  clear hp kP
  generalize bm_sig (bm_p x) = S at kS k1 k2 hm sp
  generalize bm_pow (bm_p x) = Pw at hP hFP rp
  obtain ⟨q1, q2⟩ := bs_rnd (m := N) (p := PX) (k := k) (by omega) k0 (by rw [hm]; exact k1) (by rw [hm]; exact k2) (by omega) (by omega)
  rw [hm] at q1
  generalize bl_rnd_1 (N, PX, 0) = R at q1 q2 ⊢
  have hRF : R.1 = F := bm_leq.mpr (by rw [q1, kS])
  have hRQ : R.2.1 = Q := bm_leq.mpr (by rw [q2, hP, hFP]; omega)
  have hF0 : 4503599627370496 ≤ F.toInt := by omega
  have hF1 : F.toInt < 9007199254740992 := by omega
  unfold bg_rounded_k1
  rw [hRF, hRQ]
  clear q1 q2 hRF hRQ hm kS k1 k2 sp hP
  simp only [bt_sign]
  have c971 : (971 : Int64).toInt = 971 := by decide
  have cm : (-1074 : Int64).toInt = -1074 := by decide
  by_cases o : Q ≤ (971 : Int64)
  rotate_left
  · rw [if_neg o, if_neg o]
    exact ⟨rfl, rfl, rfl, rfl⟩
  rw [if_pos o, if_pos o]
  have o := bm_lle.mp o
  rw [c971] at o
  by_cases u : Q < (-1074 : Int64)
  rotate_left
  · rw [if_neg u, if_neg u]
    have u : ¬ Q.toInt < -1074 := fun q => u (bm_llt.mpr (by rw [cm]; exact q))
    have e : Q.toInt32.toInt = Q.toInt := bm_l2i (by omega) (by omega)
    rw [bt_pattern (m := F) (q := Q.toInt32) (by omega) hF1 (by omega) (by omega)]
    exact ⟨rfl, rfl, rfl, rfl⟩
  rw [if_pos u, if_pos u]
  have u := bm_llt.mp u
  rw [cm] at u
  have hB : ((-1074 : Int64) - Q).toInt = -1074 - Q.toInt := by rw [bm_lsub (by rw [cm]; omega) (by rw [cm]; omega), cm]
  generalize (-1074 : Int64) - Q = B at hB ⊢
  have hB1 : 1 ≤ B.toInt := by omega
  have c54 : (54 : Int64).toInt = 54 := by decide
  have c60 : (60 : Int64).toInt = 60 := by decide
  have cO : (4503599627370496 : Int64).toInt = 4503599627370496 := by decide
  have z0 : (0 : Int64).toInt = 0 := by decide
  have or28 : (f1 ||| (2 : Int32)) ||| (8 : Int32) = f1 ||| (10 : Int32) := by
    rw [Int32.or_assoc]
    rfl
  clear hB hFP rp r3 o u
  unfold bf_roundedToLeastPower bf_roundedToLeastPower_k1 bf_roundedToLeastPower_k2 bf_raise
  by_cases b : B ≤ (54 : Int64)
  · have b2 := bm_lle.mp b
    rw [c54] at b2
    have n60 : ¬ (60 : Int64) < B := fun q => by have q := bm_llt.mp q; rw [c60] at q; omega
    have n54 : ¬ (54 : Int64) < B := fun q => by have q := bm_llt.mp q; rw [c54] at q; omega
    have hS : B.toInt32.toInt = B.toInt := bm_l2i (by omega) (by omega)
    rw [if_neg n60, if_pos b, if_neg n54]
    rw [bt_nearS (m := F) (K := B.toInt32) 0 (by omega) (by omega) (by omega)]
    obtain ⟨ca, cb⟩ := bs_cut_r (m := F) (K := B.toInt32) 1 0 (by omega) hF1 (by omega)
    generalize bg_cut F B.toInt32 (1 : Int32) (0 : Int32) = part at ca cb ⊢
    rw [bs_least ca cb]
    by_cases e : part <<< (B.toInt32.toInt64 &&& 63) = F
    · rw [if_pos e, if_pos e]; exact ⟨rfl, rfl, rfl, rfl⟩
    · rw [if_neg e, if_neg e]
      by_cases l : (4503599627370496 : Int64) ≤ part
      · rw [if_pos l, if_pos l]; exact ⟨rfl, rfl, rfl, rfl⟩
      · rw [if_neg l, if_neg l, or28]; exact ⟨rfl, rfl, rfl, rfl⟩
  · have b2 : ¬ B.toInt ≤ 54 := fun q => b (bm_lle.mpr (by rw [c54]; exact q))
    have p54 : (54 : Int64) < B := bm_llt.mpr (by rw [c54]; omega)
    rw [if_neg b, if_pos p54]
    have hS : 55 ≤ (if (60 : Int64) < B then (60 : Int64) else B).toInt32.toInt ∧ (if (60 : Int64) < B then (60 : Int64) else B).toInt32.toInt ≤ 60 := by
      by_cases h : (60 : Int64) < B
      · rw [if_pos h, show (60 : Int64).toInt32.toInt = 60 by decide]
        omega
      · rw [if_neg h]
        have h : ¬ 60 < B.toInt := fun q => h (bm_llt.mpr (by rw [c60]; exact q))
        rw [bm_l2i (by omega) (by omega)]
        omega
    generalize (if (60 : Int64) < B then (60 : Int64) else B).toInt32 = SH at hS ⊢
    rw [bs_near0 (m := F) (S := SH) (by omega) hF1 hS.1 hS.2, bm_shl0 (S := SH) (by omega) hS.2]
    have nF : ¬ (0 : Int64) = F := fun q => by
      have q := bm_leq.mp q
      rw [z0] at q
      omega
    have nO : ¬ (4503599627370496 : Int64) ≤ (0 : Int64) := by decide
    rw [if_neg nF, if_neg nO, or28, bs_least (m := 0) (by decide) (by decide)]
    exact ⟨rfl, rfl, rfl, rfl⟩
