/-! whole: class beside reference -/
theorem bs_cut_r {m : Int64} {K : Int32} (c u : Int32) (h0 : 0 ≤ m.toInt) (h1 : m.toInt < 9007199254740992) (k1 : 1 ≤ K.toInt) : 0 ≤ (bg_cut m K c u).toInt ∧ (bg_cut m K c u).toInt < 9007199254740992 := by
  have c54 : (54 : Int32).toInt = 54 := by decide
  have z0 : (0 : Int64).toInt = 0 := by decide
  have z1 : ((0 : Int64) + (1 : Int64)).toInt = 1 := by decide
  have o1 : (1 : Int64).toInt = 1 := by decide
  unfold bg_cut
  by_cases kc : K ≤ (54 : Int32)
  · rw [if_pos kc]
    have kc := bm_ile.mp kc
    rw [c54] at kc
    obtain ⟨j, hj⟩ : ∃ j : Nat, K.toInt = j := ⟨K.toInt.toNat, by omega⟩
    have hp : 2 ^ 1 ≤ 2 ^ j := Nat.pow_le_pow_right (by decide) (by omega)
    have hk : (m >>> (K.toInt64 &&& 63)).toInt = m.toInt / ((2 ^ j : Nat) : Int) := bm_shr m hj (by omega)
    have hk0 : 0 ≤ (m >>> (K.toInt64 &&& 63)).toInt := by rw [hk]; exact Int.ediv_nonneg h0 (Int.natCast_nonneg _)
    have hk1 : (m >>> (K.toInt64 &&& 63)).toInt ≤ 4503599627370495 := by
      rw [hk]
      have hp2 : (2 : Int) ≤ ((2 ^ j : Nat) : Int) := Int.ofNat_le.mpr hp
      have hlt : m.toInt / ((2 ^ j : Nat) : Int) < 4503599627370496 := by
        apply Int.ediv_lt_of_lt_mul (by omega)
        have := Int.mul_le_mul_of_nonneg_left hp2 (show (0 : Int) ≤ 4503599627370496 by decide)
        omega
      omega
    generalize m - (m >>> (K.toInt64 &&& 63)) <<< (K.toInt64 &&& 63) = lost
    generalize (1 : Int64) <<< ((K - (1 : Int32)).toInt64 &&& 63) = half
    generalize m >>> (K.toInt64 &&& 63) = kept at hk0 hk1 ⊢
    clear hk
    have a : 0 ≤ kept.toInt ∧ kept.toInt < 9007199254740992 := by omega
    have b : 0 ≤ (kept + (1 : Int64)).toInt ∧ (kept + (1 : Int64)).toInt < 9007199254740992 := by
      rw [bm_ladd (by rw [o1]; omega) (by rw [o1]; omega), o1]
      omega
    generalize kept + (1 : Int64) = kept1 at b ⊢
    repeat' split
    all_goals first
      | exact a
      | exact b
  · rw [if_neg kc]
    repeat' split
    all_goals first
      | (rw [z0]; decide)
      | (rw [z1]; decide)
theorem bt_how {h : Int32} (h1 : ¬ h < 0) (h2 : h ≤ (3 : Int32)) : h = 0 ∨ h = 1 ∨ h = 2 ∨ h = 3 := by
  have c3 : (3 : Int32).toInt = 3 := by decide
  have h1 : ¬ h.toInt < 0 := fun z => h1 (bm_ilt.mpr z)
  have h2 := bm_ile.mp h2
  rw [c3] at h2
  rw [bm_ieq, bm_ieq, bm_ieq, bm_ieq]
  show h.toInt = 0 ∨ h.toInt = 1 ∨ h.toInt = 2 ∨ h.toInt = 3
  omega
theorem bt_whole (f1 f2 : Int32) (f3 f4 : Int64) (g : Nat → Int64) (x1 x2 x3 : Int32) : bt_R (bf_whole f1 f2 g x1 x2 x3) (bg_whole f1 f2 f3 f4 g x1 x2 x3) := by
  unfold bf_whole bg_whole bf_whole_k1 bf_madeWhole bf_madeWhole_k1 bf_madeWhole_k2 bf_raise bf_wholeAmount
  rw [bt_reg, bt_reg]
  by_cases r1 : bg_isRegister x1 = 0
  · rw [if_pos r1, if_pos r1]; exact ⟨rfl, rfl, rfl, rfl⟩
  rw [if_neg r1, if_neg r1]
  by_cases r2 : bg_isRegister x2 = 0
  · rw [if_pos r2, if_pos r2]; exact ⟨rfl, rfl, rfl, rfl⟩
  rw [if_neg r2, if_neg r2]
  by_cases h1 : x3 < 0
  · rw [if_pos h1, if_pos h1]; exact ⟨rfl, rfl, rfl, rfl⟩
  rw [if_neg h1, if_neg h1]
  by_cases h2 : x3 ≤ (3 : Int32)
  rotate_left
  · rw [if_neg h2, if_neg h2]; exact ⟨rfl, rfl, rfl, rfl⟩
  rw [if_pos h2, if_pos h2]
  have how := bt_how h1 h2
  clear h1 h2 r1 r2
  generalize g x2.toNatClampNeg = x
  rw [bt_nan x, bt_zero x, bt_inf x, bt_pow x, bt_sig x]
  simp only [bt_sign]
  by_cases n : bg_isNan x = 0
  rotate_left
  · rw [if_neg n, if_neg n]; exact ⟨rfl, rfl, rfl, rfl⟩
  rw [if_pos n, if_pos n]
  have hm := bs_number x
  have sr := bm_sig_r (bm_p_r x).1
  have hm0 : 0 ≤ (bg_number x).toInt := by omega
  have hm1 : (bg_number x).toInt < 9007199254740992 := by omega
  have hp := bs_gpower x
  have rp := bm_pow_r2 (bm_p_r x).1 (bm_p_r x).2
  have hneg : (-(bg_power x)).toInt = -bm_pow (bm_p x) := by rw [bm_ineg (by omega), hp]
  have z32 : (0 : Int32).toInt = 0 := by decide
  by_cases z : bg_isZero x = 0
  rotate_left
  · -- a zero
    rw [if_neg z]
    have hz : bm_p x = 0 := Classical.byContradiction fun q => z ((bt_isZero x).mpr q)
    have i : bg_isInfinite x = 0 := (bs_isInf x).mpr (by rw [hz]; decide)
    have hpw : bm_pow (bm_p x) = -1074 := by rw [hz]; rfl
    have pl : bg_power x < 0 := bm_ilt.mpr (by rw [hp, hpw, z32]; decide)
    have hn0 : bg_number x = 0 := bm_leq.mpr (by rw [hm, hz]; rfl)
    have hpl : bg_plain x = 0 := bm_leq.mpr (by rw [bs_plain, hz]; rfl)
    have hsx : bg_signed 0 (bg_negative x) = x := (bt_eqx (by decide)).mpr hpl.symm
    have hcut : ∀ c u : Int32, bg_cut (bg_number x) (-(bg_power x)) c u = 0 := by
      intro c u
      have kc : ¬ (-(bg_power x)) ≤ (54 : Int32) := fun q => by
        have q := bm_ile.mp q
        rw [hneg, hpw, show (54 : Int32).toInt = 54 by decide] at q
        omega
      unfold bg_cut
      rw [if_neg kc, hn0, if_pos (by decide)]
      split <;> rfl
    have hex : bg_exact 0 0 = 0 := by unfold bg_exact; rw [if_pos rfl]
    rw [if_pos i, if_pos pl]
    simp only [hcut, hex, hpl, hsx, ↓reduceIte]
    repeat' split
    all_goals exact ⟨rfl, rfl, rfl, rfl⟩
  rw [if_pos z]
  by_cases i : bg_isInfinite x = 0
  rotate_left
  · rw [if_neg i, if_neg i]; exact ⟨rfl, rfl, rfl, rfl⟩
  rw [if_pos i, if_pos i]
  by_cases pl : bg_power x < 0
  rotate_left
  · rw [if_neg pl, if_neg pl]; exact ⟨rfl, rfl, rfl, rfl⟩
  rw [if_pos pl, if_pos pl]
  have hk1 : 1 ≤ (-(bg_power x)).toInt := by
    have pl := bm_ilt.mp pl
    rw [hp, z32] at pl
    rw [hneg]
    omega
  generalize bg_number x = m at hm0 hm1 ⊢
  generalize -(bg_power x) = K at hk1 ⊢
  clear hm sr hp rp hneg pl
  have pat : ∀ c u : Int32, bf_pattern (bg_cut m K c u) 0 = bg_exact (bg_cut m K c u) 0 := fun c u => by
    obtain ⟨a, b⟩ := bs_cut_r c u hm0 hm1 hk1
    exact bt_pattern a b (by rw [z32]; decide) (by rw [z32]; decide)
  have eqx : ∀ c u : Int32, (bg_signed (bg_exact (bg_cut m K c u) 0) (bg_negative x) = x) ↔ (bg_exact (bg_cut m K c u) 0 = bg_plain x) := fun c u => by
    obtain ⟨a, b⟩ := bs_cut_r c u hm0 hm1 hk1
    apply bt_eqx
    rw [← pat c u]
    exact bs_pat0 a b (by rw [z32]; decide) (by rw [z32]; decide)
  have near := bt_near (m := m) (K := K) 0 hm0 hm1 hk1
  have far0 := bt_far0 (m := m) (K := K) hm0 hm1 hk1
  have far1 := bt_far1 (m := m) (K := K) hm0 hm1 hk1
  generalize (if (60 : Int32) < K then (60 : Int32) else K) = SH at near far0 far1 ⊢
  have d10 := eq_false (show ¬ (1 : Int32) = 0 by decide)
  have d20 := eq_false (show ¬ (2 : Int32) = 0 by decide)
  have d30 := eq_false (show ¬ (3 : Int32) = 0 by decide)
  have d01 := eq_false (show ¬ (0 : Int32) = 1 by decide)
  have d02 := eq_false (show ¬ (0 : Int32) = 2 by decide)
  have d12 := eq_false (show ¬ (1 : Int32) = 2 by decide)
  have d21 := eq_false (show ¬ (2 : Int32) = 1 by decide)
  have d31 := eq_false (show ¬ (3 : Int32) = 1 by decide)
  have d32 := eq_false (show ¬ (3 : Int32) = 2 by decide)
  rcases how with e | e | e | e
  · subst e
    simp only [d01, d02, ↓reduceIte, near, pat, eqx]
    split
    · split
      · rename_i e
        exact ⟨rfl, rfl, rfl, rfl⟩
      · rename_i e
        exact ⟨rfl, rfl, rfl, rfl⟩
    · split
      · rename_i e
        exact ⟨rfl, rfl, rfl, rfl⟩
      · rename_i e
        exact ⟨rfl, rfl, rfl, rfl⟩
  · subst e
    by_cases hn : (0 : Int64) ≤ x
    · have hg := bs_neg0 hn
      simp only [d10, d12, ↓reduceIte, far0, far1, pat, hn, hg]
      exact ⟨rfl, rfl, rfl, rfl⟩
    · have hg := bs_neg1 hn
      simp only [d10, d12, ↓reduceIte, far1, pat, hn, hg]
      exact ⟨rfl, rfl, rfl, rfl⟩
  · subst e
    by_cases hn : (0 : Int64) ≤ x
    · have hg := bs_neg0 hn
      simp only [d20, d21, d10, ↓reduceIte, far1, pat, hn, hg]
      exact ⟨rfl, rfl, rfl, rfl⟩
    · have hg := bs_neg1 hn
      simp only [d20, d21, d10, ↓reduceIte, far0, far1, pat, hn, hg]
      exact ⟨rfl, rfl, rfl, rfl⟩
  · subst e
    by_cases hn : (0 : Int64) ≤ x
    · have hg := bs_neg0 hn
      simp only [d30, d31, d32, d10, ↓reduceIte, far0, far1, pat, hn, hg]
      exact ⟨rfl, rfl, rfl, rfl⟩
    · have hg := bs_neg1 hn
      simp only [d30, d31, d32, d10, ↓reduceIte, far0, far1, pat, hn, hg]
      exact ⟨rfl, rfl, rfl, rfl⟩
