/-! one digit of the root -/
theorem bm_shl1 {x : Int64} {n : Nat} (h : x.toInt = n) (hn : n < 4611686018427387904) : (x <<< ((1 : Int32).toInt64 &&& 63)).toInt = ((2 * n : Nat) : Int) := by
  rw [bm_shl (j := 1) (by decide) (by decide) (by rw [h]; omega) (by rw [h]; omega), h]
  omega
theorem bm_shl2 {x : Int64} {n : Nat} (h : x.toInt = n) (hn : n < 2305843009213693952) : (x <<< ((2 : Int32).toInt64 &&& 63)).toInt = ((4 * n : Nat) : Int) := by
  rw [bm_shl (j := 2) (by decide) (by decide) (by rw [h]; omega) (by rw [h]; omega), h]
  omega
theorem bm_shl2N (x : Int64) : (x <<< ((2 : Int32).toInt64 &&& 63)).toBitVec.toNat = 4 * x.toBitVec.toNat % 18446744073709551616 := by
  rw [bm_shlM x (j := 2) (by decide) (by decide)]
  show (x.toBitVec * BitVec.ofNat 64 (2 ^ 2)).toNat = _
  rw [BitVec.toNat_mul]
  show x.toBitVec.toNat * 4 % 18446744073709551616 = _
  rw [Nat.mul_comm]
theorem bm_u62 (x : Int64) : ((x.toUInt64 >>> ((62 : Int32).toInt64.toUInt64 &&& Int64.toUInt64 63)).toInt64).toInt = ((x.toBitVec.toNat / 4611686018427387904 : Nat) : Int) := by
  have e := bm_luN x (k := 62) (j := 62) (by decide)
  have a := bm_tl ((x.toUInt64 >>> ((62 : Int32).toInt64.toUInt64 &&& Int64.toUInt64 63)).toInt64)
  have nx := bm_nl x
  rw [e, if_pos (by omega)] at a
  rw [a]
theorem bm_rstep {D0 i r t : Nat} {dg ro re : Int64} (hi : i < 54) (h1 : ro.toInt = r) (h2 : re.toInt = t) (h3 : dg.toBitVec.toNat = (D0 * 4 ^ i) % 18446744073709551616) (h4 : (D0 * 4 ^ i) / 18446744073709551616 = r * r + t) (h5 : t ≤ 2 * r) (h6 : r < 2 ^ i) :
    ∃ d : Nat, d < 4 ∧ r < 18014398509481984 ∧ ((re <<< ((2 : Int32).toInt64 &&& 63)) + (dg.toUInt64 >>> ((62 : Int32).toInt64.toUInt64 &&& Int64.toUInt64 63)).toInt64).toInt = ((4 * t + d : Nat) : Int) ∧ ((ro <<< ((2 : Int32).toInt64 &&& 63)) + 1).toInt = ((4 * r + 1 : Nat) : Int) ∧ (ro <<< ((1 : Int32).toInt64 &&& 63)).toInt = ((2 * r : Nat) : Int) ∧ (dg <<< ((2 : Int32).toInt64 &&& 63)).toBitVec.toNat = (D0 * 4 ^ (i + 1)) % 18446744073709551616 ∧ D0 * 4 ^ (i + 1) / 18446744073709551616 = 4 * (r * r + t) + d := by
  have hr : r < 18014398509481984 := by
    have : 2 ^ i ≤ 2 ^ 54 := Nat.pow_le_pow_right (by decide) (by omega)
    have e : (2 : Nat) ^ 54 = 18014398509481984 := by decide
    omega
  have hX : D0 * 4 ^ (i + 1) = 4 * (D0 * 4 ^ i) := by rw [Nat.pow_succ, ← Nat.mul_assoc, Nat.mul_comm]
  obtain ⟨g1, g2, g3⟩ := bm_dig (D0 * 4 ^ i)
  refine ⟨D0 * 4 ^ i % 18446744073709551616 / 4611686018427387904, g2, hr, ?_, ?_, bm_shl1 h1 (by omega), ?_, ?_⟩
  · have a := bm_shl2 h2 (by omega)
    have b := bm_u62 dg
    rw [h3] at b
    rw [bm_ladd (by rw [a, b]; omega) (by rw [a, b]; omega), a, b]
    omega
  · have a := bm_shl2 h1 (by omega)
    rw [bm_ladd (by rw [a]; show _ ≤ _ + (1 : Int); omega) (by rw [a]; show _ + (1 : Int) < _; omega), a]
    show _ + (1 : Int) = _
    omega
  · rw [bm_shl2N, h3, hX, g3]
  · rw [hX, g1, h4]
theorem bs_cr {D0 : Nat} {dg : Int64} (hd : dg.toBitVec.toNat = D0) : ∃ r t : Nat, (bl_cr (dg, 0, 0, 0)).2.1.toInt = r ∧ (bl_cr (dg, 0, 0, 0)).2.2.1.toInt = t ∧ D0 * 4 ^ 54 / 18446744073709551616 = r * r + t ∧ t ≤ 2 * r ∧ r < 18014398509481984 := by
  obtain ⟨n, hn⟩ := bl_cr_ok (dg, 0, 0, 0)
  have nd := bm_nl dg
  refine bl_inv bl_cr_st (fun v => ∃ i r t : Nat, v.2.2.2.toInt = i ∧ i ≤ 54 ∧ v.2.1.toInt = r ∧ v.2.2.1.toInt = t ∧ v.1.toBitVec.toNat = D0 * 4 ^ i % 18446744073709551616 ∧ D0 * 4 ^ i / 18446744073709551616 = r * r + t ∧ t ≤ 2 * r ∧ r < 2 ^ i) (fun v => ∃ r t : Nat, v.2.1.toInt = r ∧ v.2.2.1.toInt = t ∧ D0 * 4 ^ 54 / 18446744073709551616 = r * r + t ∧ t ≤ 2 * r ∧ r < 18014398509481984) ?_ ?_ n (dg, 0, 0, 0) _ ⟨0, 0, 0, by show (0 : Int32).toInt = ((0 : Nat) : Int); decide, by decide, by show (0 : Int64).toInt = ((0 : Nat) : Int); decide, by show (0 : Int64).toInt = ((0 : Nat) : Int); decide, by show dg.toBitVec.toNat = _; omega, by omega, by decide, by decide⟩ hn
  · rintro ⟨v5, v7, v9, v11⟩ s2 ⟨i, r, t, g0, g1, g2, g3, g4, g5, g6, g7⟩ h
    have g0 : v11.toInt = i := g0
    have g2 : v7.toInt = r := g2
    have g3 : v9.toInt = t := g3
    have g4 : v5.toBitVec.toNat = D0 * 4 ^ i % 18446744073709551616 := g4
    have h : bl_cr_b v5 v7 v9 v11 = .inl s2 := h
    unfold bl_cr_b at h
    split at h
    · cases h
    rename_i c0
    have c0 : ¬ (54 : Int) ≤ v11.toInt := fun z => c0 (bm_ile.mpr z)
    obtain ⟨d, d1, d2, d3, d4, d5, d6, d7⟩ := bm_rstep (by omega) g2 g3 g4 g5 g6 g7
    have e0 := bm_inc (v := v11) (by omega)
    split at h
    · rename_i c
      have c := bm_llt.mp c
      rw [d3, d4] at c
      obtain rfl := Sum.inl.inj h
      obtain ⟨q1, q2⟩ := bm_sq1 rfl g6 d1 (by omega)
      refine ⟨i + 1, 2 * r, 4 * t + d, ?_, by omega, d5, d3, d6, ?_, q2, ?_⟩
      · show (v11 + 1).toInt = _
        rw [e0, g0]; omega
      · rw [d7, q1]
      · rw [Nat.pow_succ]; omega
    · rename_i c
      have c : ¬ _ := fun z => c (bm_llt.mpr z)
      rw [d3, d4] at c
      obtain rfl := Sum.inl.inj h
      obtain ⟨q1, q2⟩ := bm_sq2 rfl g6 d1 (by omega)
      refine ⟨i + 1, 2 * r + 1, 4 * t + d - (4 * r + 1), ?_, by omega, ?_, ?_, d6, ?_, q2, ?_⟩
      · show (v11 + 1).toInt = _
        rw [e0, g0]; omega
      · show ((v7 <<< ((1 : Int32).toInt64 &&& 63)) + 1).toInt = _
        rw [bm_ladd (by rw [d5]; show _ ≤ _ + (1 : Int); omega) (by rw [d5]; show _ + (1 : Int) < _; omega), d5]
        show _ + (1 : Int) = _
        omega
      · show (_ - _ : Int64).toInt = _
        rw [bm_lsub (by rw [d3, d4]; omega) (by rw [d3, d4]; omega), d3, d4]
        omega
      · rw [d7, q1]
      · rw [Nat.pow_succ]; omega
  · rintro ⟨v5, v7, v9, v11⟩ a ⟨i, r, t, g0, g1, g2, g3, g4, g5, g6, g7⟩ h
    have g0 : v11.toInt = i := g0
    have h : bl_cr_b v5 v7 v9 v11 = .inr a := h
    unfold bl_cr_b at h
    split at h
    · rename_i c0
      have c0 : (54 : Int) ≤ v11.toInt := bm_ile.mp c0
      obtain rfl := Sum.inr.inj h
      have hi : i = 54 := by omega
      subst hi
      exact ⟨r, t, g2, g3, g5, g6, by have e : (2 : Nat) ^ 54 = 18014398509481984 := by decide
                                      omega⟩
    · split at h <;> cases h
