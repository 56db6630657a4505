/-! the reference's product of two halves -/
theorem bm_prod {x y : Int} (h1 : 0 ≤ x) (h2 : x ≤ 134217727) (h3 : 0 ≤ y) (h4 : y ≤ 134217727) : 0 ≤ x * y ∧ x * y ≤ 18014398241046529 := by
  refine ⟨Int.mul_nonneg h1 h3, ?_⟩
  have := Int.mul_le_mul h2 h4 h3 (by omega)
  omega
theorem bs_multiply (fl qt : Int32) (hi lo a b : Int64) (ha0 : 0 ≤ a.toInt) (ha : a.toInt < 18014398509481984) (hb0 : 0 ≤ b.toInt) (hb : b.toInt < 18014398509481984) :
    (bg_multiply fl qt hi lo a b).1 = fl ∧ (bg_multiply fl qt hi lo a b).2.1 = qt ∧ (bg_multiply fl qt hi lo a b).2.2.1.toInt * 18014398509481984 + (bg_multiply fl qt hi lo a b).2.2.2.toInt = a.toInt * b.toInt ∧ 0 ≤ (bg_multiply fl qt hi lo a b).2.2.2.toInt ∧ (bg_multiply fl qt hi lo a b).2.2.2.toInt < 18014398509481984 := by
  have p27 : ((2 ^ 27 : Nat) : Int) = 134217728 := by decide
  have p54 : ((2 ^ 54 : Nat) : Int) = 18014398509481984 := by decide
  have a1 : (a >>> ((27 : Int32).toInt64 &&& 63)).toInt = a.toInt / 134217728 := by rw [bm_shr a (j := 27) (by decide) (by decide), p27]
  have b1 : (b >>> ((27 : Int32).toInt64 &&& 63)).toInt = b.toInt / 134217728 := by rw [bm_shr b (j := 27) (by decide) (by decide), p27]
  have a0 := bm_m27 a
  have b0 := bm_m27 b
  unfold bg_multiply
  dsimp only
  generalize a >>> ((27 : Int32).toInt64 &&& 63) = A1 at a1 ⊢
  generalize b >>> ((27 : Int32).toInt64 &&& 63) = B1 at b1 ⊢
  generalize a &&& 134217727 = A0 at a0 ⊢
  generalize b &&& 134217727 = B0 at b0 ⊢
  have key := bm_half a.toInt b.toInt
  rw [← a1, ← b1, ← a0, ← b0] at key
  have ra1 : 0 ≤ A1.toInt ∧ A1.toInt ≤ 134217727 := by omega
  have rb1 : 0 ≤ B1.toInt ∧ B1.toInt ≤ 134217727 := by omega
  have ra0 : 0 ≤ A0.toInt ∧ A0.toInt ≤ 134217727 := by omega
  have rb0 : 0 ≤ B0.toInt ∧ B0.toInt ≤ 134217727 := by omega
  obtain ⟨m1, m2⟩ := bm_prod ra1.1 ra1.2 rb0.1 rb0.2
  obtain ⟨m3, m4⟩ := bm_prod ra0.1 ra0.2 rb1.1 rb1.2
  obtain ⟨m5, m6⟩ := bm_prod ra0.1 ra0.2 rb0.1 rb0.2
  obtain ⟨m7, m8⟩ := bm_prod ra1.1 ra1.2 rb1.1 rb1.2
  have e1 : (A1 * B0).toInt = A1.toInt * B0.toInt := bm_lmul (by omega) (by omega)
  have e2 : (A0 * B1).toInt = A0.toInt * B1.toInt := bm_lmul (by omega) (by omega)
  have e3 : (A0 * B0).toInt = A0.toInt * B0.toInt := bm_lmul (by omega) (by omega)
  have e4 : (A1 * B1).toInt = A1.toInt * B1.toInt := bm_lmul (by omega) (by omega)
  generalize A1.toInt * B0.toInt = P at *
  generalize A0.toInt * B1.toInt = Q at *
  generalize A0.toInt * B0.toInt = R at *
  generalize A1.toInt * B1.toInt = S at *
  have e5 : (A1 * B0 + A0 * B1).toInt = P + Q := by rw [bm_ladd (by rw [e1, e2]; omega) (by rw [e1, e2]; omega), e1, e2]
  generalize A1 * B0 + A0 * B1 = M at e5 ⊢
  have e6 := bm_m27 M
  rw [e5] at e6
  have e7 : ((M &&& 134217727) <<< ((27 : Int32).toInt64 &&& 63)).toInt = (P + Q) % 134217728 * 134217728 := by
    rw [bm_shl (j := 27) (by decide) (by decide) (by rw [e6, p27]; omega) (by rw [e6, p27]; omega), e6, p27]
  have e8 : (A0 * B0 + ((M &&& 134217727) <<< ((27 : Int32).toInt64 &&& 63))).toInt = R + (P + Q) % 134217728 * 134217728 := by
    rw [bm_ladd (by rw [e3, e7]; omega) (by rw [e3, e7]; omega), e3, e7]
  generalize A0 * B0 + ((M &&& 134217727) <<< ((27 : Int32).toInt64 &&& 63)) = U at e8 ⊢
  have e9 := bm_m54 U
  rw [e8] at e9
  have e10 : (M >>> ((27 : Int32).toInt64 &&& 63)).toInt = (P + Q) / 134217728 := by rw [bm_shr M (j := 27) (by decide) (by decide), p27, e5]
  have e11 : (U >>> ((54 : Int32).toInt64 &&& 63)).toInt = (R + (P + Q) % 134217728 * 134217728) / 18014398509481984 := by rw [bm_shr U (j := 54) (by decide) (by decide), p54, e8]
  have e12 : (A1 * B1 + (M >>> ((27 : Int32).toInt64 &&& 63))).toInt = S + (P + Q) / 134217728 := by
    rw [bm_ladd (by rw [e4, e10]; omega) (by rw [e4, e10]; omega), e4, e10]
  have e13 : (A1 * B1 + (M >>> ((27 : Int32).toInt64 &&& 63)) + (U >>> ((54 : Int32).toInt64 &&& 63))).toInt = S + (P + Q) / 134217728 + (R + (P + Q) % 134217728 * 134217728) / 18014398509481984 := by
    rw [bm_ladd (by rw [e12, e11]; omega) (by rw [e12, e11]; omega), e12, e11]
  refine ⟨rfl, rfl, ?_, ?_, ?_⟩
  · rw [e13, e9]; omega
  · rw [e9]; omega
  · rw [e9]; omega
