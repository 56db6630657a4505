/-! the reference's pattern -/
theorem bs_exact_1 {m : Int64} {q : Int32} (h2 : m.toInt < 9007199254740992) (h3 : -1074 ≤ q.toInt) : bl_exact_1 (m, q, 0) = (m, q, 0) := by
  refine bl_run_eq (n := 1) _ _ ?_
  have e : bl_exact_1_st (m, q, 0) = .inr (m, q, 0) := by
    show bl_exact_1_b m q 0 = _
    unfold bl_exact_1_b
    rw [if_neg (by decide), if_neg (fun z => by have := bm_lle.mp z; rw [show (9007199254740992 : Int64).toInt = 9007199254740992 by decide] at this; omega), if_pos (bm_ile.mpr (by rw [show (-1074 : Int32).toInt = -1074 by decide]; exact h3))]
  rw [bl_it_succ, e]
theorem bs_exact_2 {m : Int64} {q : Int32} (h1 : 0 < m.toInt) (h2 : m.toInt < 9007199254740992) (h3 : -1074 ≤ q.toInt) : ∃ s : Nat, (bl_exact_2 (m, q, 0)).1.toInt = m.toInt * ((2 ^ s : Nat) : Int) ∧ (bl_exact_2 (m, q, 0)).2.1.toInt = q.toInt - s ∧ bm_fill m.toInt q.toInt s := by
  obtain ⟨n, hn⟩ := bl_exact_2_ok (m, q, 0)
  have hq := bm_ri q
  refine bl_inv bl_exact_2_st (fun v => ∃ s : Nat, v.1.toInt = m.toInt * ((2 ^ s : Nat) : Int) ∧ v.2.1.toInt = q.toInt - s ∧ v.2.2.toInt = s ∧ m.toInt * ((2 ^ s : Nat) : Int) < 9007199254740992 ∧ -1074 ≤ q.toInt - s) (fun v => ∃ s : Nat, v.1.toInt = m.toInt * ((2 ^ s : Nat) : Int) ∧ v.2.1.toInt = q.toInt - s ∧ bm_fill m.toInt q.toInt s) ?_ ?_ n (m, q, 0) _ ⟨0, by show m.toInt = _; omega, by show q.toInt = _; omega, by show (0 : Int32).toInt = ((0 : Nat) : Int); decide, by omega, by omega⟩ hn
  · rintro ⟨v3, v5, v6⟩ s2 ⟨s, g1, g2, g3, g4, g5⟩ h
    have g1 : v3.toInt = m.toInt * ((2 ^ s : Nat) : Int) := g1
    have g2 : v5.toInt = q.toInt - s := g2
    have g3 : v6.toInt = s := g3
    have hs := bm_s52 h1 g4
    have g0 : 0 ≤ m.toInt * ((2 ^ s : Nat) : Int) := Int.mul_nonneg (by omega) (Int.natCast_nonneg _)
    have h : bl_exact_2_b v3 v5 v6 = .inl s2 := h
    unfold bl_exact_2_b at h
    split at h
    · cases h
    split at h
    · cases h
    rename_i c1 c2
    have c2 : ¬ (4503599627370496 : Int) ≤ v3.toInt := fun z => c2 (bm_lle.mpr z)
    split at h
    · cases h
    rename_i c3
    have cm : (-1074 : Int32).toInt = -1074 := by decide
    have c3 : ¬ v5.toInt ≤ (-1074 : Int) := fun z => c3 (bm_ile.mpr (by rw [cm]; exact z))
    have g6 : -1074 ≤ q.toInt - ((s + 1 : Nat) : Int) := by
      clear h
      omega
    obtain rfl := Sum.inl.inj h
    have e1 := bm_dbl (x := v3) (by omega) (by omega)
    have e2 := bm_dec (v := v5) (by omega)
    have e3 := bm_inc (v := v6) (by omega)
    refine ⟨s + 1, ?_, ?_, ?_, ?_, g6⟩
    · show (v3 <<< ((1 : Int32).toInt64 &&& 63)).toInt = _
      rw [e1, g1, bm_pws]
    · show (v5 + (-1 : Int32)).toInt = _
      rw [e2, g2]; omega
    · show (v6 + 1).toInt = _
      rw [e3, g3]; omega
    · rw [bm_pws]; omega
  · rintro ⟨v3, v5, v6⟩ a ⟨s, g1, g2, g3, g4, g5⟩ h
    have g1 : v3.toInt = m.toInt * ((2 ^ s : Nat) : Int) := g1
    have g2 : v5.toInt = q.toInt - s := g2
    have g3 : v6.toInt = s := g3
    have hs := bm_s52 h1 g4
    have h : bl_exact_2_b v3 v5 v6 = .inr a := h
    unfold bl_exact_2_b at h
    split at h
    · rename_i c
      have c : (2200 : Int) ≤ v6.toInt := bm_ile.mp c
      omega
    split at h
    · rename_i c1 c2
      have c2 : (4503599627370496 : Int) ≤ v3.toInt := bm_lle.mp c2
      obtain rfl := Sum.inr.inj h
      exact ⟨s, g1, g2, g4, g5, Or.inl (by omega)⟩
    split at h
    · rename_i c3
      have cm : (-1074 : Int32).toInt = -1074 := by decide
      have c3 := bm_ile.mp c3
      rw [cm] at c3
      obtain rfl := Sum.inr.inj h
      exact ⟨s, g1, g2, g4, g5, Or.inr (by omega)⟩
    · cases h
theorem bs_exact {m : Int64} {q : Int32} {s : Nat} (h1 : 0 < m.toInt) (h2 : m.toInt < 9007199254740992) (h3 : -1074 ≤ q.toInt) (h4 : q.toInt ≤ 971) (h : bm_fill m.toInt q.toInt s) : (bg_exact m q).toInt = bm_val m.toInt q.toInt s := by
  obtain ⟨s2, e1, e2, e3⟩ := bs_exact_2 h1 h2 h3
  obtain rfl := bm_fill_u h1 e3 h
  obtain ⟨f1, f2, f3⟩ := h
  have c1 : (4503599627370496 : Int64).toInt = 4503599627370496 := by decide
  have c2 : (1075 : Int32).toInt = 1075 := by decide
  have p52 : ((2 ^ 52 : Nat) : Int) = 4503599627370496 := by decide
  have hne : ¬ m = 0 := fun z => by
    rw [z] at h1
    exact absurd h1 (by decide)
  have hm0 : 0 ≤ m.toInt * ((2 ^ s2 : Nat) : Int) := Int.mul_nonneg (by omega) (Int.natCast_nonneg _)
  unfold bg_exact bm_val
  rw [if_neg hne, bs_exact_1 h2 h3]
  unfold bg_exact_k1 bg_exact_k2
  dsimp only
  generalize bl_exact_2 (m, q, 0) = V at e1 e2 ⊢
  split
  · rename_i c
    have c : (4503599627370496 : Int) ≤ V.1.toInt := bm_lle.mp c
    have g1 : (V.1 - (4503599627370496 : Int64)).toInt = m.toInt * ((2 ^ s2 : Nat) : Int) - 4503599627370496 := by
      rw [bm_lsub (by rw [e1, c1]; omega) (by rw [e1, c1]; omega), e1, c1]
    have g2 : (V.2.1 + (1075 : Int32)).toInt64.toInt = q.toInt - s2 + 1075 := by
      rw [bm_i2l, bm_iadd (by rw [e2, c2]; omega) (by rw [e2, c2]; omega), e2, c2]
    have g3 : ((V.2.1 + (1075 : Int32)).toInt64 <<< ((52 : Int32).toInt64 &&& 63)).toInt = (q.toInt - s2 + 1075) * 4503599627370496 := by
      rw [bm_shl (j := 52) (by decide) (by decide) (by rw [g2, p52]; omega) (by rw [g2, p52]; omega), g2, p52]
    rw [bm_ladd (by rw [g1, g3]; omega) (by rw [g1, g3]; omega), g1, g3]
    omega
  · rename_i c
    have c : ¬ (4503599627370496 : Int) ≤ V.1.toInt := fun z => c (bm_lle.mpr z)
    rw [e1]
    omega
/-- class and reference make the same pattern -/
theorem bt_pattern {m : Int64} {q : Int32} (h1 : 0 ≤ m.toInt) (h2 : m.toInt < 9007199254740992) (h3 : -1074 ≤ q.toInt) (h4 : q.toInt ≤ 971) : bf_pattern m q = bg_exact m q := by
  rcases Int.lt_or_eq_of_le h1 with h | h
  · obtain ⟨s, g1, g2⟩ := bs_pattern h h2 h3 h4
    exact bm_leq.mpr (by rw [g2, bs_exact h h2 h3 h4 g1])
  · have hz : m = 0 := bm_leq.mpr h.symm
    subst hz
    have a : bf_pattern 0 q = 0 := by unfold bf_pattern; rw [if_pos rfl]
    have b : bg_exact 0 q = 0 := by unfold bg_exact; rw [if_pos rfl]
    rw [a, b]
/-- the amount of a finite x, made of its own significand and power -/
theorem bt_back {x m : Int64} {q : Int32} (h0 : 0 < bm_p x) (hx : bm_p x < 9218868437227405312) (hm : m.toInt = bm_sig (bm_p x)) (hq : q.toInt = bm_pow (bm_p x)) : (bg_exact m q).toInt = bm_p x := by
  have r1 := bm_sig_r (p := bm_p x) (by omega)
  have r2 := bm_pow_r (p := bm_p x) (by omega) hx
  have r3 := bm_sig_pos h0
  obtain ⟨b1, b2⟩ := bm_back (p := bm_p x) (by omega) (by omega)
  have hf : bm_fill m.toInt q.toInt 0 := ⟨by rw [hm]; omega, by omega, by rw [hm, hq]; omega⟩
  rw [bs_exact (by omega) (by omega) (by omega) (by omega) hf]
  unfold bm_val
  rw [hm, hq]
  omega
