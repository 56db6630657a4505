/-! the public methods, class beside reference: the short ones -/
theorem bt_place (x : Int64) : bf_place x = bg_place x := by
  unfold bf_place bg_place
  by_cases h : (0 : Int64) ≤ x
  · rw [if_pos h, bs_neg0 h, if_pos rfl]
  · rw [if_neg h, bs_neg1 h, if_neg (by decide)]
    rfl
theorem bt_load (f1 f2 : Int32) (f3 f4 : Int64) (g : Nat → Int64) (x1 : Int32) (x2 : Int64) : bt_R (bf_load f1 f2 g x1 x2) (bg_load f1 f2 f3 f4 g x1 x2) := by
  unfold bf_load bg_load
  rw [bt_reg]
  by_cases r1 : bg_isRegister x1 = 0
  · rw [if_pos r1, if_pos r1]; exact ⟨rfl, rfl, rfl, rfl⟩
  · rw [if_neg r1, if_neg r1]; exact ⟨rfl, rfl, rfl, rfl⟩
theorem bt_bits (f1 f2 : Int32) (f3 f4 : Int64) (g : Nat → Int64) (x1 : Int32) : (bf_bits f1 f2 g x1).1 = (bg_bits f1 f2 f3 f4 g x1).1 ∧ (bf_bits f1 f2 g x1).2.1 = (bg_bits f1 f2 f3 f4 g x1).2.1 ∧ (bf_bits f1 f2 g x1).2.2.1 = (bg_bits f1 f2 f3 f4 g x1).2.2.1 ∧ (bf_bits f1 f2 g x1).2.2.2 = (bg_bits f1 f2 f3 f4 g x1).2.2.2.2.2 := by
  unfold bf_bits bg_bits
  rw [bt_reg]
  by_cases r1 : bg_isRegister x1 = 0
  · rw [if_pos r1, if_pos r1]; exact ⟨rfl, rfl, rfl, rfl⟩
  · rw [if_neg r1, if_neg r1]; exact ⟨rfl, rfl, rfl, rfl⟩
theorem bt_quotient (f1 f2 : Int32) (f3 f4 : Int64) (g : Nat → Int64) : bt_R (bf_quotient f1 f2 g) (bg_quotient f1 f2 f3 f4 g) := ⟨rfl, rfl, rfl, rfl⟩
theorem bt_flags (f1 f2 : Int32) (f3 f4 : Int64) (g : Nat → Int64) : bt_R (bf_flags f1 f2 g) (bg_flags f1 f2 f3 f4 g) := ⟨rfl, rfl, rfl, rfl⟩
theorem bt_clear (f1 f2 : Int32) (f3 f4 : Int64) (g : Nat → Int64) : (bf_clear f1 f2 g).1 = (bg_clear f1 f2 f3 f4 g).1 ∧ (bf_clear f1 f2 g).2.1 = (bg_clear f1 f2 f3 f4 g).2.1 ∧ (bf_clear f1 f2 g).2.2 = (bg_clear f1 f2 f3 f4 g).2.2.2.2 := ⟨rfl, rfl, rfl⟩
theorem bt_compare (f1 f2 : Int32) (f3 f4 : Int64) (g : Nat → Int64) (x1 x2 : Int32) : bt_R (bf_compare f1 f2 g x1 x2) (bg_compare f1 f2 f3 f4 g x1 x2) := by
  unfold bf_compare bg_compare
  rw [bt_reg, bt_reg, bt_nan, bt_nan, bt_place, bt_place]
  by_cases r1 : bg_isRegister x1 = 0
  · rw [if_pos r1, if_pos r1]; exact ⟨rfl, rfl, rfl, rfl⟩
  rw [if_neg r1, if_neg r1]
  by_cases r2 : bg_isRegister x2 = 0
  · rw [if_pos r2, if_pos r2]; exact ⟨rfl, rfl, rfl, rfl⟩
  rw [if_neg r2, if_neg r2]
  by_cases n1 : bg_isNan (g x1.toNatClampNeg) = 0
  · rw [if_pos n1, if_pos n1]
    by_cases n2 : bg_isNan (g x2.toNatClampNeg) = 0
    · rw [if_pos n2, if_pos n2]
      generalize bg_place (g x1.toNatClampNeg) = p
      generalize bg_place (g x2.toNatClampNeg) = q
      by_cases e : p = q
      · subst e
        have le : p ≤ p := bm_lle.mpr (Int.le_refl _)
        rw [if_pos rfl, if_pos le, if_pos le]
        exact ⟨rfl, rfl, rfl, rfl⟩
      · rw [if_neg e]
        by_cases l : q ≤ p
        · have nl : ¬ p ≤ q := fun z => e (bm_leq.mpr (Int.le_antisymm (bm_lle.mp z) (bm_lle.mp l)))
          rw [if_pos l, if_pos l, if_neg nl]
          exact ⟨rfl, rfl, rfl, rfl⟩
        · rw [if_neg l, if_neg l]
          exact ⟨rfl, rfl, rfl, rfl⟩
    · rw [if_neg n2, if_neg n2]; exact ⟨rfl, rfl, rfl, rfl⟩
  · rw [if_neg n1, if_neg n1]; exact ⟨rfl, rfl, rfl, rfl⟩
theorem bt_sort (f1 f2 : Int32) (f3 f4 : Int64) (g : Nat → Int64) (x1 : Int32) : bt_R (bf_sort f1 f2 g x1) (bg_sort f1 f2 f3 f4 g x1) := by
  unfold bf_sort bg_sort bf_sortOfAmount
  rw [bt_reg]
  by_cases r1 : bg_isRegister x1 = 0
  · rw [if_pos r1, if_pos r1]; exact ⟨rfl, rfl, rfl, rfl⟩
  rw [if_neg r1, if_neg r1]
  generalize g x1.toNatClampNeg = x
  rw [bt_zero, bt_inf, bt_nan]
  have hpl : x &&& (9223372036854775807 : Int64) = bg_plain x := rfl
  rw [hpl]
  have ex : ¬ bg_isNan x = 0 → bg_isInfinite x = 0 := fun h => (bs_isInf x).mpr (fun z => h ((bs_isNan x).mpr (by omega)))
  by_cases n : (0 : Int64) ≤ x
  · rw [if_pos n, bs_neg0 n]
    by_cases z : bg_isZero x = 0
    · rw [if_pos z, if_pos z]
      by_cases na : bg_isNan x = 0
      · rw [if_pos na, if_pos na]
        by_cases i : bg_isInfinite x = 0
        · rw [if_pos i, if_pos i]
          by_cases b : (4503599627370496 : Int64) ≤ bg_plain x
          · rw [if_pos b, if_pos b]; exact ⟨rfl, rfl, rfl, rfl⟩
          · rw [if_neg b, if_neg b]; exact ⟨rfl, rfl, rfl, rfl⟩
        · rw [if_neg i, if_neg i]; exact ⟨rfl, rfl, rfl, rfl⟩
      · rw [if_neg na, if_neg na, if_pos (ex na)]; exact ⟨rfl, rfl, rfl, rfl⟩
    · rw [if_neg z, if_neg z]; exact ⟨rfl, rfl, rfl, rfl⟩
  · rw [if_neg n, bs_neg1 n]
    by_cases z : bg_isZero x = 0
    · rw [if_pos z, if_pos z]
      by_cases na : bg_isNan x = 0
      · rw [if_pos na, if_pos na]
        by_cases i : bg_isInfinite x = 0
        · rw [if_pos i, if_pos i]
          by_cases b : (4503599627370496 : Int64) ≤ bg_plain x
          · rw [if_pos b, if_pos b]; exact ⟨rfl, rfl, rfl, rfl⟩
          · rw [if_neg b, if_neg b]; exact ⟨rfl, rfl, rfl, rfl⟩
        · rw [if_neg i, if_neg i]; exact ⟨rfl, rfl, rfl, rfl⟩
      · rw [if_neg na, if_neg na, if_pos (ex na)]; exact ⟨rfl, rfl, rfl, rfl⟩
    · rw [if_neg z, if_neg z]; exact ⟨rfl, rfl, rfl, rfl⟩
theorem bt_sign0 (x : Int64) : bf_signOf x = bg_signed 0 (bg_negative x) := by
  have h := bt_sign x 0
  rw [Int64.or_zero] at h
  exact h
theorem bt_minor (a : Int64) : (-9223372036854775808 : Int64) ||| a = bg_signed a 1 := by
  unfold bg_signed
  rw [if_neg (by decide), Int64.or_comm]
theorem bt_neighbour (f1 f2 : Int32) (f3 f4 : Int64) (g : Nat → Int64) (x1 x2 x3 : Int32) : bt_R (bf_neighbour f1 f2 g x1 x2 x3) (bg_neighbour f1 f2 f3 f4 g x1 x2 x3) := by
  unfold bf_neighbour bg_neighbour bf_nextTowards
  rw [bt_reg, bt_reg, bt_reg]
  by_cases r1 : bg_isRegister x1 = 0
  · rw [if_pos r1, if_pos r1]; exact ⟨rfl, rfl, rfl, rfl⟩
  rw [if_neg r1, if_neg r1]
  by_cases r2 : bg_isRegister x2 = 0
  · rw [if_pos r2, if_pos r2]; exact ⟨rfl, rfl, rfl, rfl⟩
  rw [if_neg r2, if_neg r2]
  by_cases r3 : bg_isRegister x3 = 0
  · rw [if_pos r3, if_pos r3]; exact ⟨rfl, rfl, rfl, rfl⟩
  rw [if_neg r3, if_neg r3]
  generalize g x2.toNatClampNeg = x
  generalize g x3.toNatClampNeg = y
  rw [bt_nan, bt_nan, bt_place, bt_place, bt_sign0, bt_minor, bt_minor]
  by_cases n1 : bg_isNan x = 0
  · rw [if_pos n1, if_pos n1]
    by_cases n2 : bg_isNan y = 0
    · rw [if_pos n2, if_pos n2]
      by_cases e : bg_place x = bg_place y
      · rw [if_pos e, if_pos e]; exact ⟨rfl, rfl, rfl, rfl⟩
      · rw [if_neg e, if_neg e]
        by_cases l : bg_place y ≤ bg_place x
        · rw [if_pos l, if_pos l]
          by_cases z : bg_place x - (1 : Int64) = (0 : Int64)
          · rw [if_pos z, if_pos z]; exact ⟨rfl, rfl, rfl, rfl⟩
          · rw [if_neg z, if_neg z]
            by_cases p : (0 : Int64) ≤ bg_place x - (1 : Int64)
            · rw [if_pos p, if_pos p]; exact ⟨rfl, rfl, rfl, rfl⟩
            · rw [if_neg p, if_neg p]; exact ⟨rfl, rfl, rfl, rfl⟩
        · rw [if_neg l, if_neg l]
          by_cases z : bg_place x + (1 : Int64) = (0 : Int64)
          · rw [if_pos z, if_pos z]; exact ⟨rfl, rfl, rfl, rfl⟩
          · rw [if_neg z, if_neg z]
            by_cases p : (0 : Int64) ≤ bg_place x + (1 : Int64)
            · rw [if_pos p, if_pos p]; exact ⟨rfl, rfl, rfl, rfl⟩
            · rw [if_neg p, if_neg p]; exact ⟨rfl, rfl, rfl, rfl⟩
    · rw [if_neg n2, if_neg n2]; exact ⟨rfl, rfl, rfl, rfl⟩
  · rw [if_neg n1, if_neg n1]; exact ⟨rfl, rfl, rfl, rfl⟩
theorem bt_sqrt (f1 f2 : Int32) (f3 f4 : Int64) (g : Nat → Int64) (x1 x2 : Int32) : bt_R (bf_sqrt f1 f2 g x1 x2) (bg_sqrt f1 f2 f3 f4 g x1 x2) := by
  unfold bf_sqrt bg_sqrt bf_sqrt_k1 bg_sqrt_k1 bf_squareRoot bf_squareRoot_k1 bf_squareRoot_k2 bf_raise
  rw [bt_reg, bt_reg]
  by_cases r1 : bg_isRegister x1 = 0
  · rw [if_pos r1, if_pos r1]; exact ⟨rfl, rfl, rfl, rfl⟩
  rw [if_neg r1, if_neg r1]
  by_cases r2 : bg_isRegister x2 = 0
  · rw [if_pos r2, if_pos r2]; exact ⟨rfl, rfl, rfl, rfl⟩
  rw [if_neg r2, if_neg r2]
  generalize g x2.toNatClampNeg = x
  rw [bt_nan, bt_zero]
  by_cases n : bg_isNan x = 0
  · rw [if_pos n, if_pos n]
    by_cases z : bg_isZero x = 0
    · rw [if_pos z, if_pos z]
      by_cases i : x = (9218868437227405312 : Int64)
      · rw [if_pos i, if_pos i]; exact ⟨rfl, rfl, rfl, rfl⟩
      · rw [if_neg i, if_neg i]
        by_cases p : (0 : Int64) ≤ x
        · have hz := bs_pos z
          have hn := (bs_isNan x).mp n
          have hp : bm_p x = x.toInt := by
            have p := bm_lle.mp p
            rw [show (0 : Int64).toInt = 0 by decide] at p
            have r := bm_rl x
            unfold bm_p
            omega
          have hi : ¬ bm_p x = 9218868437227405312 := fun q => i (bm_leq.mpr (by rw [← hp, q]; decide))
          obtain ⟨e1, e2, e3⟩ := bt_root f1 f2 f3 f4 x hz (by omega)
          rw [if_pos p, bs_neg0 p, if_pos rfl]
          generalize bf_rootOfPositive f1 f2 x = F at e1 e2 e3
          generalize bg_root f1 f2 f3 f4 x = G at e1 e2 e3
          exact ⟨rfl, e2, e3, by show vp_updL _ _ F.1 = vp_updL _ _ G.1; rw [e1]⟩
        · rw [if_neg p, bs_neg1 p, if_neg (by decide)]; exact ⟨rfl, rfl, rfl, rfl⟩
    · rw [if_neg z, if_neg z]; exact ⟨rfl, rfl, rfl, rfl⟩
  · rw [if_neg n, if_neg n]; exact ⟨rfl, rfl, rfl, rfl⟩
/-! exponent -/
theorem bs_expo {q : Int32} {m : Int64} {M : Nat} (hm : m.toInt = M) (h1 : 0 < M) (h2 : M < 9007199254740992) (q1 : -1074 ≤ q.toInt) (q2 : q.toInt ≤ 971) : ∃ j : Nat, (bl_expo_1 (q, m)).1.toInt = q.toInt + j ∧ 2 ^ j ≤ M ∧ M < 2 ^ (j + 1) ∧ j ≤ 52 := by
  obtain ⟨n, hn⟩ := bl_expo_1_ok (q, m)
  have c1 : (1 : Int64).toInt = 1 := by decide
  refine bl_inv bl_expo_1_st (fun v => ∃ j : Nat, v.1.toInt = q.toInt + j ∧ v.2.toInt = ((M / 2 ^ j : Nat) : Int) ∧ 2 ^ j ≤ M ∧ j ≤ 52) (fun v => ∃ j : Nat, v.1.toInt = q.toInt + j ∧ 2 ^ j ≤ M ∧ M < 2 ^ (j + 1) ∧ j ≤ 52) ?_ ?_ n _ _ ⟨0, by show q.toInt = _; omega, by show m.toInt = _; rw [hm]; omega, by omega, by omega⟩ hn
  · rintro ⟨v4, v5⟩ s2 ⟨j, g1, g2, g3, g4⟩ h
    have g1 : v4.toInt = q.toInt + j := g1
    have g2 : v5.toInt = ((M / 2 ^ j : Nat) : Int) := g2
    have h : bl_expo_1_b v4 v5 = .inl s2 := h
    unfold bl_expo_1_b at h
    split at h
    · cases h
    rename_i c
    have c : ¬ v5.toInt ≤ 1 := fun z => c (bm_lle.mpr (by rw [c1]; exact z))
    have hd : M / 2 ^ (j + 1) = M / 2 ^ j / 2 := by rw [Nat.pow_succ, Nat.div_div_eq_div_mul]
    have b4 : v4.toInt < 2147483647 := by omega
    have hge : 1 ≤ M / 2 ^ (j + 1) := by rw [hd]; omega
    have hle : 2 ^ (j + 1) ≤ M := by
      have := (Nat.le_div_iff_mul_le (Nat.two_pow_pos (j + 1))).mp hge
      omega
    have hj : j + 1 ≤ 52 := by
      rcases Nat.lt_or_ge (j + 1) 53 with z | z
      · omega
      · have : 2 ^ 53 ≤ 2 ^ (j + 1) := Nat.pow_le_pow_right (by decide) z
        omega
    obtain rfl := Sum.inl.inj h
    refine ⟨j + 1, ?_, ?_, hle, hj⟩
    · show (v4 + (1 : Int32)).toInt = _
      rw [bm_inc b4, g1]
      omega
    · show (v5 >>> ((1 : Int32).toInt64 &&& 63)).toInt = _
      rw [bm_shr v5 (j := 1) (by decide) (by decide), g2, hd]
      exact (Int.natCast_ediv _ _).symm
  · rintro ⟨v4, v5⟩ a ⟨j, g1, g2, g3, g4⟩ h
    have g2 : v5.toInt = ((M / 2 ^ j : Nat) : Int) := g2
    have h : bl_expo_1_b v4 v5 = .inr a := h
    unfold bl_expo_1_b at h
    split at h
    · rename_i c
      have c := bm_lle.mp c
      rw [c1] at c
      obtain rfl := Sum.inr.inj h
      refine ⟨j, g1, g3, ?_, g4⟩
      have h3 : M / 2 ^ j < 2 := by omega
      have := (Nat.div_lt_iff_lt_mul (Nat.two_pow_pos j)).mp h3
      rw [Nat.pow_succ]
      omega
    · cases h
theorem bt_exponent (f1 f2 : Int32) (f3 f4 : Int64) (g : Nat → Int64) (x1 : Int32) : bt_R (bf_exponent f1 f2 g x1) (bg_exponent f1 f2 f3 f4 g x1) := by
  unfold bf_exponent bg_exponent bg_exponent_k1
  rw [bt_reg]
  by_cases r1 : bg_isRegister x1 = 0
  · rw [if_pos r1, if_pos r1]; exact ⟨rfl, rfl, rfl, rfl⟩
  rw [if_neg r1, if_neg r1]
  generalize g x1.toNatClampNeg = x
  rw [bt_zero, bt_inf, bt_nan]
  have hpl := bs_plain x
  have cI : (9218868437227405312 : Int64).toInt = 9218868437227405312 := by decide
  by_cases z : bg_isZero x = 0
  · rw [if_pos z, if_pos z]
    by_cases i : bg_isInfinite x = 0
    · rw [if_pos i]
      by_cases n : bg_isNan x = 0
      · rw [if_pos n]
        have hf := bs_fin n i
        have h0 := bs_pos z
        rw [if_pos (bm_llt.mpr (by rw [hpl, cI]; exact hf))]
        obtain ⟨k, k0, kS, kP, k1, k2⟩ := bs_full h0
        have hm := bs_number x
        have hp := bs_gpower x
        have rp := bm_pow_r (bm_p_r x).1 hf
        have sp := bm_sig_pos h0
        have sr := bm_sig_r (bm_p_r x).1
        generalize bm_sig (bm_p x) = S at kS k1 k2 hm sp sr
        generalize bm_pow (bm_p x) = Pw at kP hp rp
        obtain ⟨M, hM⟩ : ∃ M : Nat, S = M := ⟨S.toNat, by omega⟩
        subst hM
        obtain ⟨j, j1, j2, j3, j4⟩ := bs_expo (q := bg_power x) hm (by omega) (by omega) (by omega) (by omega)
        obtain ⟨q1, q2⟩ := bm_room_of j2 j3 j4
        have hk : k = 52 - j := bm_room (m := (M : Int)) (by omega) k2 (by rw [← Int.natCast_mul]; exact Int.ofNat_lt.mpr q2) k1 (by rw [← Int.natCast_mul]; exact Int.ofNat_le.mpr q1)
        refine ⟨?_, rfl, rfl, rfl⟩
        show bf_fullPower x + (52 : Int32) = (bl_expo_1 (bg_power x, bg_number x)).1
        generalize bl_expo_1 (bg_power x, bg_number x) = V at j1 ⊢
        generalize bf_fullPower x = FP at kP ⊢
        generalize bg_power x = PW at hp j1
        have c52 : (52 : Int32).toInt = 52 := by decide
        apply bm_ieq.mpr
        rw [bm_iadd (by rw [c52]; omega) (by rw [c52]; omega), c52, j1, kP, hp]
        omega
      · rw [if_neg n]
        have hn : ¬ bm_p x ≤ 9218868437227405312 := fun q => n ((bs_isNan x).mpr q)
        rw [if_neg (fun q => by have q := bm_llt.mp q; rw [hpl, cI] at q; omega)]
        exact ⟨rfl, rfl, rfl, rfl⟩
    · rw [if_neg i]
      have hi : bm_p x = 9218868437227405312 := Classical.byContradiction fun q => i ((bs_isInf x).mpr q)
      rw [if_neg (fun q => by have q := bm_llt.mp q; rw [hpl, cI] at q; omega)]
      exact ⟨rfl, rfl, rfl, rfl⟩
  · rw [if_neg z, if_neg z]; exact ⟨rfl, rfl, rfl, rfl⟩
