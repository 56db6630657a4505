/-! remainders of finite numbers -/
theorem bt_rest (f1 : Int32) (f3 f4 x y : Int64) (near : Int32) (hx0 : 0 < bm_p x) (hx1 : bm_p x < 9218868437227405312) (hy0 : 0 < bm_p y) (hy1 : bm_p y < 9218868437227405312) : (if (-1 : Int32) ≤ ((bf_power x) - (bf_power y)) then bf_remainderOfFinite f1 (0 : Int32) x y ((bf_power x) - (bf_power y)) near else (x, f1, (0 : Int32))) = ((bg_rest f1 (0 : Int32) f3 f4 x y near).1, (bg_rest f1 (0 : Int32) f3 f4 x y near).2.1, (bg_rest f1 (0 : Int32) f3 f4 x y near).2.2.1) := by
  have hD := bs_gdist x y
  have px := bs_gpower x
  have py := bs_gpower y
  have rx := bm_pow_r (bm_p_r x).1 hx1
  have ry := bm_pow_r (bm_p_r y).1 hy1
  have mx := bs_number x
  have my := bs_number y
  have sx := bm_sig_pos hx0
  have sy := bm_sig_pos hy0
  have srx := bm_sig_r (bm_p_r x).1
  have sry := bm_sig_r (bm_p_r y).1
  have div := fun h1 h2 => bs_div (y := y) (d := bg_power x - bg_power y) h1 h2
  obtain ⟨_, bky⟩ := bm_back (bm_p_r y).1 (bm_p_r y).2
  have back := fun (m : Int64) (q : Int32) => bt_back (x := x) (m := m) (q := q) hx0 hx1
  unfold bf_remainderOfFinite bg_rest
  rw [bt_kc, bt_k1, bt_k2, bt_pow x, bt_pow y, bt_sig x, bt_sig y]
  rw [bt_sig y] at div
  have back := back (bg_number x) (bg_power x) mx px
  have gd := fun h1 h2 => bs_gdiv (x := x) (y := y) (d := bg_power x - bg_power y) h1 h2
  have hxe := bs_plain x
  have eqx : bg_exact (bg_number x) (bg_power x) = bg_plain x := bm_leq.mpr (by rw [back, hxe])
  have rpx := bm_p_r x
  have sgx : bg_signed (bg_exact (bg_number x) (bg_power x)) (bg_negative x) = x := (bt_eqx (by rw [back]; exact rpx.1)).mpr eqx
  clear back hxe eqx rpx hx0 hx1 hy0 hy1
  generalize bm_pow (bm_p x) = Px at hD px rx
  generalize bm_pow (bm_p y) = Py at hD py ry bky
  generalize bm_sig (bm_p x) = Sx at mx sx srx
  generalize bm_sig (bm_p y) = Sy at my sy sry div bky gd
  generalize bg_power x = PX at px sgx hD div gd ⊢
  generalize bg_power y = PY at py hD div gd ⊢
  generalize bg_number x = MX at mx sgx ⊢
  generalize bg_number y = MY at my div gd ⊢
  have cm1 : (-1 : Int32).toInt = -1 := by decide
  have c62 : (-62 : Int32).toInt = -62 := by decide
  have z32 : (0 : Int32).toInt = 0 := by decide
  have hU : (if PY < PX then PY else PX).toInt = if Py < Px then Py else Px := by
    by_cases h : PY < PX
    · rw [if_pos h, py]
      have h := bm_ilt.mp h
      rw [if_pos (by omega)]
    · rw [if_neg h, px]
      have h : ¬ PY.toInt < PX.toInt := fun z => h (bm_ilt.mpr z)
      rw [if_neg (by omega)]
  generalize PX - PY = D at hD div gd ⊢
  obtain ⟨M, hM⟩ : ∃ M : Nat, Sx = M := ⟨Sx.toNat, by omega⟩
  obtain ⟨d, hd⟩ : ∃ d : Nat, Sy = d := ⟨Sy.toNat, by omega⟩
  subst hM
  subst hd
  by_cases c0 : (0 : Int32) ≤ D
  · -- x's power is not the lesser
    have d0 := bm_ile.mp c0
    rw [z32] at d0
    have cc : (-1 : Int32) ≤ D := bm_ile.mpr (by rw [cm1]; omega)
    have n62 : ¬ D < (-62 : Int32) := fun z => by have z := bm_ilt.mp z; rw [c62] at z; omega
    have hdv := div (by omega) (by omega)
    rw [if_neg (show ¬ D.toInt = -1 by omega)] at hdv
    have eDV : MY <<< ((if (-D) < (0 : Int32) then (0 : Int32) else (-D)).toInt64 &&& 63) = MY := bm_leq.mpr (by rw [hdv, my])
    have eU : (if PY < PX then PY else PX) = PY := bm_ieq.mpr (by rw [hU, py]; split <;> omega)
    rw [if_pos cc, if_pos c0, if_neg n62, eDV, eU]
    clear eDV eU hU hdv div gd sgx bky
    obtain ⟨Dn, hDn⟩ : ∃ n : Nat, D.toInt = n := ⟨D.toInt.toNat, by omega⟩
    have dp : 0 < d := by omega
    have eq1 : (MX / MY).toInt = ((M / d : Nat) : Int) := by rw [bm_ldiv (by omega) (by omega), mx, my, bm_natdiv]
    have eq2 : MX / MY = Int64.ofNat (M / d) := bm_ofN eq1
    have eq3 : (MX - MX / MY * MY).toInt = ((M % d : Nat) : Int) := by rw [bm_lrem (by omega) (by omega), mx, my, bm_natmod]
    have eq4 := bm_rem8 eq1
    have hMd : M = M / d * d + M % d := by rw [Nat.mul_comm]; exact (Nat.div_add_mod M d).symm
    obtain ⟨N, k, g1, g2, g3, g4⟩ := bs_cd (dv := MY) (op := D) my dp (by omega) eq2 eq3 (Nat.mod_lt _ dp) hMd hDn
    obtain ⟨N2, k2, q1, q2, q3, q4⟩ := bs_rest_1 (sz := MY) (dd := D) my dp (by omega) eq4 eq3 (Nat.mod_lt _ dp) hMd (Or.inl hDn)
    obtain ⟨v1, v2⟩ := bm_divu g4 g3
    obtain ⟨w1, w2⟩ := bm_divu q4 q3
    have e1 : N2 = N := by rw [v1, w1]
    have e2 : k2 = k := by rw [v2, w2]
    subst e1
    subst e2
    clear v1 v2 w1 w2 g4 q4
    generalize bl_cd MY (MX / MY, MX - MX / MY * MY, D) = CC at g1 g2 ⊢
    generalize bl_rest_1 D MY ((MX / MY) - (MX / MY) / (8 : Int64) * (8 : Int64), MX - MX / MY * MY, 0) = RR at q1 q2 ⊢
    exact bt_finEq my (by omega) g3 g1 g2 q1 q2 (by omega) (fun _ => by omega) (by omega) (by omega)
  · have d0 : ¬ 0 ≤ D.toInt := fun z => c0 (bm_ile.mpr (by rw [z32]; exact z))
    rw [if_neg c0]
    by_cases cc : (-1 : Int32) ≤ D
    · -- one less
      have c2 := bm_ile.mp cc
      rw [cm1] at c2
      have hD1 : D.toInt = -1 := by omega
      have n62 : ¬ D < (-62 : Int32) := fun z => by have z := bm_ilt.mp z; rw [c62] at z; omega
      have hdv := div (by omega) (by omega)
      rw [if_pos hD1] at hdv
      have e62 : ((62 : Int32) + D).toInt = ((61 : Nat) : Int) := by
        rw [bm_iadd (by rw [show (62 : Int32).toInt = 62 by decide]; omega) (by rw [show (62 : Int32).toInt = 62 by decide]; omega), show (62 : Int32).toInt = 62 by decide]
        omega
      have e61 : ((1 : Int64) <<< (((62 : Int32) + D).toInt64 &&& 63)).toInt = 2305843009213693952 := by
        rw [bm_shl e62 (by decide) (by decide) (by decide)]
        decide
      have le : MY ≤ ((1 : Int64) <<< (((62 : Int32) + D).toInt64 &&& 63)) := bm_lle.mpr (by rw [e61]; omega)
      obtain ⟨j, j1, j2, j3⟩ := gd (by omega) (by omega) le
      have hj : j = 1 := by omega
      subst hj
      have eSZ : (MY <<< ((-D).toInt64 &&& 63)).toInt = ((2 * d : Nat) : Int) := by rw [j2]; omega
      have eDV : MY <<< ((if (-D) < (0 : Int32) then (0 : Int32) else (-D)).toInt64 &&& 63) = MY <<< ((-D).toInt64 &&& 63) := bm_leq.mpr (by rw [hdv, eSZ]; omega)
      have eU : (if PY < PX then PY else PX) = PX := bm_ieq.mpr (by rw [hU, px]; split <;> omega)
      rw [if_pos cc, if_neg n62, if_pos le, eDV, eU]
      clear eDV eU hU hdv div gd sgx bky j2 j3 e61 e62 le
      generalize MY <<< ((-D).toInt64 &&& 63) = SZ at eSZ ⊢
      have dp : 0 < 2 * d := by omega
      have eq1 : (MX / SZ).toInt = ((M / (2 * d) : Nat) : Int) := by rw [bm_ldiv (by omega) (by omega), mx, eSZ, bm_natdiv]
      have eq2 : MX / SZ = Int64.ofNat (M / (2 * d)) := bm_ofN eq1
      have eq3 : (MX - MX / SZ * SZ).toInt = ((M % (2 * d) : Nat) : Int) := by rw [bm_lrem (by omega) (by omega), mx, eSZ, bm_natmod]
      have eq4 := bm_rem8 eq1
      have hMd : M = M / (2 * d) * (2 * d) + M % (2 * d) := by rw [Nat.mul_comm]; exact (Nat.div_add_mod M (2 * d)).symm
      have hml : M % (2 * d) ≤ M := Nat.mod_le _ _
      have hlt := Nat.mod_lt M dp
      obtain ⟨N2, k2, q1, q2, q3, q4⟩ := bs_rest_1 (sz := SZ) (dd := D) eSZ dp (by omega) eq4 eq3 hlt hMd (Or.inr ⟨by omega, rfl⟩)
      obtain ⟨w1, w2⟩ := bm_divu q4 q3
      rw [Nat.pow_zero, Nat.mul_one] at w1 w2
      subst w1
      subst w2
      rw [bs_cd0 (dv := SZ) (n0 := MX / SZ) (re0 := MX - MX / SZ * SZ) (op := D) (by omega)]
      generalize bl_rest_1 D SZ ((MX / SZ) - (MX / SZ) / (8 : Int64) * (8 : Int64), MX - MX / SZ * SZ, 0) = RR at q1 q2 ⊢
      exact bt_finEq eSZ (by omega) hlt eq2 eq3 q1 q2 (by omega) (fun _ => by omega) (by omega) (by omega)
    · -- far less: nothing is taken away
      have c2 : ¬ -1 ≤ D.toInt := fun z => cc (bm_ile.mpr (by rw [cm1]; exact z))
      rw [if_neg cc]
      by_cases l62 : D < (-62 : Int32)
      · rw [if_pos l62]
      · rw [if_neg l62]
        have l2 : ¬ D.toInt < -62 := fun z => l62 (bm_ilt.mpr (by rw [c62]; exact z))
        by_cases le : MY ≤ ((1 : Int64) <<< (((62 : Int32) + D).toInt64 &&& 63))
        · rw [if_pos le]
          obtain ⟨j, j1, j2, j3⟩ := gd (by omega) (by omega) le
          have hdn : 4503599627370496 ≤ (d : Int) := by omega
          have h4 : 4 * (d : Int) ≤ (d : Int) * ((2 ^ j : Nat) : Int) := by
            have hp : 2 ^ 2 ≤ 2 ^ j := Nat.pow_le_pow_right (by decide) (by omega)
            have := Int.mul_le_mul_of_nonneg_left (Int.ofNat_le.mpr hp) (show (0 : Int) ≤ (d : Int) by omega)
            have e4 : ((2 ^ 2 : Nat) : Int) = 4 := by decide
            rw [e4] at this
            omega
          obtain ⟨e, he⟩ : ∃ e : Nat, (d : Int) * ((2 ^ j : Nat) : Int) = e := ⟨((d : Int) * ((2 ^ j : Nat) : Int)).toNat, by omega⟩
          rw [he] at j2 j3 h4
          clear div gd le bky hU j1
          generalize MY <<< ((-D).toInt64 &&& 63) = SZ at j2 ⊢
          have dp : 0 < e := by omega
          have hlt : M < e := by omega
          have hz : M / e = 0 := Nat.div_eq_of_lt hlt
          have hmm : M % e = M := Nat.mod_eq_of_lt hlt
          have eq1 : (MX / SZ).toInt = ((0 : Nat) : Int) := by rw [bm_ldiv (by omega) (by omega), mx, j2, ← bm_natdiv, hz]
          have eq3 : (MX - MX / SZ * SZ).toInt = ((M : Nat) : Int) := by rw [bm_lrem (by omega) (by omega), mx, j2, ← bm_natmod, hmm]
          have eq4 := bm_rem8 eq1
          obtain ⟨N2, k2, q1, q2, q3, q4⟩ := bs_rest_1 (sz := SZ) (dd := D) (N0 := 0) (r0 := M) (M := M) j2 dp (by omega) eq4 eq3 hlt (by omega) (Or.inr ⟨by omega, rfl⟩)
          obtain ⟨w1, w2⟩ := bm_divu q4 q3
          rw [Nat.pow_zero, Nat.mul_one] at w1 w2
          rw [hz] at w1
          rw [hmm] at w2
          subst w1
          subst w2
          generalize bl_rest_1 D SZ ((MX / SZ) - (MX / SZ) / (8 : Int64) * (8 : Int64), MX - MX / SZ * SZ, 0) = RR at q1 q2 ⊢
          have eR : RR.2.1 = MX := bm_leq.mpr (by rw [q2, mx])
          have eQ : RR.1 = 0 := bm_leq.mpr (by rw [q1]; decide)
          have eS : (SZ - MX).toInt = SZ.toInt - MX.toInt := bm_lsub (by omega) (by omega)
          have t1 : ¬ SZ - MX < MX := fun z => by have z := bm_llt.mp z; rw [eS] at z; omega
          have t2 : ¬ MX = SZ - MX := fun z => by have z := bm_leq.mp z; rw [eS] at z; omega
          unfold bt_fin
          rw [eR, eQ, if_neg t1, if_neg t2, bs_nofin, sgx]
          by_cases w : near = 0
          · rw [if_pos w]; rfl
          · rw [if_neg w]; rfl
        · rw [if_neg le]
theorem bt_left (f1 f2 : Int32) (f3 f4 : Int64) (g : Nat → Int64) (x1 x2 x3 x4 : Int32) : bt_R (bf_left f1 f2 g x1 x2 x3 x4) (bg_left f1 f2 f3 f4 g x1 x2 x3 x4) := by
  unfold bf_left bg_left bf_left_k1 bg_left_k1 bf_remainder bf_remainder_k1 bf_remainder_k2 bf_remainder_k3 bf_raise
  rw [bt_reg, bt_reg, bt_reg]
  by_cases r1 : bg_isRegister x1 = 0
  · rw [if_pos r1, if_pos r1]; exact ⟨rfl, rfl, rfl, rfl⟩
  rw [if_neg r1, if_neg r1]
  by_cases r2 : bg_isRegister x2 = 0
  · rw [if_pos r2, if_pos r2]; exact ⟨rfl, rfl, rfl, rfl⟩
  rw [if_neg r2, if_neg r2]
  by_cases r3 : bg_isRegister x3 = 0
  · rw [if_pos r3, if_pos r3]; exact ⟨rfl, rfl, rfl, rfl⟩
  rw [if_neg r3, if_neg r3]
  generalize g x2.toNatClampNeg = x
  generalize g x3.toNatClampNeg = y
  rw [bt_nan x, bt_nan y, bt_inf x, bt_inf y, bt_zero x, bt_zero y]
  by_cases n1 : bg_isNan x = 0
  rotate_left
  · rw [if_neg n1, if_neg n1]; exact ⟨rfl, rfl, rfl, rfl⟩
  rw [if_pos n1, if_pos n1]
  by_cases n2 : bg_isNan y = 0
  rotate_left
  · rw [if_neg n2, if_neg n2]; exact ⟨rfl, rfl, rfl, rfl⟩
  rw [if_pos n2, if_pos n2]
  by_cases i1 : bg_isInfinite x = 0
  rotate_left
  · rw [if_neg i1, if_neg i1]; exact ⟨rfl, rfl, rfl, rfl⟩
  rw [if_pos i1, if_pos i1]
  by_cases z2 : bg_isZero y = 0
  rotate_left
  · rw [if_neg z2, if_neg z2]; exact ⟨rfl, rfl, rfl, rfl⟩
  rw [if_pos z2, if_pos z2]
  by_cases i2 : bg_isInfinite y = 0
  rotate_left
  · rw [if_neg i2, if_neg i2]; exact ⟨rfl, rfl, rfl, rfl⟩
  rw [if_pos i2, if_pos i2]
  by_cases z1 : bg_isZero x = 0
  rotate_left
  · rw [if_neg z1, if_neg z1]; exact ⟨rfl, rfl, rfl, rfl⟩
  rw [if_pos z1, if_pos z1]
  have key := bt_rest f1 f3 f4 x y x4 (bs_pos z1) (bs_fin n1 i1) (bs_pos z2) (bs_fin n2 i2)
  generalize bg_rest f1 (0 : Int32) f3 f4 x y x4 = G at key ⊢
  generalize bf_remainderOfFinite f1 (0 : Int32) x y ((bf_power x) - (bf_power y)) x4 = F at key ⊢
  have eta : (F.1, F.2.1, F.2.2) = F := rfl
  rw [eta, key]
  exact ⟨rfl, rfl, rfl, rfl⟩
