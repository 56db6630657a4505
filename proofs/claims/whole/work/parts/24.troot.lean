/-! square roots: the class's and the reference's are one -/
theorem bm_i1 (v : Int32) : (v &&& (1 : Int32)).toInt = v.toInt % 2 := by
  have h : (v &&& (1 : Int32)).toBitVec.toNat = v.toBitVec.toNat % 2 := by
    rw [Int32.toBitVec_and, BitVec.toNat_and, show (1 : Int32).toBitVec.toNat = 2 ^ 1 - 1 by decide, Nat.and_two_pow_sub_one_eq_mod]
  have a := bm_ti v
  have b := bm_ti (v &&& (1 : Int32))
  have nv := bm_ni v
  rw [h, if_pos (by omega)] at b
  rw [b]
  split at a <;> omega
theorem bm_rootcmp {m A r t : Nat} (h1 : m * 18014398509481984 = r * r + t) (h2 : t ≤ 2 * r) (a1 : A * A ≤ m * 4503599627370496) (a2 : m * 4503599627370496 < (A + 1) * (A + 1)) : (r = 2 * A ∧ ((t = 0) ↔ A * A = m * 4503599627370496) ∧ ¬ (2 * A + 1) * (2 * A + 1) ≤ m * 18014398509481984) ∨ (r = 2 * A + 1 ∧ ¬ A * A = m * 4503599627370496 ∧ (2 * A + 1) * (2 * A + 1) ≤ m * 18014398509481984) := by
  have e3 : (A + 1) * (A + 1) = A * A + 2 * A + 1 := by rw [Nat.add_mul, Nat.mul_add]; omega
  have e4 : (r + 1) * (r + 1) = r * r + 2 * r + 1 := by rw [Nat.add_mul, Nat.mul_add]; omega
  have l1 : 2 * A ≤ r := bm_sqle (by rw [bm_sqE, e4]; omega)
  have l2 : r < 2 * (A + 1) := bm_sqlt (by rw [bm_sqE (A + 1)]; omega)
  rw [bm_sqO]
  rcases (show r = 2 * A ∨ r = 2 * A + 1 by omega) with z | z
  · subst z
    rw [bm_sqE] at h1
    exact Or.inl ⟨rfl, by omega, by omega⟩
  · subst z
    rw [bm_sqO] at h1
    exact Or.inr ⟨rfl, by omega, by omega⟩
theorem bs_full {x : Int64} (h : 0 < bm_p x) : ∃ k : Nat, k ≤ 52 ∧ (bf_fullSignificand x).toInt = bm_sig (bm_p x) * ((2 ^ k : Nat) : Int) ∧ (bf_fullPower x).toInt = bm_pow (bm_p x) - k ∧ 4503599627370496 ≤ bm_sig (bm_p x) * ((2 ^ k : Nat) : Int) ∧ bm_sig (bm_p x) * ((2 ^ k : Nat) : Int) < 9007199254740992 := by
  obtain ⟨k, k1, k2, k3, k4⟩ := bs_spareRoom h
  have hs := bs_significand x
  have hp := bs_power x
  have rp := bm_pow_r2 (bm_p_r x).1 (bm_p_r x).2
  refine ⟨k, k1, ?_, ?_, k3, k4⟩
  · unfold bf_fullSignificand
    rw [bm_shl k2 (by omega) (by rw [hs]; omega) (by rw [hs]; omega), hs]
  · unfold bf_fullPower
    rw [bm_isub (by rw [hp, k2]; omega) (by rw [hp, k2]; omega), hp, k2]
/-- the class's root: digits, then the root of m times 2 to the 54 -/
theorem bs_croot {F : Int64} {o : Int32} {f oN : Nat} (hF : F.toInt = f) (hf : f < 9007199254740992) (ho : o.toInt = oN) (ho1 : oN ≤ 1) : ∃ r t : Nat, (bl_cr (F <<< (((10 : Int32) + o).toInt64 &&& 63), 0, 0, 0)).2.1.toInt = r ∧ (bl_cr (F <<< (((10 : Int32) + o).toInt64 &&& 63), 0, 0, 0)).2.2.1.toInt = t ∧ f * 2 ^ oN * 18014398509481984 = r * r + t ∧ t ≤ 2 * r ∧ r < 18014398509481984 := by
  have c10 : (10 : Int32).toInt = 10 := by decide
  have hk : ((10 : Int32) + o).toInt = ((10 + oN : Nat) : Int) := by
    rw [bm_iadd (by rw [c10]; omega) (by rw [c10]; omega), c10, ho]
    omega
  have a := bm_tl F
  have nF := bm_nl F
  have hn : F.toBitVec.toNat = f := by split at a <;> omega
  have hp : 2 ^ (10 + oN) = 1024 * 2 ^ oN := by rw [Nat.pow_add]
  have hp2 : 2 ^ oN ≤ 2 := by
    have : 2 ^ oN ≤ 2 ^ 1 := Nat.pow_le_pow_right (by decide) ho1
    omega
  have hl : f * 2 ^ oN ≤ f * 2 := Nat.mul_le_mul_left f hp2
  have e : (F <<< (((10 : Int32) + o).toInt64 &&& 63)).toBitVec.toNat = f * 2 ^ oN * 1024 := by
    rw [bm_shlM F hk (by omega)]
    show (F.toBitVec * BitVec.ofNat 64 (2 ^ (10 + oN))).toNat = _
    rw [BitVec.toNat_mul, BitVec.toNat_ofNat, Nat.mul_mod_mod, hn, hp, Nat.mul_left_comm]
    rw [Nat.mod_eq_of_lt (by omega)]
    omega
  obtain ⟨r, t, g1, g2, g3, g4, g5⟩ := bs_cr e
  refine ⟨r, t, g1, g2, ?_, g4, g5⟩
  rw [← g3]
  generalize f * 2 ^ oN = z
  have e54 : (4 : Nat) ^ 54 = 324518553658426726783156020576256 := by decide
  rw [e54]
  omega
theorem bt_rootA {x : Int64} (h0 : 0 < bm_p x) (hx : bm_p x < 9218868437227405312) : ∃ M r t : Nat, 4503599627370496 ≤ M ∧ M ≤ 18014398509481982 ∧ (bl_root_1 (bg_number x, bg_power x, 0)).1.toInt = M ∧ (bl_cr ((bf_fullSignificand x) <<< (((10 : Int32) + ((bf_fullPower x) &&& (1 : Int32))).toInt64 &&& 63), 0, 0, 0)).2.1.toInt = r ∧ (bl_cr ((bf_fullSignificand x) <<< (((10 : Int32) + ((bf_fullPower x) &&& (1 : Int32))).toInt64 &&& 63), 0, 0, 0)).2.2.1.toInt = t ∧ M * 18014398509481984 = r * r + t ∧ t ≤ 2 * r ∧ r < 18014398509481984 ∧ (bf_fullPower x) - ((bf_fullPower x) &&& (1 : Int32)) = (bl_root_1 (bg_number x, bg_power x, 0)).2.1 ∧ -1127 ≤ (bl_root_1 (bg_number x, bg_power x, 0)).2.1.toInt ∧ (bl_root_1 (bg_number x, bg_power x, 0)).2.1.toInt ≤ 971 := by
  obtain ⟨k, k0, kS, kP, k1, k2⟩ := bs_full h0
  have hm := bs_number x
  have hp := bs_gpower x
  have rp := bm_pow_r (bm_p_r x).1 hx
  have sp := bm_sig_pos h0
  clear h0 hx
  generalize bf_fullSignificand x = FS at kS ⊢
  generalize bf_fullPower x = FP at kP ⊢
  generalize bg_number x = N at hm ⊢
  generalize bg_power x = PW at hp ⊢
  generalize bm_sig (bm_p x) = S at kS k1 k2 hm sp
  generalize bm_pow (bm_p x) = Pw at kP hp rp
  have ho := bm_i1 FP
  rw [kP] at ho
  have hO : FP - (FP &&& (1 : Int32)) = FP - (FP &&& (1 : Int32)) := rfl
  generalize FP &&& (1 : Int32) = O at ho ⊢
  clear hO
  obtain ⟨s, s1, s2, s3⟩ := bs_root_1 (m := N) (p := PW) (k := k) (by omega) k0 (by rw [hm]; exact k1) (by rw [hm]; exact k2) (by omega) (by omega)
  rw [hm] at s1
  rw [hp] at s2 s3
  clear hm hp
  generalize bl_root_1 (N, PW, 0) = R1 at s1 s2 ⊢
  obtain ⟨oN, hoN⟩ : ∃ n : Nat, (n : Int) = (Pw - k) % 2 := ⟨((Pw - k) % 2).toNat, by omega⟩
  have ho1 : oN ≤ 1 := by omega
  have hs : s = k + oN := by omega
  obtain ⟨f, hf⟩ : ∃ f : Nat, S * ((2 ^ k : Nat) : Int) = f := ⟨(S * ((2 ^ k : Nat) : Int)).toNat, by omega⟩
  have hfr : 4503599627370496 ≤ f ∧ f < 9007199254740992 := by omega
  have hM : S * ((2 ^ s : Nat) : Int) = ((f * 2 ^ oN : Nat) : Int) := by
    rw [hs, Nat.pow_add, Int.natCast_mul, ← Int.mul_assoc, hf, ← Int.natCast_mul]
  rw [hM] at s1
  rw [hf] at kS
  have hMr : 4503599627370496 ≤ f * 2 ^ oN ∧ f * 2 ^ oN ≤ 18014398509481982 := by
    rcases (show oN = 0 ∨ oN = 1 by omega) with z | z <;> subst z <;> omega
  have hoo : O.toInt = oN := by rw [ho]; exact hoN.symm
  obtain ⟨r, t, g1, g2, g3, g4, g5⟩ := bs_croot (F := FS) (o := O) kS hfr.2 hoo ho1
  have hq : FP - O = R1.2.1 := by
    apply bm_ieq.mpr
    clear g1 g2 g3
    rw [bm_isub (by rw [kP, ho]; omega) (by rw [kP, ho]; omega), kP, ho, s2]
    omega
  refine ⟨f * 2 ^ oN, r, t, hMr.1, hMr.2, s1, g1, g2, g3, g4, g5, hq, ?_, ?_⟩
  · rw [s2]; clear g1 g2 g3 hq; omega
  · rw [s2]; clear g1 g2 g3 hq; omega
theorem bt_root (f1 f2 : Int32) (f3 f4 x : Int64) (h0 : 0 < bm_p x) (hx : bm_p x < 9218868437227405312) : (bf_rootOfPositive f1 f2 x).1 = (bg_root f1 f2 f3 f4 x).1 ∧ (bf_rootOfPositive f1 f2 x).2.1 = (bg_root f1 f2 f3 f4 x).2.1 ∧ (bf_rootOfPositive f1 f2 x).2.2 = (bg_root f1 f2 f3 f4 x).2.2.1 := by
  obtain ⟨M, r, t, hM1, hM2, s1, g1, g2, g3, g4, g5, hq, hqr1, hqr2⟩ := bt_rootA h0 hx
  clear h0 hx
  unfold bf_rootOfPositive bf_rootOfPositive_k1 bf_rootOfPositive_k2 bf_rootOfPositive_k3 bf_raise
  unfold bg_root bg_root_k1 bg_root_k2 bg_root_k3 bg_root_k4 bg_root_k5 bg_root_k6
  rw [hq]
  clear hq
  generalize bl_root_1 (bg_number x, bg_power x, 0) = R1 at s1 hqr1 hqr2 ⊢
  generalize bl_cr ((bf_fullSignificand x) <<< (((10 : Int32) + ((bf_fullPower x) &&& (1 : Int32))).toInt64 &&& 63), 0, 0, 0) = CR at g1 g2 ⊢
  -- the search
  have p52 : ((2 ^ 52 : Nat) : Int) = 4503599627370496 := by decide
  have t1 : (R1.1 >>> ((2 : Int32).toInt64 &&& 63)).toInt = (M : Int) / 4 := by
    rw [bm_shr R1.1 (j := 2) (by decide) (by decide), s1]
    rfl
  have t2 : ((R1.1 &&& (3 : Int64)) <<< ((52 : Int32).toInt64 &&& 63)).toInt = (M : Int) % 4 * 4503599627370496 := by
    have e := bm_m2 R1.1
    rw [s1] at e
    generalize R1.1 &&& (3 : Int64) = W at e ⊢
    rw [bm_shl (j := 52) (by decide) (by decide) (by rw [e, p52]; omega) (by rw [e, p52]; omega), e, p52]
  generalize R1.1 >>> ((2 : Int32).toInt64 &&& 63) = TH at t1 ⊢
  generalize (R1.1 &&& (3 : Int64)) <<< ((52 : Int32).toInt64 &&& 63) = TL at t2 ⊢
  obtain ⟨a, a1, a2, a3, a4, a5, a6, a7⟩ := bs_root_2 (th := TH) (tl := TL) (fl := f1) (qt := f2) (hi := f3) (lo := f4) (T := (M : Int) * 4503599627370496) (by rw [t1, t2]; omega) (by omega) (by omega) (by omega) (by omega)
  generalize bl_root_2 TH TL (4503599627370496, 9007199254740992, 0, f1, f2, f3, f4) = R2 at a1 a6 a7 ⊢
  obtain ⟨A, hA⟩ : ∃ A : Nat, a = A := ⟨a.toNat, by omega⟩
  subst hA
  have a4 : A * A ≤ M * 4503599627370496 := by
    apply Int.ofNat_le.mp
    rw [Int.natCast_mul, Int.natCast_mul]; exact a4
  have a5 : M * 4503599627370496 < (A + 1) * (A + 1) := by
    apply Int.ofNat_lt.mp
    rw [Int.natCast_mul, Int.natCast_mul]; exact a5
  obtain ⟨m1, m2, m3, m4, m5⟩ := bs_multiply R2.2.2.2.1 R2.2.2.2.2.1 R2.2.2.2.2.2.1 R2.2.2.2.2.2.2 R2.1 R2.1 (by omega) (by omega) (by omega) (by omega)
  generalize bg_multiply R2.2.2.2.1 R2.2.2.2.2.1 R2.2.2.2.2.2.1 R2.2.2.2.2.2.2 R2.1 R2.1 = MU at m1 m2 m3 m4 m5 ⊢
  rw [a6] at m1
  rw [a7] at m2
  rw [a1, ← Int.natCast_mul] at m3
  have c1 : (1 : Int64).toInt = 1 := by decide
  have c2 : (2 : Int64).toInt = 2 := by decide
  have e21 : (((2 : Int64) * R2.1) + (1 : Int64)).toInt = ((2 * A + 1 : Nat) : Int) := by
    have e : ((2 : Int64) * R2.1).toInt = 2 * (A : Int) := by rw [bm_lmul (by rw [c2, a1]; omega) (by rw [c2, a1]; omega), c2, a1]
    rw [bm_ladd (by rw [e, c1]; omega) (by rw [e, c1]; omega), e, c1]
    omega
  generalize ((2 : Int64) * R2.1) + (1 : Int64) = W21 at e21 ⊢
  have fits : ∀ fl : Int32, (bg_squareFits fl MU.2.1 MU.2.2.1 MU.2.2.2 W21 R1.1 (0 : Int64)).2.1 = fl ∧ (bg_squareFits fl MU.2.1 MU.2.2.1 MU.2.2.2 W21 R1.1 (0 : Int64)).2.2.1 = f2 ∧ ((bg_squareFits fl MU.2.1 MU.2.2.1 MU.2.2.2 W21 R1.1 (0 : Int64)).1 = 0 ↔ ¬ (2 * A + 1) * (2 * A + 1) ≤ M * 18014398509481984) := by
    intro fl
    obtain ⟨q1, q2⟩ := bs_squareFits fl MU.2.1 MU.2.2.1 MU.2.2.2 W21 R1.1 (0 : Int64) (by omega) (by omega) (by decide) (by decide)
    obtain ⟨n1, n2, _, _, _⟩ := bs_multiply fl MU.2.1 MU.2.2.1 MU.2.2.2 W21 W21 (by omega) (by omega) (by omega) (by omega)
    rw [q1, n1, n2]
    refine ⟨rfl, m2, ?_⟩
    rw [q2, e21, s1, show (0 : Int64).toInt = 0 by decide, Int.add_zero, ← Int.natCast_mul]
    rw [show (M : Int) * 18014398509481984 = ((M * 18014398509481984 : Nat) : Int) by rw [Int.natCast_mul]; rfl, Int.ofNat_le]
  -- is it whole
  have wh : (MU.2.2.1 = TH ∧ MU.2.2.2 = TL) ↔ A * A = M * 4503599627370496 := by
    rw [bm_leq, bm_leq, t1, t2]
    constructor
    · intro z
      have z1 := z.1
      have z2 := z.2
      rw [z1, z2] at m3
      have : ((A * A : Nat) : Int) = ((M * 4503599627370496 : Nat) : Int) := by omega
      exact Int.ofNat_inj.mp this
    · intro z
      rw [z] at m3
      omega
  -- what the two give
  have l1 : (CR.2.1 &&& (1 : Int64)).toInt = ((r % 2 : Nat) : Int) := by
    have e := bm_m1 CR.2.1
    rw [g1] at e
    rw [e]
    clear e
    omega
  have l2 : (CR.2.1 >>> ((1 : Int32).toInt64 &&& 63)).toInt = ((r / 2 : Nat) : Int) := by
    rw [bm_shr CR.2.1 (j := 1) (by decide) (by decide), g1]
    show (r : Int) / (2 : Int) = _
    omega
  generalize CR.2.1 &&& (1 : Int64) = L1 at l1 ⊢
  generalize CR.2.1 >>> ((1 : Int32).toInt64 &&& 63) = L2 at l2 ⊢
  have l3 : (L2 + L1).toInt = ((r / 2 + r % 2 : Nat) : Int) := by
    rw [bm_ladd (by rw [l1, l2]; omega) (by rw [l1, l2]; omega), l1, l2]
    omega
  generalize L2 + L1 = L3 at l3 ⊢
  have hh := bm_half2 R1.2.1
  generalize R1.2.1 / (2 : Int32) = HV at hh ⊢
  have c26 : (26 : Int32).toInt = 26 := by decide
  have hQ : (HV - (26 : Int32)).toInt = HV.toInt - 26 := by
    rw [bm_isub (by rw [c26]; split at hh <;> omega) (by rw [c26]; split at hh <;> omega), c26]
  generalize HV - (26 : Int32) = QQ at hQ ⊢
  have hQr1 : -1074 ≤ QQ.toInt := by
    rw [hQ]
    split at hh <;> omega
  have hQr2 : QQ.toInt ≤ 971 := by
    rw [hQ]
    split at hh <;> omega
  clear hh hQ
  have pat0 : bf_pattern R2.1 QQ = bg_exact R2.1 QQ := bt_pattern (by omega) (by omega) hQr1 hQr2
  rcases bm_rootcmp g3 g4 a4 a5 with ⟨z1, z2, z3⟩ | ⟨z1, z2, z3⟩
  · -- even
    have lz : L1 = (0 : Int64) := bm_leq.mpr (by rw [l1, z1, show (2 * A % 2 : Nat) = 0 by omega]; rfl)
    have lv : L3 = R2.1 := bm_leq.mpr (by rw [l3, a1, z1]; omega)
    rw [lv, if_pos lz]
    by_cases tz : t = 0
    · have w := wh.mpr (z2.mp tz)
      obtain ⟨q1, q2, q3⟩ := fits MU.1
      rw [if_pos (bm_leq.mpr (by rw [g2, tz]; rfl))]
      rw [if_pos w.1, if_pos w.2, if_pos (q3.mpr z3)]
      exact ⟨pat0, by show f1 = _; rw [q1, m1], q2.symm⟩
    · have nw : ¬ A * A = M * 4503599627370496 := fun z => tz (z2.mpr z)
      obtain ⟨q1, q2, q3⟩ := fits (MU.1 ||| (2 : Int32))
      rw [if_neg (fun z => tz (by have z := bm_leq.mp z; rw [g2] at z; have z : (t : Int) = 0 := z; omega))]
      by_cases w1 : MU.2.2.1 = TH
      · rw [if_pos w1, if_neg (fun w2 => nw (wh.mp ⟨w1, w2⟩)), if_pos (q3.mpr z3)]
        exact ⟨pat0, by show f1 ||| 2 = _; rw [q1, m1], q2.symm⟩
      · rw [if_neg w1, if_pos (q3.mpr z3)]
        exact ⟨pat0, by show f1 ||| 2 = _; rw [q1, m1], q2.symm⟩
  · -- odd
    have cA1 : (R2.1 + (1 : Int64)).toInt = (A : Int) + 1 := by rw [bm_ladd (by rw [a1, c1]; omega) (by rw [a1, c1]; omega), a1, c1]
    have lz : ¬ L1 = (0 : Int64) := fun z => by
      have z := bm_leq.mp z
      rw [l1, z1] at z
      have z : (((2 * A + 1) % 2 : Nat) : Int) = 0 := z
      omega
    have lv : L3 = R2.1 + (1 : Int64) := bm_leq.mpr (by rw [l3, cA1, z1]; omega)
    rw [lv, if_neg lz]
    clear lv lz
    generalize R2.1 + (1 : Int64) = RA at cA1 ⊢
    have hA1 : A + 1 < 9007199254740992 := by
      rcases Nat.lt_or_ge (A + 1) 9007199254740992 with z | z
      · exact z
      · have : A = 9007199254740991 := by omega
        subst this
        omega
    have pat1 : bf_pattern RA QQ = bg_exact RA QQ := bt_pattern (by omega) (by omega) hQr1 hQr2
    obtain ⟨q1, q2, q3⟩ := fits (MU.1 ||| (2 : Int32))
    have nf : ¬ (bg_squareFits (MU.1 ||| (2 : Int32)) MU.2.1 MU.2.2.1 MU.2.2.2 W21 R1.1 (0 : Int64)).1 = 0 := fun z => (q3.mp z) z3
    by_cases w1 : MU.2.2.1 = TH
    · rw [if_pos w1, if_neg (fun w2 => z2 (wh.mp ⟨w1, w2⟩)), if_neg nf]
      exact ⟨pat1, by show f1 ||| 2 = _; rw [q1, m1], q2.symm⟩
    · rw [if_neg w1, if_neg nf]
      exact ⟨pat1, by show f1 ||| 2 = _; rw [q1, m1], q2.symm⟩
