/-! remainders: class beside reference -/
noncomputable def bt_cfin (f1 : Int32) (x SZ : Int64) (U x4 : Int32) (c : Int64 × Int64 × Int32) : Int64 × Int32 × Int32 := (if x4 = 0 then ((bf_signOf x) ||| (bf_pattern c.2.1 U), f1, (c.1 &&& (7 : Int64)).toInt32) else (if SZ < (c.2.1 <<< ((1 : Int32).toInt64 &&& 63)) then (((bf_signOf x) ^^^ (-9223372036854775808 : Int64)) ||| (bf_pattern (SZ - c.2.1) U), f1, ((c.1 + (1 : Int64)) &&& (7 : Int64)).toInt32) else (if (c.2.1 <<< ((1 : Int32).toInt64 &&& 63)) = SZ then (if (c.1 &&& (1 : Int64)) = (1 : Int64) then (((bf_signOf x) ^^^ (-9223372036854775808 : Int64)) ||| (bf_pattern (SZ - c.2.1) U), f1, ((c.1 + (1 : Int64)) &&& (7 : Int64)).toInt32) else ((bf_signOf x) ||| (bf_pattern c.2.1 U), f1, (c.1 &&& (7 : Int64)).toInt32)) else ((bf_signOf x) ||| (bf_pattern c.2.1 U), f1, (c.1 &&& (7 : Int64)).toInt32))))
noncomputable def bt_nofin (f1 : Int32) (f3 f4 x E : Int64) (L n : Int64) : Int64 × Int32 × Int32 × Int64 × Int64 := (if L = (0 : Int64) then (bg_signed E (bg_negative x), f1, n.toInt32, f3, f4) else (if (bg_negative x) = (0 : Int32) then (bg_signed E (0 : Int32), f1, n.toInt32, f3, f4) else (bg_signed E (1 : Int32), f1, n.toInt32, f3, f4)))
noncomputable def bt_yesfin (f1 : Int32) (f3 f4 x E : Int64) (L n : Int64) : Int64 × Int32 × Int32 × Int64 × Int64 := (if L = (0 : Int64) then (bg_signed E (bg_negative x), f1, n.toInt32, f3, f4) else (if (bg_negative x) = (1 : Int32) then (bg_signed E (0 : Int32), f1, n.toInt32, f3, f4) else (bg_signed E (1 : Int32), f1, n.toInt32, f3, f4)))
noncomputable def bt_fin (f1 : Int32) (f3 f4 x SZ : Int64) (U x3 : Int32) (r : Int64 × Int64 × Int32) : Int64 × Int32 × Int32 × Int64 × Int64 := (if x3 = 0 then bt_nofin f1 f3 f4 x (bg_exact r.2.1 U) r.2.1 r.1 else (if (SZ - r.2.1) < r.2.1 then bt_yesfin f1 f3 f4 x (bg_exact (SZ - r.2.1) U) (SZ - r.2.1) ((r.1 + (1 : Int64)) - (r.1 + (1 : Int64)) / (8 : Int64) * (8 : Int64)) else (if r.2.1 = (SZ - r.2.1) then (if (r.1 - r.1 / (2 : Int64) * (2 : Int64)) = (1 : Int64) then bt_yesfin f1 f3 f4 x (bg_exact (SZ - r.2.1) U) (SZ - r.2.1) ((r.1 + (1 : Int64)) - (r.1 + (1 : Int64)) / (8 : Int64) * (8 : Int64)) else bt_nofin f1 f3 f4 x (bg_exact r.2.1 U) r.2.1 r.1) else bt_nofin f1 f3 f4 x (bg_exact r.2.1 U) r.2.1 r.1)))
theorem bt_k1 (f1 f2 : Int32) (f3 f4 x1 x2 : Int64) (x3 : Int32) (r : Int64 × Int64 × Int32) : bg_rest_k1 f1 f2 f3 f4 x1 x2 x3 r = bt_fin f1 f3 f4 x1 (bg_number x2) (bg_power x2) x3 r := rfl
theorem bt_k2 (f1 f2 : Int32) (f3 f4 x1 x2 : Int64) (x3 : Int32) (r : Int64 × Int64 × Int32) : bg_rest_k2 f1 f2 f3 f4 x1 x2 x3 r = bt_fin f1 f3 f4 x1 ((bg_number x2) <<< ((-((bg_power x1) - (bg_power x2))).toInt64 &&& 63)) (bg_power x1) x3 r := rfl
theorem bt_kc (f1 f2 : Int32) (x1 x2 : Int64) (x3 x4 : Int32) (c : Int64 × Int64 × Int32) : bf_remainderOfFinite_k1 f1 f2 x1 x2 x3 x4 c = bt_cfin f1 x1 ((bf_significand x2) <<< ((if (-x3) < (0 : Int32) then (0 : Int32) else (-x3)).toInt64 &&& 63)) (if (bf_power x2) < (bf_power x1) then (bf_power x2) else (bf_power x1)) x4 c := rfl
theorem bs_nofin (f1 : Int32) (f3 f4 x E L n : Int64) : bt_nofin f1 f3 f4 x E L n = (bg_signed E (bg_negative x), f1, n.toInt32, f3, f4) := by
  unfold bt_nofin
  by_cases l : L = (0 : Int64)
  · rw [if_pos l]
  · rw [if_neg l]
    by_cases h : (0 : Int64) ≤ x
    · rw [bs_neg0 h, if_pos rfl]
    · rw [bs_neg1 h, if_neg (by decide)]
theorem bs_yesfin {f1 : Int32} {f3 f4 x E L n : Int64} (hL : ¬ L = 0) : bt_yesfin f1 f3 f4 x E L n = (((bf_signOf x) ^^^ (-9223372036854775808 : Int64)) ||| E, f1, n.toInt32, f3, f4) := by
  unfold bt_yesfin bg_signed bf_signOf
  rw [if_neg hL]
  by_cases h : (0 : Int64) ≤ x
  · have nx : ¬ x < 0 := fun z => by
      have z := bm_llt.mp z
      have h := bm_lle.mp h
      omega
    rw [bs_neg0 h, if_neg (by decide), if_neg (by decide), bm_sgP nx, Int64.zero_xor, Int64.or_comm]
  · have nx : x < 0 := by
      apply bm_llt.mpr
      have h : ¬ (0 : Int64).toInt ≤ x.toInt := fun z => h (bm_lle.mpr z)
      omega
    rw [bs_neg1 h, if_pos rfl, if_pos rfl, bm_sgN nx, Int64.xor_self, Int64.zero_or]
theorem bm_of8 (N : Nat) : (Int64.ofNat N).toInt % 8 = ((N % 8 : Nat) : Int) := by
  have a := bm_tl (Int64.ofNat N)
  have e : (Int64.ofNat N).toBitVec.toNat = N % 18446744073709551616 := BitVec.toNat_ofNat ..
  rw [e] at a
  generalize (Int64.ofNat N).toInt = z at a
  clear e
  split at a <;> omega
theorem bm_of2 (N : Nat) : (Int64.ofNat N).toInt % 2 = ((N % 2 : Nat) : Int) := by
  have := bm_of8 N
  omega
theorem bt_finEq {f1 : Int32} {f3 f4 x SZ : Int64} {U x3 : Int32} {c r : Int64 × Int64 × Int32} {d N k : Nat} (hd : SZ.toInt = d) (d1 : d ≤ 4611686018427387904) (hrd : k < d) (hc1 : c.1 = Int64.ofNat N) (hc2 : c.2.1.toInt = k) (hr1 : r.1.toInt = ((N % 8 : Nat) : Int)) (hr2 : r.2.1.toInt = k) (b1 : k < 9007199254740992) (b2 : d ≤ 2 * k → d - k < 9007199254740992) (u1 : -1074 ≤ U.toInt) (u2 : U.toInt ≤ 971) : bt_cfin f1 x SZ U x3 c = ((bt_fin f1 f3 f4 x SZ U x3 r).1, (bt_fin f1 f3 f4 x SZ U x3 r).2.1, (bt_fin f1 f3 f4 x SZ U x3 r).2.2.1) := by
  have hL : c.2.1 = r.2.1 := bm_leq.mpr (by rw [hc2, hr2])
  have c1 : (1 : Int64).toInt = 1 := by decide
  have c2 : (2 : Int64).toInt = 2 := by decide
  have c7 : c.1 &&& (7 : Int64) = r.1 := bm_leq.mpr (by rw [bm_m3, hc1, bm_of8, hr1])
  have hr1p : (r.1 + (1 : Int64)).toInt = ((N % 8 + 1 : Nat) : Int) := by
    rw [bm_ladd (by rw [hr1, c1]; omega) (by rw [hr1, c1]; omega), hr1, c1]
    omega
  have c7p : (c.1 + (1 : Int64)) &&& (7 : Int64) = (r.1 + (1 : Int64)) - (r.1 + (1 : Int64)) / (8 : Int64) * (8 : Int64) := by
    apply bm_leq.mpr
    rw [bm_rem8 hr1p, bm_m3, hc1, show Int64.ofNat N + (1 : Int64) = Int64.ofNat (N + 1) from (Int64.ofNat_add N 1).symm, bm_of8]
    omega
  have par : (c.1 &&& (1 : Int64)) = (1 : Int64) ↔ (r.1 - r.1 / (2 : Int64) * (2 : Int64)) = (1 : Int64) := by
    rw [bm_leq, bm_leq, bm_m1, hc1, bm_of2, bm_lrem (by rw [hr1]; omega) (by rw [c2]; decide), hr1, c2, c1]
    omega
  have e2 : (r.2.1 <<< ((1 : Int32).toInt64 &&& 63)).toInt = ((2 * k : Nat) : Int) := bm_shl1 hr2 (by omega)
  have eS : (SZ - r.2.1).toInt = ((d - k : Nat) : Int) := by
    rw [bm_lsub (by rw [hd, hr2]; omega) (by rw [hd, hr2]; omega), hd, hr2]
    omega
  unfold bt_cfin bt_fin
  rw [hL, c7, c7p]
  clear c7 c7p hL hc1 hc2
  generalize r.2.1 <<< ((1 : Int32).toInt64 &&& 63) = L2 at e2 ⊢
  generalize SZ - r.2.1 = A at eS ⊢
  have cmp1 : SZ < L2 ↔ A < r.2.1 := by
    rw [bm_llt, bm_llt, hd, e2, eS, hr2]
    omega
  have cmp2 : L2 = SZ ↔ r.2.1 = A := by
    rw [bm_leq, bm_leq, hd, e2, eS, hr2]
    omega
  have nA : ¬ A = 0 := fun z => by
    have z := bm_leq.mp z
    rw [eS] at z
    have z : ((d - k : Nat) : Int) = 0 := z
    omega
  have pL : bf_pattern r.2.1 U = bg_exact r.2.1 U := bt_pattern (by omega) (by omega) u1 u2
  have pA : d ≤ 2 * k → bf_pattern A U = bg_exact A U := fun z => by
    have := b2 z
    exact bt_pattern (by omega) (by omega) u1 u2
  rw [bs_nofin, bs_yesfin nA, pL, bt_sign x (bg_exact r.2.1 U)]
  by_cases w : x3 = 0
  · rw [if_pos w, if_pos w]
  rw [if_neg w, if_neg w]
  by_cases a1 : SZ < L2
  · rw [if_pos a1, if_pos (cmp1.mp a1)]
    have z : d ≤ 2 * k := by
      have a1 := bm_llt.mp a1
      rw [hd, e2] at a1
      omega
    rw [pA z]
  rw [if_neg a1, if_neg (fun z => a1 (cmp1.mpr z))]
  by_cases a2 : L2 = SZ
  · rw [if_pos a2, if_pos (cmp2.mp a2)]
    have z : d ≤ 2 * k := by
      have a2 := bm_leq.mp a2
      rw [hd, e2] at a2
      omega
    rw [pA z]
    by_cases a3 : (c.1 &&& (1 : Int64)) = (1 : Int64)
    · rw [if_pos a3, if_pos (par.mp a3)]
    · rw [if_neg a3, if_neg (fun q => a3 (par.mpr q))]
  · rw [if_neg a2, if_neg (fun z => a2 (cmp2.mpr z))]
