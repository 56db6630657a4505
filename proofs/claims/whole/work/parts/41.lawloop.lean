/-! the law: its loop, its start -/
theorem wl_in0 {j L : Nat} (h : j + 5 ≤ L) (hL : L ≤ 2560) : vp_in (nI j) L := nI_in (by omega) (by omega)
theorem wl_in1 {j L : Nat} (h : j + 5 ≤ L) (hL : L ≤ 2560) : vp_in ((nI j) + (1 : Int32)) L := by
  have e : (nI j) + (1 : Int32) = nI (j + 1) := nI_add j 1
  rw [e]
  exact nI_in (by omega) (by omega)
theorem wl_in2 {j L : Nat} (h : j + 5 ≤ L) (hL : L ≤ 2560) : vp_in ((nI j) + (2 : Int32)) L := by
  have e : (nI j) + (2 : Int32) = nI (j + 2) := nI_add j 2
  rw [e]
  exact nI_in (by omega) (by omega)
theorem wl_in3 {j L : Nat} (h : j + 5 ≤ L) (hL : L ≤ 2560) : vp_in ((nI j) + (3 : Int32)) L := by
  have e : (nI j) + (3 : Int32) = nI (j + 3) := nI_add j 3
  rw [e]
  exact nI_in (by omega) (by omega)
theorem wl_in4 {j L : Nat} (h : j + 5 ≤ L) (hL : L ≤ 2560) : vp_in ((nI j) + (4 : Int32)) L := by
  have e : (nI j) + (4 : Int32) = nI (j + 4) := nI_add j 4
  rw [e]
  exact nI_in (by omega) (by omega)
theorem wl_more {j L : Nat} (hj : j ≤ L) (hL : L ≤ 2560) (h : ¬ (Int32.ofNat L - (5 : Int32)) < nI j) : j + 5 ≤ L := by
  have c5 : (5 : Int32).toInt = 5 := by decide
  have eL : (Int32.ofNat L).toInt = (L : Int) := nI_toInt (n := L) (by omega)
  have ej : (nI j).toInt = (j : Int) := nI_toInt (by omega)
  have e : (Int32.ofNat L - (5 : Int32)).toInt = (L : Int) - 5 := by rw [bm_isub (by rw [eL, c5]; omega) (by rw [eL, c5]; omega), eL, c5]
  have h : ¬ ((L : Int) - 5 < (j : Int)) := fun z => h (bm_ilt.mpr (by rw [e, ej]; exact z))
  omega
theorem wl_and (v : Int32) : ∃ k : Nat, k < 16 ∧ v &&& (15 : Int32) = nI k := by
  have h : (v &&& (15 : Int32)).toBitVec.toNat = v.toBitVec.toNat % 16 := by
    rw [Int32.toBitVec_and, BitVec.toNat_and, show (15 : Int32).toBitVec.toNat = 2 ^ 4 - 1 by decide, Nat.and_two_pow_sub_one_eq_mod]
  have b := bm_ti (v &&& (15 : Int32))
  rw [h, if_pos (by omega)] at b
  refine ⟨v.toBitVec.toNat % 16, by omega, bm_ieq.mpr ?_⟩
  rw [b, nI_toInt (by omega)]
set_option maxHeartbeats 8000000 in
set_option maxRecDepth 100000 in
theorem wl_loop {p : Program} {e : Env} {s : State} {m : MethodId} {below : List Frame} {meth : Method} {c : Code} (l : Launch) {b L : Nat} {xs : Nat → Int32} {dC : Nat → ClassId} {dI : Nat → Nat → Nat} {oX aX oM aM : Nat} {cX cM : ClassId} {A : Nat → Prop} (hL : L ≤ 2560) (hx : p.tables.exec = Jvm.exec) (hb : c.code = cL_law) (hr : meth.sig.returnType = ret) (hml : c.maxLocals = 4) (hown : s.vm.findClass RL = some m.cls) (hts : ∀ w ∈ wsL_law, w.before #[Value.ref b] s = true) (hXs : va_X b L xs s s.heap) (hbl : b < s.heap.size) (hbA : ¬ A b) (hlocks : meth.locks = false) (hA : ∀ q : Nat, s.heap.size ≤ q → A q) (hAf : ∀ q : Nat, A q → s.heap.size ≤ q) (hK : va_K (dC, dI) vwCl [(cX, .long), (cM, .long)] s) : ∀ (n j : Nat) (f1 f2 : Int32) (f3 f4 : Int64) (g : Nat → Int64) (ls : Array Slot) (H : Heap) (locs : List Loc), L - j < n → j ≤ L → lv_has ls 4 [(0, .ref b), (1, .ref oX), (2, .ref oM), (3, .int (nI j))] → va_P (dC, dI) vwCl [(oX, .inr (0, [.ref aX, .int f1, .int f2])), (aX, .inl (cX, 8, .inr (.inl g))), (oM, .inr (1, [.ref aM, .int f1, .int f2, .long f3, .long f4])), (aM, .inl (cM, 8, .inr (.inl g)))] H → va_D A [(oX, .inr (0, [.ref aX, .int f1, .int f2])), (aX, .inl (cX, 8, .inr (.inl g))), (oM, .inr (1, [.ref aM, .int f1, .int f2, .long f3, .long f4])), (aM, .inl (cM, 8, .inr (.inl g)))] → va_S A s.heap H locs → W p l e room_1 s m #[Value.ref b] below meth c H locs 4 24 (lw_Z below #[Value.ref b] s) (F0 m 18 ls []) := by
  intro n
  induction n with
  | zero => intro j f1 f2 f3 f4 g ls H locs h0; omega
  | succ n ih =>
    intro j f1 f2 f3 f4 g ls H locs h0 hj0 hl hP hD hS
    refine lv_iload_n hx hb dL_law_18 rfl (lv_at hl 3 rfl) ?_
    refine lv_aload_n hx hb dL_law_19 rfl (lv_at hl 0 rfl) ?_
    refine va_slen hx hb hXs hbl hbA hS dL_law_20 ?_
    refine lv_iconst (v := 5) hx hb dL_law_21 (by decide) ?_
    refine lv_isub hx hb dL_law_22 ?_
    refine lv_icmp_gt (tgt := 540) hx hb dL_law_23 (by decide) (fun h1 => ?_) (fun h1 => ?_)
    · refine lv_iconst (v := 1) hx hb dL_law_540 (by decide) ?_
      exact va_forget (fun q hq => hAf q.base (hS.2.2 q hq)) (lw_ret hx hb hr hlocks dL_law_541)
    have hj : j + 5 ≤ L := wl_more hj0 hL h1
    have fin : ∀ (f1 f2 : Int32) (f3 f4 : Int64) (g : Nat → Int64) (ls : Array Slot) (H : Heap) (locs : List Loc), lv_has ls 4 [(0, .ref b), (1, .ref oX), (2, .ref oM), (3, .int (nI j))] → va_P (dC, dI) vwCl [(oX, .inr (0, [.ref aX, .int f1, .int f2])), (aX, .inl (cX, 8, .inr (.inl g))), (oM, .inr (1, [.ref aM, .int f1, .int f2, .long f3, .long f4])), (aM, .inl (cM, 8, .inr (.inl g)))] H → va_D A [(oX, .inr (0, [.ref aX, .int f1, .int f2])), (aX, .inl (cX, 8, .inr (.inl g))), (oM, .inr (1, [.ref aM, .int f1, .int f2, .long f3, .long f4])), (aM, .inl (cM, 8, .inr (.inl g)))] → va_S A s.heap H locs → W p l e room_1 s m #[Value.ref b] below meth c H locs 4 24 (lw_Z below #[Value.ref b] s) (F0 m 534 ls []) := by
      intro f1 f2 f3 f4 g ls H locs hl hP hD hS
      refine lv_iinc (nL := 4) (k := 3) (v := nI (j + 5)) (lv' := [(3, .int (nI (j + 5))), (0, .ref b), (1, .ref oX), (2, .ref oM)]) hx hb dL_law_534 hl rfl (show nI j + Int32.ofInt 5 = nI (j + 5) from nI_add j 5) (by decide) rfl (fun ls hl => ?_)
      refine lv_goto (tgt := 18) hx hb dL_law_537 (by decide) ?_
      exact ih (j + 5) f1 f2 f3 f4 g ls H locs (by omega) (by omega) (lv_sub hl [1, 2, 3, 0] rfl) hP hD hS
    refine lv_aload_n hx hb dL_law_26 rfl (lv_at hl 0 rfl) ?_
    refine lv_iload_n hx hb dL_law_27 rfl (lv_at hl 3 rfl) ?_
    refine va_sld hx hb hXs hbl hbA hS (wl_in0 hj hL) dL_law_28 ?_
    refine lv_bipush (v := 15) hx hb dL_law_29 (by decide) ?_
    refine lv_iand hx hb dL_law_31 ?_
    obtain ⟨k, hk, ek⟩ := wl_and (xs (nI j).toNatClampNeg)
    rw [ek]
    rcases (show k = 0 ∨ k = 1 ∨ k = 2 ∨ k = 3 ∨ k = 4 ∨ k = 5 ∨ k = 6 ∨ k = 7 ∨ k = 8 ∨ k = 9 ∨ k = 10 ∨ k = 11 ∨ k = 12 ∨ k = 13 ∨ k = 14 ∨ k = 15 by omega) with rfl | rfl | rfl | rfl | rfl | rfl | rfl | rfl | rfl | rfl | rfl | rfl | rfl | rfl | rfl | rfl
    · refine lv_tableIn (off := 68) (tgt := 100) hx hb dL_law_32 (by decide) (by decide) (by decide) (by decide) ?_
      refine lv_aload_n hx hb dL_law_100 rfl (lv_at hl 1 rfl) ?_
      refine lv_aload_n hx hb dL_law_101 rfl (lv_at hl 0 rfl) ?_
      refine lv_iload_n hx hb dL_law_102 rfl (lv_at hl 3 rfl) ?_
      refine lv_iconst (v := 1) hx hb dL_law_103 (by decide) ?_
      refine lv_iadd hx hb dL_law_104 ?_
      refine va_sld hx hb hXs hbl hbA hS (wl_in1 hj hL) dL_law_105 ?_
      refine lv_aload_n hx hb dL_law_106 rfl (lv_at hl 0 rfl) ?_
      refine lv_iload_n hx hb dL_law_107 rfl (lv_at hl 3 rfl) ?_
      refine lv_iconst (v := 2) hx hb dL_law_108 (by decide) ?_
      refine lv_iadd hx hb dL_law_109 ?_
      refine va_sld hx hb hXs hbl hbA hS (wl_in2 hj hL) dL_law_110 ?_
      refine lv_i2l hx hb dL_law_111 rfl ?_
      refine lv_bipush (v := 32) hx hb dL_law_112 (by decide) ?_
      refine lv_lshl hx hb dL_law_114 rfl ?_
      refine lv_aload_n hx hb dL_law_115 rfl (lv_at hl 0 rfl) ?_
      refine lv_iload_n hx hb dL_law_116 rfl (lv_at hl 3 rfl) ?_
      refine lv_iconst (v := 3) hx hb dL_law_117 (by decide) ?_
      refine lv_iadd hx hb dL_law_118 ?_
      refine va_sld hx hb hXs hbl hbA hS (wl_in3 hj hL) dL_law_119 ?_
      refine lv_i2l hx hb dL_law_120 rfl ?_
      refine lv_ldc2 hx hb hown (hts (.constantLong RL 13 4294967295) (by decide +kernel)) dL_law_121 ?_
      refine lv_land hx hb dL_law_124 ?_
      refine lv_lor hx hb dL_law_125 ?_
      refine bw_vi2 (rest := []) 0 1 0 ⟨hx, hb, hml, hown, hts⟩ (bc_load l dC dI oX aX cX H.size f1 f2 g (xs ((nI j) + (1 : Int32)).toNatClampNeg) ((((xs ((nI j) + (2 : Int32)).toNatClampNeg).toInt64) <<< ((32 : Int32).toInt64 &&& 63)) ||| (((xs ((nI j) + (3 : Int32)).toNatClampNeg).toInt64) &&& (4294967295 : Int64)))) (cwV 2 hts gL_law_X0_load rfl rfl rfl (by decide +kernel) ⟨Nat.le_of_ble_eq_true rfl, Nat.le_of_ble_eq_true rfl⟩) hK hP hD hS hA (by decide) rfl rfl rfl rfl rfl hl.1 rfl (Nat.le_of_ble_eq_true rfl) dL_law_126 (Nat.le_of_ble_eq_true rfl) (Nat.le_of_ble_eq_true rfl) (fun H locs hP hD hS => ?_)
      have hP : va_P (dC, dI) vwCl [(oX, .inr (0, [.ref aX, .int ((bf_load f1 f2 g (xs ((nI j) + (1 : Int32)).toNatClampNeg) ((((xs ((nI j) + (2 : Int32)).toNatClampNeg).toInt64) <<< ((32 : Int32).toInt64 &&& 63)) ||| (((xs ((nI j) + (3 : Int32)).toNatClampNeg).toInt64) &&& (4294967295 : Int64)))).2.1), .int ((bf_load f1 f2 g (xs ((nI j) + (1 : Int32)).toNatClampNeg) ((((xs ((nI j) + (2 : Int32)).toNatClampNeg).toInt64) <<< ((32 : Int32).toInt64 &&& 63)) ||| (((xs ((nI j) + (3 : Int32)).toNatClampNeg).toInt64) &&& (4294967295 : Int64)))).2.2.1)])), (aX, .inl (cX, 8, .inr (.inl ((bf_load f1 f2 g (xs ((nI j) + (1 : Int32)).toNatClampNeg) ((((xs ((nI j) + (2 : Int32)).toNatClampNeg).toInt64) <<< ((32 : Int32).toInt64 &&& 63)) ||| (((xs ((nI j) + (3 : Int32)).toNatClampNeg).toInt64) &&& (4294967295 : Int64)))).2.2.2)))), (oM, .inr (1, [.ref aM, .int f1, .int f2, .long f3, .long f4])), (aM, .inl (cM, 8, .inr (.inl g)))] H := hP
      have hD : va_D A [(oX, .inr (0, [.ref aX, .int ((bf_load f1 f2 g (xs ((nI j) + (1 : Int32)).toNatClampNeg) ((((xs ((nI j) + (2 : Int32)).toNatClampNeg).toInt64) <<< ((32 : Int32).toInt64 &&& 63)) ||| (((xs ((nI j) + (3 : Int32)).toNatClampNeg).toInt64) &&& (4294967295 : Int64)))).2.1), .int ((bf_load f1 f2 g (xs ((nI j) + (1 : Int32)).toNatClampNeg) ((((xs ((nI j) + (2 : Int32)).toNatClampNeg).toInt64) <<< ((32 : Int32).toInt64 &&& 63)) ||| (((xs ((nI j) + (3 : Int32)).toNatClampNeg).toInt64) &&& (4294967295 : Int64)))).2.2.1)])), (aX, .inl (cX, 8, .inr (.inl ((bf_load f1 f2 g (xs ((nI j) + (1 : Int32)).toNatClampNeg) ((((xs ((nI j) + (2 : Int32)).toNatClampNeg).toInt64) <<< ((32 : Int32).toInt64 &&& 63)) ||| (((xs ((nI j) + (3 : Int32)).toNatClampNeg).toInt64) &&& (4294967295 : Int64)))).2.2.2)))), (oM, .inr (1, [.ref aM, .int f1, .int f2, .long f3, .long f4])), (aM, .inl (cM, 8, .inr (.inl g)))] := hD
      obtain ⟨r1, e2⟩ : ∃ r, bf_load f1 f2 g (xs ((nI j) + (1 : Int32)).toNatClampNeg) ((((xs ((nI j) + (2 : Int32)).toNatClampNeg).toInt64) <<< ((32 : Int32).toInt64 &&& 63)) ||| (((xs ((nI j) + (3 : Int32)).toNatClampNeg).toInt64) &&& (4294967295 : Int64))) = r := ⟨_, rfl⟩
      rw [e2] at hP hD ⊢
      refine lv_aload_n hx hb dL_law_129 rfl (lv_at hl 2 rfl) ?_
      refine lv_aload_n hx hb dL_law_130 rfl (lv_at hl 0 rfl) ?_
      refine lv_iload_n hx hb dL_law_131 rfl (lv_at hl 3 rfl) ?_
      refine lv_iconst (v := 1) hx hb dL_law_132 (by decide) ?_
      refine lv_iadd hx hb dL_law_133 ?_
      refine va_sld hx hb hXs hbl hbA hS (wl_in1 hj hL) dL_law_134 ?_
      refine lv_aload_n hx hb dL_law_135 rfl (lv_at hl 0 rfl) ?_
      refine lv_iload_n hx hb dL_law_136 rfl (lv_at hl 3 rfl) ?_
      refine lv_iconst (v := 2) hx hb dL_law_137 (by decide) ?_
      refine lv_iadd hx hb dL_law_138 ?_
      refine va_sld hx hb hXs hbl hbA hS (wl_in2 hj hL) dL_law_139 ?_
      refine lv_i2l hx hb dL_law_140 rfl ?_
      refine lv_bipush (v := 32) hx hb dL_law_141 (by decide) ?_
      refine lv_lshl hx hb dL_law_143 rfl ?_
      refine lv_aload_n hx hb dL_law_144 rfl (lv_at hl 0 rfl) ?_
      refine lv_iload_n hx hb dL_law_145 rfl (lv_at hl 3 rfl) ?_
      refine lv_iconst (v := 3) hx hb dL_law_146 (by decide) ?_
      refine lv_iadd hx hb dL_law_147 ?_
      refine va_sld hx hb hXs hbl hbA hS (wl_in3 hj hL) dL_law_148 ?_
      refine lv_i2l hx hb dL_law_149 rfl ?_
      refine lv_ldc2 hx hb hown (hts (.constantLong RL 13 4294967295) (by decide +kernel)) dL_law_150 ?_
      refine lv_land hx hb dL_law_153 ?_
      refine lv_lor hx hb dL_law_154 ?_
      refine bw_vi2 (rest := [.int r1.1]) 2 3 1 ⟨hx, hb, hml, hown, hts⟩ (bd_load l dC dI oM aM cM H.size f1 f2 f3 f4 g (xs ((nI j) + (1 : Int32)).toNatClampNeg) ((((xs ((nI j) + (2 : Int32)).toNatClampNeg).toInt64) <<< ((32 : Int32).toInt64 &&& 63)) ||| (((xs ((nI j) + (3 : Int32)).toNatClampNeg).toInt64) &&& (4294967295 : Int64)))) (cwV 2 hts gL_law_X1_load rfl rfl rfl (by decide +kernel) ⟨Nat.le_of_ble_eq_true rfl, Nat.le_of_ble_eq_true rfl⟩) hK hP hD hS hA (by decide) rfl rfl rfl rfl rfl hl.1 rfl (Nat.le_of_ble_eq_true rfl) dL_law_155 (Nat.le_of_ble_eq_true rfl) (Nat.le_of_ble_eq_true rfl) (fun H locs hP hD hS => ?_)
      have hP : va_P (dC, dI) vwCl [(oX, .inr (0, [.ref aX, .int r1.2.1, .int r1.2.2.1])), (aX, .inl (cX, 8, .inr (.inl r1.2.2.2))), (oM, .inr (1, [.ref aM, .int ((bg_load f1 f2 f3 f4 g (xs ((nI j) + (1 : Int32)).toNatClampNeg) ((((xs ((nI j) + (2 : Int32)).toNatClampNeg).toInt64) <<< ((32 : Int32).toInt64 &&& 63)) ||| (((xs ((nI j) + (3 : Int32)).toNatClampNeg).toInt64) &&& (4294967295 : Int64)))).2.1), .int ((bg_load f1 f2 f3 f4 g (xs ((nI j) + (1 : Int32)).toNatClampNeg) ((((xs ((nI j) + (2 : Int32)).toNatClampNeg).toInt64) <<< ((32 : Int32).toInt64 &&& 63)) ||| (((xs ((nI j) + (3 : Int32)).toNatClampNeg).toInt64) &&& (4294967295 : Int64)))).2.2.1), .long ((bg_load f1 f2 f3 f4 g (xs ((nI j) + (1 : Int32)).toNatClampNeg) ((((xs ((nI j) + (2 : Int32)).toNatClampNeg).toInt64) <<< ((32 : Int32).toInt64 &&& 63)) ||| (((xs ((nI j) + (3 : Int32)).toNatClampNeg).toInt64) &&& (4294967295 : Int64)))).2.2.2.1), .long ((bg_load f1 f2 f3 f4 g (xs ((nI j) + (1 : Int32)).toNatClampNeg) ((((xs ((nI j) + (2 : Int32)).toNatClampNeg).toInt64) <<< ((32 : Int32).toInt64 &&& 63)) ||| (((xs ((nI j) + (3 : Int32)).toNatClampNeg).toInt64) &&& (4294967295 : Int64)))).2.2.2.2.1)])), (aM, .inl (cM, 8, .inr (.inl ((bg_load f1 f2 f3 f4 g (xs ((nI j) + (1 : Int32)).toNatClampNeg) ((((xs ((nI j) + (2 : Int32)).toNatClampNeg).toInt64) <<< ((32 : Int32).toInt64 &&& 63)) ||| (((xs ((nI j) + (3 : Int32)).toNatClampNeg).toInt64) &&& (4294967295 : Int64)))).2.2.2.2.2))))] H := hP
      have hD : va_D A [(oX, .inr (0, [.ref aX, .int r1.2.1, .int r1.2.2.1])), (aX, .inl (cX, 8, .inr (.inl r1.2.2.2))), (oM, .inr (1, [.ref aM, .int ((bg_load f1 f2 f3 f4 g (xs ((nI j) + (1 : Int32)).toNatClampNeg) ((((xs ((nI j) + (2 : Int32)).toNatClampNeg).toInt64) <<< ((32 : Int32).toInt64 &&& 63)) ||| (((xs ((nI j) + (3 : Int32)).toNatClampNeg).toInt64) &&& (4294967295 : Int64)))).2.1), .int ((bg_load f1 f2 f3 f4 g (xs ((nI j) + (1 : Int32)).toNatClampNeg) ((((xs ((nI j) + (2 : Int32)).toNatClampNeg).toInt64) <<< ((32 : Int32).toInt64 &&& 63)) ||| (((xs ((nI j) + (3 : Int32)).toNatClampNeg).toInt64) &&& (4294967295 : Int64)))).2.2.1), .long ((bg_load f1 f2 f3 f4 g (xs ((nI j) + (1 : Int32)).toNatClampNeg) ((((xs ((nI j) + (2 : Int32)).toNatClampNeg).toInt64) <<< ((32 : Int32).toInt64 &&& 63)) ||| (((xs ((nI j) + (3 : Int32)).toNatClampNeg).toInt64) &&& (4294967295 : Int64)))).2.2.2.1), .long ((bg_load f1 f2 f3 f4 g (xs ((nI j) + (1 : Int32)).toNatClampNeg) ((((xs ((nI j) + (2 : Int32)).toNatClampNeg).toInt64) <<< ((32 : Int32).toInt64 &&& 63)) ||| (((xs ((nI j) + (3 : Int32)).toNatClampNeg).toInt64) &&& (4294967295 : Int64)))).2.2.2.2.1)])), (aM, .inl (cM, 8, .inr (.inl ((bg_load f1 f2 f3 f4 g (xs ((nI j) + (1 : Int32)).toNatClampNeg) ((((xs ((nI j) + (2 : Int32)).toNatClampNeg).toInt64) <<< ((32 : Int32).toInt64 &&& 63)) ||| (((xs ((nI j) + (3 : Int32)).toNatClampNeg).toInt64) &&& (4294967295 : Int64)))).2.2.2.2.2))))] := hD
      obtain ⟨r3, e4⟩ : ∃ r, bg_load f1 f2 f3 f4 g (xs ((nI j) + (1 : Int32)).toNatClampNeg) ((((xs ((nI j) + (2 : Int32)).toNatClampNeg).toInt64) <<< ((32 : Int32).toInt64 &&& 63)) ||| (((xs ((nI j) + (3 : Int32)).toNatClampNeg).toInt64) &&& (4294967295 : Int64))) = r := ⟨_, rfl⟩
      rw [e4] at hP hD ⊢
      have hR := bt_load f1 f2 f3 f4 g (xs ((nI j) + (1 : Int32)).toNatClampNeg) ((((xs ((nI j) + (2 : Int32)).toNatClampNeg).toInt64) <<< ((32 : Int32).toInt64 &&& 63)) ||| (((xs ((nI j) + (3 : Int32)).toNatClampNeg).toInt64) &&& (4294967295 : Int64)))
      rw [e2, e4] at hR
      obtain ⟨q1, q2, q3, q4⟩ := hR
      rw [q2, q3, q4] at hP hD
      refine lv_icmp_eq (tgt := 534) hx hb dL_law_158 (by decide) (fun _ => ?_) (fun h => absurd q1 h)
      exact fin r3.2.1 r3.2.2.1 r3.2.2.2.1 r3.2.2.2.2.1 r3.2.2.2.2.2 ls H locs hl hP hD hS
    · refine lv_tableIn (off := 131) (tgt := 163) hx hb dL_law_32 (by decide) (by decide) (by decide) (by decide) ?_
      refine lv_aload_n hx hb dL_law_163 rfl (lv_at hl 1 rfl) ?_
      refine lv_aload_n hx hb dL_law_164 rfl (lv_at hl 0 rfl) ?_
      refine lv_iload_n hx hb dL_law_165 rfl (lv_at hl 3 rfl) ?_
      refine lv_iconst (v := 1) hx hb dL_law_166 (by decide) ?_
      refine lv_iadd hx hb dL_law_167 ?_
      refine va_sld hx hb hXs hbl hbA hS (wl_in1 hj hL) dL_law_168 ?_
      refine bw_vl2 (rest := []) 0 1 0 ⟨hx, hb, hml, hown, hts⟩ (bc_bits l dC dI oX aX cX H.size f1 f2 g (xs ((nI j) + (1 : Int32)).toNatClampNeg)) (cwV 1 hts gL_law_X0_bits rfl rfl rfl (by decide +kernel) ⟨Nat.le_of_ble_eq_true rfl, Nat.le_of_ble_eq_true rfl⟩) hK hP hD hS hA (by decide) rfl rfl rfl rfl rfl hl.1 rfl (Nat.le_of_ble_eq_true rfl) dL_law_169 (Nat.le_of_ble_eq_true rfl) (Nat.le_of_ble_eq_true rfl) (fun H locs hP hD hS => ?_)
      have hP : va_P (dC, dI) vwCl [(oX, .inr (0, [.ref aX, .int ((bf_bits f1 f2 g (xs ((nI j) + (1 : Int32)).toNatClampNeg)).2.1), .int ((bf_bits f1 f2 g (xs ((nI j) + (1 : Int32)).toNatClampNeg)).2.2.1)])), (aX, .inl (cX, 8, .inr (.inl ((bf_bits f1 f2 g (xs ((nI j) + (1 : Int32)).toNatClampNeg)).2.2.2)))), (oM, .inr (1, [.ref aM, .int f1, .int f2, .long f3, .long f4])), (aM, .inl (cM, 8, .inr (.inl g)))] H := hP
      have hD : va_D A [(oX, .inr (0, [.ref aX, .int ((bf_bits f1 f2 g (xs ((nI j) + (1 : Int32)).toNatClampNeg)).2.1), .int ((bf_bits f1 f2 g (xs ((nI j) + (1 : Int32)).toNatClampNeg)).2.2.1)])), (aX, .inl (cX, 8, .inr (.inl ((bf_bits f1 f2 g (xs ((nI j) + (1 : Int32)).toNatClampNeg)).2.2.2)))), (oM, .inr (1, [.ref aM, .int f1, .int f2, .long f3, .long f4])), (aM, .inl (cM, 8, .inr (.inl g)))] := hD
      obtain ⟨r5, e6⟩ : ∃ r, bf_bits f1 f2 g (xs ((nI j) + (1 : Int32)).toNatClampNeg) = r := ⟨_, rfl⟩
      rw [e6] at hP hD ⊢
      refine lv_aload_n hx hb dL_law_172 rfl (lv_at hl 2 rfl) ?_
      refine lv_aload_n hx hb dL_law_173 rfl (lv_at hl 0 rfl) ?_
      refine lv_iload_n hx hb dL_law_174 rfl (lv_at hl 3 rfl) ?_
      refine lv_iconst (v := 1) hx hb dL_law_175 (by decide) ?_
      refine lv_iadd hx hb dL_law_176 ?_
      refine va_sld hx hb hXs hbl hbA hS (wl_in1 hj hL) dL_law_177 ?_
      refine bw_vl2 (rest := [.long r5.1]) 2 3 1 ⟨hx, hb, hml, hown, hts⟩ (bd_bits l dC dI oM aM cM H.size f1 f2 f3 f4 g (xs ((nI j) + (1 : Int32)).toNatClampNeg)) (cwV 1 hts gL_law_X1_bits rfl rfl rfl (by decide +kernel) ⟨Nat.le_of_ble_eq_true rfl, Nat.le_of_ble_eq_true rfl⟩) hK hP hD hS hA (by decide) rfl rfl rfl rfl rfl hl.1 rfl (Nat.le_of_ble_eq_true rfl) dL_law_178 (Nat.le_of_ble_eq_true rfl) (Nat.le_of_ble_eq_true rfl) (fun H locs hP hD hS => ?_)
      have hP : va_P (dC, dI) vwCl [(oX, .inr (0, [.ref aX, .int r5.2.1, .int r5.2.2.1])), (aX, .inl (cX, 8, .inr (.inl r5.2.2.2))), (oM, .inr (1, [.ref aM, .int ((bg_bits f1 f2 f3 f4 g (xs ((nI j) + (1 : Int32)).toNatClampNeg)).2.1), .int ((bg_bits f1 f2 f3 f4 g (xs ((nI j) + (1 : Int32)).toNatClampNeg)).2.2.1), .long ((bg_bits f1 f2 f3 f4 g (xs ((nI j) + (1 : Int32)).toNatClampNeg)).2.2.2.1), .long ((bg_bits f1 f2 f3 f4 g (xs ((nI j) + (1 : Int32)).toNatClampNeg)).2.2.2.2.1)])), (aM, .inl (cM, 8, .inr (.inl ((bg_bits f1 f2 f3 f4 g (xs ((nI j) + (1 : Int32)).toNatClampNeg)).2.2.2.2.2))))] H := hP
      have hD : va_D A [(oX, .inr (0, [.ref aX, .int r5.2.1, .int r5.2.2.1])), (aX, .inl (cX, 8, .inr (.inl r5.2.2.2))), (oM, .inr (1, [.ref aM, .int ((bg_bits f1 f2 f3 f4 g (xs ((nI j) + (1 : Int32)).toNatClampNeg)).2.1), .int ((bg_bits f1 f2 f3 f4 g (xs ((nI j) + (1 : Int32)).toNatClampNeg)).2.2.1), .long ((bg_bits f1 f2 f3 f4 g (xs ((nI j) + (1 : Int32)).toNatClampNeg)).2.2.2.1), .long ((bg_bits f1 f2 f3 f4 g (xs ((nI j) + (1 : Int32)).toNatClampNeg)).2.2.2.2.1)])), (aM, .inl (cM, 8, .inr (.inl ((bg_bits f1 f2 f3 f4 g (xs ((nI j) + (1 : Int32)).toNatClampNeg)).2.2.2.2.2))))] := hD
      obtain ⟨r7, e8⟩ : ∃ r, bg_bits f1 f2 f3 f4 g (xs ((nI j) + (1 : Int32)).toNatClampNeg) = r := ⟨_, rfl⟩
      rw [e8] at hP hD ⊢
      have hR := bt_bits f1 f2 f3 f4 g (xs ((nI j) + (1 : Int32)).toNatClampNeg)
      rw [e6, e8] at hR
      obtain ⟨q1, q2, q3, q4⟩ := hR
      rw [q2, q3, q4] at hP hD
      refine bw_lc_eq (tgt := 534) hx hb dL_law_181 dL_law_182 (by decide) (fun _ => ?_) (fun h => absurd q1 h)
      exact fin r7.2.1 r7.2.2.1 r7.2.2.2.1 r7.2.2.2.2.1 r7.2.2.2.2.2 ls H locs hl hP hD hS
    · refine lv_tableIn (off := 155) (tgt := 187) hx hb dL_law_32 (by decide) (by decide) (by decide) (by decide) ?_
      refine lv_aload_n hx hb dL_law_187 rfl (lv_at hl 1 rfl) ?_
      refine lv_aload_n hx hb dL_law_188 rfl (lv_at hl 0 rfl) ?_
      refine lv_iload_n hx hb dL_law_189 rfl (lv_at hl 3 rfl) ?_
      refine lv_iconst (v := 1) hx hb dL_law_190 (by decide) ?_
      refine lv_iadd hx hb dL_law_191 ?_
      refine va_sld hx hb hXs hbl hbA hS (wl_in1 hj hL) dL_law_192 ?_
      refine lv_aload_n hx hb dL_law_193 rfl (lv_at hl 0 rfl) ?_
      refine lv_iload_n hx hb dL_law_194 rfl (lv_at hl 3 rfl) ?_
      refine lv_iconst (v := 2) hx hb dL_law_195 (by decide) ?_
      refine lv_iadd hx hb dL_law_196 ?_
      refine va_sld hx hb hXs hbl hbA hS (wl_in2 hj hL) dL_law_197 ?_
      refine bw_vi2 (rest := []) 0 1 0 ⟨hx, hb, hml, hown, hts⟩ (bc_sqrt l dC dI oX aX cX H.size f1 f2 g (xs ((nI j) + (1 : Int32)).toNatClampNeg) (xs ((nI j) + (2 : Int32)).toNatClampNeg)) (cwV 2 hts gL_law_X0_sqrt rfl rfl rfl (by decide +kernel) ⟨Nat.le_of_ble_eq_true rfl, Nat.le_of_ble_eq_true rfl⟩) hK hP hD hS hA (by decide) rfl rfl rfl rfl rfl hl.1 rfl (Nat.le_of_ble_eq_true rfl) dL_law_198 (Nat.le_of_ble_eq_true rfl) (Nat.le_of_ble_eq_true rfl) (fun H locs hP hD hS => ?_)
      have hP : va_P (dC, dI) vwCl [(oX, .inr (0, [.ref aX, .int ((bf_sqrt f1 f2 g (xs ((nI j) + (1 : Int32)).toNatClampNeg) (xs ((nI j) + (2 : Int32)).toNatClampNeg)).2.1), .int ((bf_sqrt f1 f2 g (xs ((nI j) + (1 : Int32)).toNatClampNeg) (xs ((nI j) + (2 : Int32)).toNatClampNeg)).2.2.1)])), (aX, .inl (cX, 8, .inr (.inl ((bf_sqrt f1 f2 g (xs ((nI j) + (1 : Int32)).toNatClampNeg) (xs ((nI j) + (2 : Int32)).toNatClampNeg)).2.2.2)))), (oM, .inr (1, [.ref aM, .int f1, .int f2, .long f3, .long f4])), (aM, .inl (cM, 8, .inr (.inl g)))] H := hP
      have hD : va_D A [(oX, .inr (0, [.ref aX, .int ((bf_sqrt f1 f2 g (xs ((nI j) + (1 : Int32)).toNatClampNeg) (xs ((nI j) + (2 : Int32)).toNatClampNeg)).2.1), .int ((bf_sqrt f1 f2 g (xs ((nI j) + (1 : Int32)).toNatClampNeg) (xs ((nI j) + (2 : Int32)).toNatClampNeg)).2.2.1)])), (aX, .inl (cX, 8, .inr (.inl ((bf_sqrt f1 f2 g (xs ((nI j) + (1 : Int32)).toNatClampNeg) (xs ((nI j) + (2 : Int32)).toNatClampNeg)).2.2.2)))), (oM, .inr (1, [.ref aM, .int f1, .int f2, .long f3, .long f4])), (aM, .inl (cM, 8, .inr (.inl g)))] := hD
      obtain ⟨r9, e10⟩ : ∃ r, bf_sqrt f1 f2 g (xs ((nI j) + (1 : Int32)).toNatClampNeg) (xs ((nI j) + (2 : Int32)).toNatClampNeg) = r := ⟨_, rfl⟩
      rw [e10] at hP hD ⊢
      refine lv_aload_n hx hb dL_law_201 rfl (lv_at hl 2 rfl) ?_
      refine lv_aload_n hx hb dL_law_202 rfl (lv_at hl 0 rfl) ?_
      refine lv_iload_n hx hb dL_law_203 rfl (lv_at hl 3 rfl) ?_
      refine lv_iconst (v := 1) hx hb dL_law_204 (by decide) ?_
      refine lv_iadd hx hb dL_law_205 ?_
      refine va_sld hx hb hXs hbl hbA hS (wl_in1 hj hL) dL_law_206 ?_
      refine lv_aload_n hx hb dL_law_207 rfl (lv_at hl 0 rfl) ?_
      refine lv_iload_n hx hb dL_law_208 rfl (lv_at hl 3 rfl) ?_
      refine lv_iconst (v := 2) hx hb dL_law_209 (by decide) ?_
      refine lv_iadd hx hb dL_law_210 ?_
      refine va_sld hx hb hXs hbl hbA hS (wl_in2 hj hL) dL_law_211 ?_
      refine bw_vi2 (rest := [.int r9.1]) 2 3 1 ⟨hx, hb, hml, hown, hts⟩ (bd_sqrt l dC dI oM aM cM H.size f1 f2 f3 f4 g (xs ((nI j) + (1 : Int32)).toNatClampNeg) (xs ((nI j) + (2 : Int32)).toNatClampNeg)) (cwV 2 hts gL_law_X1_sqrt rfl rfl rfl (by decide +kernel) ⟨Nat.le_of_ble_eq_true rfl, Nat.le_of_ble_eq_true rfl⟩) hK hP hD hS hA (by decide) rfl rfl rfl rfl rfl hl.1 rfl (Nat.le_of_ble_eq_true rfl) dL_law_212 (Nat.le_of_ble_eq_true rfl) (Nat.le_of_ble_eq_true rfl) (fun H locs hP hD hS => ?_)
      have hP : va_P (dC, dI) vwCl [(oX, .inr (0, [.ref aX, .int r9.2.1, .int r9.2.2.1])), (aX, .inl (cX, 8, .inr (.inl r9.2.2.2))), (oM, .inr (1, [.ref aM, .int ((bg_sqrt f1 f2 f3 f4 g (xs ((nI j) + (1 : Int32)).toNatClampNeg) (xs ((nI j) + (2 : Int32)).toNatClampNeg)).2.1), .int ((bg_sqrt f1 f2 f3 f4 g (xs ((nI j) + (1 : Int32)).toNatClampNeg) (xs ((nI j) + (2 : Int32)).toNatClampNeg)).2.2.1), .long ((bg_sqrt f1 f2 f3 f4 g (xs ((nI j) + (1 : Int32)).toNatClampNeg) (xs ((nI j) + (2 : Int32)).toNatClampNeg)).2.2.2.1), .long ((bg_sqrt f1 f2 f3 f4 g (xs ((nI j) + (1 : Int32)).toNatClampNeg) (xs ((nI j) + (2 : Int32)).toNatClampNeg)).2.2.2.2.1)])), (aM, .inl (cM, 8, .inr (.inl ((bg_sqrt f1 f2 f3 f4 g (xs ((nI j) + (1 : Int32)).toNatClampNeg) (xs ((nI j) + (2 : Int32)).toNatClampNeg)).2.2.2.2.2))))] H := hP
      have hD : va_D A [(oX, .inr (0, [.ref aX, .int r9.2.1, .int r9.2.2.1])), (aX, .inl (cX, 8, .inr (.inl r9.2.2.2))), (oM, .inr (1, [.ref aM, .int ((bg_sqrt f1 f2 f3 f4 g (xs ((nI j) + (1 : Int32)).toNatClampNeg) (xs ((nI j) + (2 : Int32)).toNatClampNeg)).2.1), .int ((bg_sqrt f1 f2 f3 f4 g (xs ((nI j) + (1 : Int32)).toNatClampNeg) (xs ((nI j) + (2 : Int32)).toNatClampNeg)).2.2.1), .long ((bg_sqrt f1 f2 f3 f4 g (xs ((nI j) + (1 : Int32)).toNatClampNeg) (xs ((nI j) + (2 : Int32)).toNatClampNeg)).2.2.2.1), .long ((bg_sqrt f1 f2 f3 f4 g (xs ((nI j) + (1 : Int32)).toNatClampNeg) (xs ((nI j) + (2 : Int32)).toNatClampNeg)).2.2.2.2.1)])), (aM, .inl (cM, 8, .inr (.inl ((bg_sqrt f1 f2 f3 f4 g (xs ((nI j) + (1 : Int32)).toNatClampNeg) (xs ((nI j) + (2 : Int32)).toNatClampNeg)).2.2.2.2.2))))] := hD
      obtain ⟨r11, e12⟩ : ∃ r, bg_sqrt f1 f2 f3 f4 g (xs ((nI j) + (1 : Int32)).toNatClampNeg) (xs ((nI j) + (2 : Int32)).toNatClampNeg) = r := ⟨_, rfl⟩
      rw [e12] at hP hD ⊢
      have hR := bt_sqrt f1 f2 f3 f4 g (xs ((nI j) + (1 : Int32)).toNatClampNeg) (xs ((nI j) + (2 : Int32)).toNatClampNeg)
      rw [e10, e12] at hR
      obtain ⟨q1, q2, q3, q4⟩ := hR
      rw [q2, q3, q4] at hP hD
      refine lv_icmp_eq (tgt := 534) hx hb dL_law_215 (by decide) (fun _ => ?_) (fun h => absurd q1 h)
      exact fin r11.2.1 r11.2.2.1 r11.2.2.2.1 r11.2.2.2.2.1 r11.2.2.2.2.2 ls H locs hl hP hD hS
    · refine lv_tableIn (off := 188) (tgt := 220) hx hb dL_law_32 (by decide) (by decide) (by decide) (by decide) ?_
      refine lv_aload_n hx hb dL_law_220 rfl (lv_at hl 1 rfl) ?_
      refine lv_aload_n hx hb dL_law_221 rfl (lv_at hl 0 rfl) ?_
      refine lv_iload_n hx hb dL_law_222 rfl (lv_at hl 3 rfl) ?_
      refine lv_iconst (v := 1) hx hb dL_law_223 (by decide) ?_
      refine lv_iadd hx hb dL_law_224 ?_
      refine va_sld hx hb hXs hbl hbA hS (wl_in1 hj hL) dL_law_225 ?_
      refine lv_aload_n hx hb dL_law_226 rfl (lv_at hl 0 rfl) ?_
      refine lv_iload_n hx hb dL_law_227 rfl (lv_at hl 3 rfl) ?_
      refine lv_iconst (v := 2) hx hb dL_law_228 (by decide) ?_
      refine lv_iadd hx hb dL_law_229 ?_
      refine va_sld hx hb hXs hbl hbA hS (wl_in2 hj hL) dL_law_230 ?_
      refine lv_aload_n hx hb dL_law_231 rfl (lv_at hl 0 rfl) ?_
      refine lv_iload_n hx hb dL_law_232 rfl (lv_at hl 3 rfl) ?_
      refine lv_iconst (v := 3) hx hb dL_law_233 (by decide) ?_
      refine lv_iadd hx hb dL_law_234 ?_
      refine va_sld hx hb hXs hbl hbA hS (wl_in3 hj hL) dL_law_235 ?_
      refine bw_vi2 (rest := []) 0 1 0 ⟨hx, hb, hml, hown, hts⟩ (bc_whole l dC dI oX aX cX H.size f1 f2 g (xs ((nI j) + (1 : Int32)).toNatClampNeg) (xs ((nI j) + (2 : Int32)).toNatClampNeg) (xs ((nI j) + (3 : Int32)).toNatClampNeg)) (cwV 3 hts gL_law_X0_whole rfl rfl rfl (by decide +kernel) ⟨Nat.le_of_ble_eq_true rfl, Nat.le_of_ble_eq_true rfl⟩) hK hP hD hS hA (by decide) rfl rfl rfl rfl rfl hl.1 rfl (Nat.le_of_ble_eq_true rfl) dL_law_236 (Nat.le_of_ble_eq_true rfl) (Nat.le_of_ble_eq_true rfl) (fun H locs hP hD hS => ?_)
      have hP : va_P (dC, dI) vwCl [(oX, .inr (0, [.ref aX, .int ((bf_whole f1 f2 g (xs ((nI j) + (1 : Int32)).toNatClampNeg) (xs ((nI j) + (2 : Int32)).toNatClampNeg) (xs ((nI j) + (3 : Int32)).toNatClampNeg)).2.1), .int ((bf_whole f1 f2 g (xs ((nI j) + (1 : Int32)).toNatClampNeg) (xs ((nI j) + (2 : Int32)).toNatClampNeg) (xs ((nI j) + (3 : Int32)).toNatClampNeg)).2.2.1)])), (aX, .inl (cX, 8, .inr (.inl ((bf_whole f1 f2 g (xs ((nI j) + (1 : Int32)).toNatClampNeg) (xs ((nI j) + (2 : Int32)).toNatClampNeg) (xs ((nI j) + (3 : Int32)).toNatClampNeg)).2.2.2)))), (oM, .inr (1, [.ref aM, .int f1, .int f2, .long f3, .long f4])), (aM, .inl (cM, 8, .inr (.inl g)))] H := hP
      have hD : va_D A [(oX, .inr (0, [.ref aX, .int ((bf_whole f1 f2 g (xs ((nI j) + (1 : Int32)).toNatClampNeg) (xs ((nI j) + (2 : Int32)).toNatClampNeg) (xs ((nI j) + (3 : Int32)).toNatClampNeg)).2.1), .int ((bf_whole f1 f2 g (xs ((nI j) + (1 : Int32)).toNatClampNeg) (xs ((nI j) + (2 : Int32)).toNatClampNeg) (xs ((nI j) + (3 : Int32)).toNatClampNeg)).2.2.1)])), (aX, .inl (cX, 8, .inr (.inl ((bf_whole f1 f2 g (xs ((nI j) + (1 : Int32)).toNatClampNeg) (xs ((nI j) + (2 : Int32)).toNatClampNeg) (xs ((nI j) + (3 : Int32)).toNatClampNeg)).2.2.2)))), (oM, .inr (1, [.ref aM, .int f1, .int f2, .long f3, .long f4])), (aM, .inl (cM, 8, .inr (.inl g)))] := hD
      obtain ⟨r13, e14⟩ : ∃ r, bf_whole f1 f2 g (xs ((nI j) + (1 : Int32)).toNatClampNeg) (xs ((nI j) + (2 : Int32)).toNatClampNeg) (xs ((nI j) + (3 : Int32)).toNatClampNeg) = r := ⟨_, rfl⟩
      rw [e14] at hP hD ⊢
      refine lv_aload_n hx hb dL_law_239 rfl (lv_at hl 2 rfl) ?_
      refine lv_aload_n hx hb dL_law_240 rfl (lv_at hl 0 rfl) ?_
      refine lv_iload_n hx hb dL_law_241 rfl (lv_at hl 3 rfl) ?_
      refine lv_iconst (v := 1) hx hb dL_law_242 (by decide) ?_
      refine lv_iadd hx hb dL_law_243 ?_
      refine va_sld hx hb hXs hbl hbA hS (wl_in1 hj hL) dL_law_244 ?_
      refine lv_aload_n hx hb dL_law_245 rfl (lv_at hl 0 rfl) ?_
      refine lv_iload_n hx hb dL_law_246 rfl (lv_at hl 3 rfl) ?_
      refine lv_iconst (v := 2) hx hb dL_law_247 (by decide) ?_
      refine lv_iadd hx hb dL_law_248 ?_
      refine va_sld hx hb hXs hbl hbA hS (wl_in2 hj hL) dL_law_249 ?_
      refine lv_aload_n hx hb dL_law_250 rfl (lv_at hl 0 rfl) ?_
      refine lv_iload_n hx hb dL_law_251 rfl (lv_at hl 3 rfl) ?_
      refine lv_iconst (v := 3) hx hb dL_law_252 (by decide) ?_
      refine lv_iadd hx hb dL_law_253 ?_
      refine va_sld hx hb hXs hbl hbA hS (wl_in3 hj hL) dL_law_254 ?_
      refine bw_vi2 (rest := [.int r13.1]) 2 3 1 ⟨hx, hb, hml, hown, hts⟩ (bd_whole l dC dI oM aM cM H.size f1 f2 f3 f4 g (xs ((nI j) + (1 : Int32)).toNatClampNeg) (xs ((nI j) + (2 : Int32)).toNatClampNeg) (xs ((nI j) + (3 : Int32)).toNatClampNeg)) (cwV 3 hts gL_law_X1_whole rfl rfl rfl (by decide +kernel) ⟨Nat.le_of_ble_eq_true rfl, Nat.le_of_ble_eq_true rfl⟩) hK hP hD hS hA (by decide) rfl rfl rfl rfl rfl hl.1 rfl (Nat.le_of_ble_eq_true rfl) dL_law_255 (Nat.le_of_ble_eq_true rfl) (Nat.le_of_ble_eq_true rfl) (fun H locs hP hD hS => ?_)
      have hP : va_P (dC, dI) vwCl [(oX, .inr (0, [.ref aX, .int r13.2.1, .int r13.2.2.1])), (aX, .inl (cX, 8, .inr (.inl r13.2.2.2))), (oM, .inr (1, [.ref aM, .int ((bg_whole f1 f2 f3 f4 g (xs ((nI j) + (1 : Int32)).toNatClampNeg) (xs ((nI j) + (2 : Int32)).toNatClampNeg) (xs ((nI j) + (3 : Int32)).toNatClampNeg)).2.1), .int ((bg_whole f1 f2 f3 f4 g (xs ((nI j) + (1 : Int32)).toNatClampNeg) (xs ((nI j) + (2 : Int32)).toNatClampNeg) (xs ((nI j) + (3 : Int32)).toNatClampNeg)).2.2.1), .long ((bg_whole f1 f2 f3 f4 g (xs ((nI j) + (1 : Int32)).toNatClampNeg) (xs ((nI j) + (2 : Int32)).toNatClampNeg) (xs ((nI j) + (3 : Int32)).toNatClampNeg)).2.2.2.1), .long ((bg_whole f1 f2 f3 f4 g (xs ((nI j) + (1 : Int32)).toNatClampNeg) (xs ((nI j) + (2 : Int32)).toNatClampNeg) (xs ((nI j) + (3 : Int32)).toNatClampNeg)).2.2.2.2.1)])), (aM, .inl (cM, 8, .inr (.inl ((bg_whole f1 f2 f3 f4 g (xs ((nI j) + (1 : Int32)).toNatClampNeg) (xs ((nI j) + (2 : Int32)).toNatClampNeg) (xs ((nI j) + (3 : Int32)).toNatClampNeg)).2.2.2.2.2))))] H := hP
      have hD : va_D A [(oX, .inr (0, [.ref aX, .int r13.2.1, .int r13.2.2.1])), (aX, .inl (cX, 8, .inr (.inl r13.2.2.2))), (oM, .inr (1, [.ref aM, .int ((bg_whole f1 f2 f3 f4 g (xs ((nI j) + (1 : Int32)).toNatClampNeg) (xs ((nI j) + (2 : Int32)).toNatClampNeg) (xs ((nI j) + (3 : Int32)).toNatClampNeg)).2.1), .int ((bg_whole f1 f2 f3 f4 g (xs ((nI j) + (1 : Int32)).toNatClampNeg) (xs ((nI j) + (2 : Int32)).toNatClampNeg) (xs ((nI j) + (3 : Int32)).toNatClampNeg)).2.2.1), .long ((bg_whole f1 f2 f3 f4 g (xs ((nI j) + (1 : Int32)).toNatClampNeg) (xs ((nI j) + (2 : Int32)).toNatClampNeg) (xs ((nI j) + (3 : Int32)).toNatClampNeg)).2.2.2.1), .long ((bg_whole f1 f2 f3 f4 g (xs ((nI j) + (1 : Int32)).toNatClampNeg) (xs ((nI j) + (2 : Int32)).toNatClampNeg) (xs ((nI j) + (3 : Int32)).toNatClampNeg)).2.2.2.2.1)])), (aM, .inl (cM, 8, .inr (.inl ((bg_whole f1 f2 f3 f4 g (xs ((nI j) + (1 : Int32)).toNatClampNeg) (xs ((nI j) + (2 : Int32)).toNatClampNeg) (xs ((nI j) + (3 : Int32)).toNatClampNeg)).2.2.2.2.2))))] := hD
      obtain ⟨r15, e16⟩ : ∃ r, bg_whole f1 f2 f3 f4 g (xs ((nI j) + (1 : Int32)).toNatClampNeg) (xs ((nI j) + (2 : Int32)).toNatClampNeg) (xs ((nI j) + (3 : Int32)).toNatClampNeg) = r := ⟨_, rfl⟩
      rw [e16] at hP hD ⊢
      have hR := bt_whole f1 f2 f3 f4 g (xs ((nI j) + (1 : Int32)).toNatClampNeg) (xs ((nI j) + (2 : Int32)).toNatClampNeg) (xs ((nI j) + (3 : Int32)).toNatClampNeg)
      rw [e14, e16] at hR
      obtain ⟨q1, q2, q3, q4⟩ := hR
      rw [q2, q3, q4] at hP hD
      refine lv_icmp_eq (tgt := 534) hx hb dL_law_258 (by decide) (fun _ => ?_) (fun h => absurd q1 h)
      exact fin r15.2.1 r15.2.2.1 r15.2.2.2.1 r15.2.2.2.2.1 r15.2.2.2.2.2 ls H locs hl hP hD hS
    · refine lv_tableIn (off := 231) (tgt := 263) hx hb dL_law_32 (by decide) (by decide) (by decide) (by decide) ?_
      refine lv_aload_n hx hb dL_law_263 rfl (lv_at hl 1 rfl) ?_
      refine lv_aload_n hx hb dL_law_264 rfl (lv_at hl 0 rfl) ?_
      refine lv_iload_n hx hb dL_law_265 rfl (lv_at hl 3 rfl) ?_
      refine lv_iconst (v := 1) hx hb dL_law_266 (by decide) ?_
      refine lv_iadd hx hb dL_law_267 ?_
      refine va_sld hx hb hXs hbl hbA hS (wl_in1 hj hL) dL_law_268 ?_
      refine lv_aload_n hx hb dL_law_269 rfl (lv_at hl 0 rfl) ?_
      refine lv_iload_n hx hb dL_law_270 rfl (lv_at hl 3 rfl) ?_
      refine lv_iconst (v := 2) hx hb dL_law_271 (by decide) ?_
      refine lv_iadd hx hb dL_law_272 ?_
      refine va_sld hx hb hXs hbl hbA hS (wl_in2 hj hL) dL_law_273 ?_
      refine lv_aload_n hx hb dL_law_274 rfl (lv_at hl 0 rfl) ?_
      refine lv_iload_n hx hb dL_law_275 rfl (lv_at hl 3 rfl) ?_
      refine lv_iconst (v := 3) hx hb dL_law_276 (by decide) ?_
      refine lv_iadd hx hb dL_law_277 ?_
      refine va_sld hx hb hXs hbl hbA hS (wl_in3 hj hL) dL_law_278 ?_
      refine lv_aload_n hx hb dL_law_279 rfl (lv_at hl 0 rfl) ?_
      refine lv_iload_n hx hb dL_law_280 rfl (lv_at hl 3 rfl) ?_
      refine lv_iconst (v := 4) hx hb dL_law_281 (by decide) ?_
      refine lv_iadd hx hb dL_law_282 ?_
      refine va_sld hx hb hXs hbl hbA hS (wl_in4 hj hL) dL_law_283 ?_
      refine lv_if_eq (tgt := 291) hx hb dL_law_284 (by decide) (fun h17 => ?_) (fun h17 => ?_)
      · refine lv_iconst (v := 0) hx hb dL_law_291 (by decide) ?_
        refine bw_vi2 (rest := []) 0 1 0 ⟨hx, hb, hml, hown, hts⟩ (bc_left l dC dI oX aX cX H.size f1 f2 g (xs ((nI j) + (1 : Int32)).toNatClampNeg) (xs ((nI j) + (2 : Int32)).toNatClampNeg) (xs ((nI j) + (3 : Int32)).toNatClampNeg) (0 : Int32)) (cwV 4 hts gL_law_X0_left rfl rfl rfl (by decide +kernel) ⟨Nat.le_of_ble_eq_true rfl, Nat.le_of_ble_eq_true rfl⟩) hK hP hD hS hA (by decide) rfl rfl rfl rfl rfl hl.1 rfl (Nat.le_of_ble_eq_true rfl) dL_law_292 (Nat.le_of_ble_eq_true rfl) (Nat.le_of_ble_eq_true rfl) (fun H locs hP hD hS => ?_)
        have hP : va_P (dC, dI) vwCl [(oX, .inr (0, [.ref aX, .int ((bf_left f1 f2 g (xs ((nI j) + (1 : Int32)).toNatClampNeg) (xs ((nI j) + (2 : Int32)).toNatClampNeg) (xs ((nI j) + (3 : Int32)).toNatClampNeg) (0 : Int32)).2.1), .int ((bf_left f1 f2 g (xs ((nI j) + (1 : Int32)).toNatClampNeg) (xs ((nI j) + (2 : Int32)).toNatClampNeg) (xs ((nI j) + (3 : Int32)).toNatClampNeg) (0 : Int32)).2.2.1)])), (aX, .inl (cX, 8, .inr (.inl ((bf_left f1 f2 g (xs ((nI j) + (1 : Int32)).toNatClampNeg) (xs ((nI j) + (2 : Int32)).toNatClampNeg) (xs ((nI j) + (3 : Int32)).toNatClampNeg) (0 : Int32)).2.2.2)))), (oM, .inr (1, [.ref aM, .int f1, .int f2, .long f3, .long f4])), (aM, .inl (cM, 8, .inr (.inl g)))] H := hP
        have hD : va_D A [(oX, .inr (0, [.ref aX, .int ((bf_left f1 f2 g (xs ((nI j) + (1 : Int32)).toNatClampNeg) (xs ((nI j) + (2 : Int32)).toNatClampNeg) (xs ((nI j) + (3 : Int32)).toNatClampNeg) (0 : Int32)).2.1), .int ((bf_left f1 f2 g (xs ((nI j) + (1 : Int32)).toNatClampNeg) (xs ((nI j) + (2 : Int32)).toNatClampNeg) (xs ((nI j) + (3 : Int32)).toNatClampNeg) (0 : Int32)).2.2.1)])), (aX, .inl (cX, 8, .inr (.inl ((bf_left f1 f2 g (xs ((nI j) + (1 : Int32)).toNatClampNeg) (xs ((nI j) + (2 : Int32)).toNatClampNeg) (xs ((nI j) + (3 : Int32)).toNatClampNeg) (0 : Int32)).2.2.2)))), (oM, .inr (1, [.ref aM, .int f1, .int f2, .long f3, .long f4])), (aM, .inl (cM, 8, .inr (.inl g)))] := hD
        obtain ⟨r18, e19⟩ : ∃ r, bf_left f1 f2 g (xs ((nI j) + (1 : Int32)).toNatClampNeg) (xs ((nI j) + (2 : Int32)).toNatClampNeg) (xs ((nI j) + (3 : Int32)).toNatClampNeg) (0 : Int32) = r := ⟨_, rfl⟩
        rw [e19] at hP hD ⊢
        refine lv_aload_n hx hb dL_law_295 rfl (lv_at hl 2 rfl) ?_
        refine lv_aload_n hx hb dL_law_296 rfl (lv_at hl 0 rfl) ?_
        refine lv_iload_n hx hb dL_law_297 rfl (lv_at hl 3 rfl) ?_
        refine lv_iconst (v := 1) hx hb dL_law_298 (by decide) ?_
        refine lv_iadd hx hb dL_law_299 ?_
        refine va_sld hx hb hXs hbl hbA hS (wl_in1 hj hL) dL_law_300 ?_
        refine lv_aload_n hx hb dL_law_301 rfl (lv_at hl 0 rfl) ?_
        refine lv_iload_n hx hb dL_law_302 rfl (lv_at hl 3 rfl) ?_
        refine lv_iconst (v := 2) hx hb dL_law_303 (by decide) ?_
        refine lv_iadd hx hb dL_law_304 ?_
        refine va_sld hx hb hXs hbl hbA hS (wl_in2 hj hL) dL_law_305 ?_
        refine lv_aload_n hx hb dL_law_306 rfl (lv_at hl 0 rfl) ?_
        refine lv_iload_n hx hb dL_law_307 rfl (lv_at hl 3 rfl) ?_
        refine lv_iconst (v := 3) hx hb dL_law_308 (by decide) ?_
        refine lv_iadd hx hb dL_law_309 ?_
        refine va_sld hx hb hXs hbl hbA hS (wl_in3 hj hL) dL_law_310 ?_
        refine lv_aload_n hx hb dL_law_311 rfl (lv_at hl 0 rfl) ?_
        refine lv_iload_n hx hb dL_law_312 rfl (lv_at hl 3 rfl) ?_
        refine lv_iconst (v := 4) hx hb dL_law_313 (by decide) ?_
        refine lv_iadd hx hb dL_law_314 ?_
        refine va_sld hx hb hXs hbl hbA hS (wl_in4 hj hL) dL_law_315 ?_
        refine lv_if_eq (tgt := 323) hx hb dL_law_316 (by decide) (fun h20 => ?_) (fun h20 => ?_)
        rotate_left
        · exact absurd h17 h20
        refine lv_iconst (v := 0) hx hb dL_law_323 (by decide) ?_
        refine bw_vi2 (rest := [.int r18.1]) 2 3 1 ⟨hx, hb, hml, hown, hts⟩ (bd_left l dC dI oM aM cM H.size f1 f2 f3 f4 g (xs ((nI j) + (1 : Int32)).toNatClampNeg) (xs ((nI j) + (2 : Int32)).toNatClampNeg) (xs ((nI j) + (3 : Int32)).toNatClampNeg) (0 : Int32)) (cwV 4 hts gL_law_X1_left rfl rfl rfl (by decide +kernel) ⟨Nat.le_of_ble_eq_true rfl, Nat.le_of_ble_eq_true rfl⟩) hK hP hD hS hA (by decide) rfl rfl rfl rfl rfl hl.1 rfl (Nat.le_of_ble_eq_true rfl) dL_law_324 (Nat.le_of_ble_eq_true rfl) (Nat.le_of_ble_eq_true rfl) (fun H locs hP hD hS => ?_)
        have hP : va_P (dC, dI) vwCl [(oX, .inr (0, [.ref aX, .int r18.2.1, .int r18.2.2.1])), (aX, .inl (cX, 8, .inr (.inl r18.2.2.2))), (oM, .inr (1, [.ref aM, .int ((bg_left f1 f2 f3 f4 g (xs ((nI j) + (1 : Int32)).toNatClampNeg) (xs ((nI j) + (2 : Int32)).toNatClampNeg) (xs ((nI j) + (3 : Int32)).toNatClampNeg) (0 : Int32)).2.1), .int ((bg_left f1 f2 f3 f4 g (xs ((nI j) + (1 : Int32)).toNatClampNeg) (xs ((nI j) + (2 : Int32)).toNatClampNeg) (xs ((nI j) + (3 : Int32)).toNatClampNeg) (0 : Int32)).2.2.1), .long ((bg_left f1 f2 f3 f4 g (xs ((nI j) + (1 : Int32)).toNatClampNeg) (xs ((nI j) + (2 : Int32)).toNatClampNeg) (xs ((nI j) + (3 : Int32)).toNatClampNeg) (0 : Int32)).2.2.2.1), .long ((bg_left f1 f2 f3 f4 g (xs ((nI j) + (1 : Int32)).toNatClampNeg) (xs ((nI j) + (2 : Int32)).toNatClampNeg) (xs ((nI j) + (3 : Int32)).toNatClampNeg) (0 : Int32)).2.2.2.2.1)])), (aM, .inl (cM, 8, .inr (.inl ((bg_left f1 f2 f3 f4 g (xs ((nI j) + (1 : Int32)).toNatClampNeg) (xs ((nI j) + (2 : Int32)).toNatClampNeg) (xs ((nI j) + (3 : Int32)).toNatClampNeg) (0 : Int32)).2.2.2.2.2))))] H := hP
        have hD : va_D A [(oX, .inr (0, [.ref aX, .int r18.2.1, .int r18.2.2.1])), (aX, .inl (cX, 8, .inr (.inl r18.2.2.2))), (oM, .inr (1, [.ref aM, .int ((bg_left f1 f2 f3 f4 g (xs ((nI j) + (1 : Int32)).toNatClampNeg) (xs ((nI j) + (2 : Int32)).toNatClampNeg) (xs ((nI j) + (3 : Int32)).toNatClampNeg) (0 : Int32)).2.1), .int ((bg_left f1 f2 f3 f4 g (xs ((nI j) + (1 : Int32)).toNatClampNeg) (xs ((nI j) + (2 : Int32)).toNatClampNeg) (xs ((nI j) + (3 : Int32)).toNatClampNeg) (0 : Int32)).2.2.1), .long ((bg_left f1 f2 f3 f4 g (xs ((nI j) + (1 : Int32)).toNatClampNeg) (xs ((nI j) + (2 : Int32)).toNatClampNeg) (xs ((nI j) + (3 : Int32)).toNatClampNeg) (0 : Int32)).2.2.2.1), .long ((bg_left f1 f2 f3 f4 g (xs ((nI j) + (1 : Int32)).toNatClampNeg) (xs ((nI j) + (2 : Int32)).toNatClampNeg) (xs ((nI j) + (3 : Int32)).toNatClampNeg) (0 : Int32)).2.2.2.2.1)])), (aM, .inl (cM, 8, .inr (.inl ((bg_left f1 f2 f3 f4 g (xs ((nI j) + (1 : Int32)).toNatClampNeg) (xs ((nI j) + (2 : Int32)).toNatClampNeg) (xs ((nI j) + (3 : Int32)).toNatClampNeg) (0 : Int32)).2.2.2.2.2))))] := hD
        obtain ⟨r21, e22⟩ : ∃ r, bg_left f1 f2 f3 f4 g (xs ((nI j) + (1 : Int32)).toNatClampNeg) (xs ((nI j) + (2 : Int32)).toNatClampNeg) (xs ((nI j) + (3 : Int32)).toNatClampNeg) (0 : Int32) = r := ⟨_, rfl⟩
        rw [e22] at hP hD ⊢
        have hR := bt_left f1 f2 f3 f4 g (xs ((nI j) + (1 : Int32)).toNatClampNeg) (xs ((nI j) + (2 : Int32)).toNatClampNeg) (xs ((nI j) + (3 : Int32)).toNatClampNeg) (0 : Int32)
        rw [e19, e22] at hR
        obtain ⟨q1, q2, q3, q4⟩ := hR
        rw [q2, q3, q4] at hP hD
        refine lv_icmp_eq (tgt := 534) hx hb dL_law_327 (by decide) (fun _ => ?_) (fun h => absurd q1 h)
        exact fin r21.2.1 r21.2.2.1 r21.2.2.2.1 r21.2.2.2.2.1 r21.2.2.2.2.2 ls H locs hl hP hD hS
      · refine lv_iconst (v := 1) hx hb dL_law_287 (by decide) ?_
        refine lv_goto (tgt := 292) hx hb dL_law_288 (by decide) ?_
        refine bw_vi2 (rest := []) 0 1 0 ⟨hx, hb, hml, hown, hts⟩ (bc_left l dC dI oX aX cX H.size f1 f2 g (xs ((nI j) + (1 : Int32)).toNatClampNeg) (xs ((nI j) + (2 : Int32)).toNatClampNeg) (xs ((nI j) + (3 : Int32)).toNatClampNeg) (1 : Int32)) (cwV 4 hts gL_law_X0_left rfl rfl rfl (by decide +kernel) ⟨Nat.le_of_ble_eq_true rfl, Nat.le_of_ble_eq_true rfl⟩) hK hP hD hS hA (by decide) rfl rfl rfl rfl rfl hl.1 rfl (Nat.le_of_ble_eq_true rfl) dL_law_292 (Nat.le_of_ble_eq_true rfl) (Nat.le_of_ble_eq_true rfl) (fun H locs hP hD hS => ?_)
        have hP : va_P (dC, dI) vwCl [(oX, .inr (0, [.ref aX, .int ((bf_left f1 f2 g (xs ((nI j) + (1 : Int32)).toNatClampNeg) (xs ((nI j) + (2 : Int32)).toNatClampNeg) (xs ((nI j) + (3 : Int32)).toNatClampNeg) (1 : Int32)).2.1), .int ((bf_left f1 f2 g (xs ((nI j) + (1 : Int32)).toNatClampNeg) (xs ((nI j) + (2 : Int32)).toNatClampNeg) (xs ((nI j) + (3 : Int32)).toNatClampNeg) (1 : Int32)).2.2.1)])), (aX, .inl (cX, 8, .inr (.inl ((bf_left f1 f2 g (xs ((nI j) + (1 : Int32)).toNatClampNeg) (xs ((nI j) + (2 : Int32)).toNatClampNeg) (xs ((nI j) + (3 : Int32)).toNatClampNeg) (1 : Int32)).2.2.2)))), (oM, .inr (1, [.ref aM, .int f1, .int f2, .long f3, .long f4])), (aM, .inl (cM, 8, .inr (.inl g)))] H := hP
        have hD : va_D A [(oX, .inr (0, [.ref aX, .int ((bf_left f1 f2 g (xs ((nI j) + (1 : Int32)).toNatClampNeg) (xs ((nI j) + (2 : Int32)).toNatClampNeg) (xs ((nI j) + (3 : Int32)).toNatClampNeg) (1 : Int32)).2.1), .int ((bf_left f1 f2 g (xs ((nI j) + (1 : Int32)).toNatClampNeg) (xs ((nI j) + (2 : Int32)).toNatClampNeg) (xs ((nI j) + (3 : Int32)).toNatClampNeg) (1 : Int32)).2.2.1)])), (aX, .inl (cX, 8, .inr (.inl ((bf_left f1 f2 g (xs ((nI j) + (1 : Int32)).toNatClampNeg) (xs ((nI j) + (2 : Int32)).toNatClampNeg) (xs ((nI j) + (3 : Int32)).toNatClampNeg) (1 : Int32)).2.2.2)))), (oM, .inr (1, [.ref aM, .int f1, .int f2, .long f3, .long f4])), (aM, .inl (cM, 8, .inr (.inl g)))] := hD
        obtain ⟨r23, e24⟩ : ∃ r, bf_left f1 f2 g (xs ((nI j) + (1 : Int32)).toNatClampNeg) (xs ((nI j) + (2 : Int32)).toNatClampNeg) (xs ((nI j) + (3 : Int32)).toNatClampNeg) (1 : Int32) = r := ⟨_, rfl⟩
        rw [e24] at hP hD ⊢
        refine lv_aload_n hx hb dL_law_295 rfl (lv_at hl 2 rfl) ?_
        refine lv_aload_n hx hb dL_law_296 rfl (lv_at hl 0 rfl) ?_
        refine lv_iload_n hx hb dL_law_297 rfl (lv_at hl 3 rfl) ?_
        refine lv_iconst (v := 1) hx hb dL_law_298 (by decide) ?_
        refine lv_iadd hx hb dL_law_299 ?_
        refine va_sld hx hb hXs hbl hbA hS (wl_in1 hj hL) dL_law_300 ?_
        refine lv_aload_n hx hb dL_law_301 rfl (lv_at hl 0 rfl) ?_
        refine lv_iload_n hx hb dL_law_302 rfl (lv_at hl 3 rfl) ?_
        refine lv_iconst (v := 2) hx hb dL_law_303 (by decide) ?_
        refine lv_iadd hx hb dL_law_304 ?_
        refine va_sld hx hb hXs hbl hbA hS (wl_in2 hj hL) dL_law_305 ?_
        refine lv_aload_n hx hb dL_law_306 rfl (lv_at hl 0 rfl) ?_
        refine lv_iload_n hx hb dL_law_307 rfl (lv_at hl 3 rfl) ?_
        refine lv_iconst (v := 3) hx hb dL_law_308 (by decide) ?_
        refine lv_iadd hx hb dL_law_309 ?_
        refine va_sld hx hb hXs hbl hbA hS (wl_in3 hj hL) dL_law_310 ?_
        refine lv_aload_n hx hb dL_law_311 rfl (lv_at hl 0 rfl) ?_
        refine lv_iload_n hx hb dL_law_312 rfl (lv_at hl 3 rfl) ?_
        refine lv_iconst (v := 4) hx hb dL_law_313 (by decide) ?_
        refine lv_iadd hx hb dL_law_314 ?_
        refine va_sld hx hb hXs hbl hbA hS (wl_in4 hj hL) dL_law_315 ?_
        refine lv_if_eq (tgt := 323) hx hb dL_law_316 (by decide) (fun h25 => ?_) (fun h25 => ?_)
        · exact absurd h25 h17
        refine lv_iconst (v := 1) hx hb dL_law_319 (by decide) ?_
        refine lv_goto (tgt := 324) hx hb dL_law_320 (by decide) ?_
        refine bw_vi2 (rest := [.int r23.1]) 2 3 1 ⟨hx, hb, hml, hown, hts⟩ (bd_left l dC dI oM aM cM H.size f1 f2 f3 f4 g (xs ((nI j) + (1 : Int32)).toNatClampNeg) (xs ((nI j) + (2 : Int32)).toNatClampNeg) (xs ((nI j) + (3 : Int32)).toNatClampNeg) (1 : Int32)) (cwV 4 hts gL_law_X1_left rfl rfl rfl (by decide +kernel) ⟨Nat.le_of_ble_eq_true rfl, Nat.le_of_ble_eq_true rfl⟩) hK hP hD hS hA (by decide) rfl rfl rfl rfl rfl hl.1 rfl (Nat.le_of_ble_eq_true rfl) dL_law_324 (Nat.le_of_ble_eq_true rfl) (Nat.le_of_ble_eq_true rfl) (fun H locs hP hD hS => ?_)
        have hP : va_P (dC, dI) vwCl [(oX, .inr (0, [.ref aX, .int r23.2.1, .int r23.2.2.1])), (aX, .inl (cX, 8, .inr (.inl r23.2.2.2))), (oM, .inr (1, [.ref aM, .int ((bg_left f1 f2 f3 f4 g (xs ((nI j) + (1 : Int32)).toNatClampNeg) (xs ((nI j) + (2 : Int32)).toNatClampNeg) (xs ((nI j) + (3 : Int32)).toNatClampNeg) (1 : Int32)).2.1), .int ((bg_left f1 f2 f3 f4 g (xs ((nI j) + (1 : Int32)).toNatClampNeg) (xs ((nI j) + (2 : Int32)).toNatClampNeg) (xs ((nI j) + (3 : Int32)).toNatClampNeg) (1 : Int32)).2.2.1), .long ((bg_left f1 f2 f3 f4 g (xs ((nI j) + (1 : Int32)).toNatClampNeg) (xs ((nI j) + (2 : Int32)).toNatClampNeg) (xs ((nI j) + (3 : Int32)).toNatClampNeg) (1 : Int32)).2.2.2.1), .long ((bg_left f1 f2 f3 f4 g (xs ((nI j) + (1 : Int32)).toNatClampNeg) (xs ((nI j) + (2 : Int32)).toNatClampNeg) (xs ((nI j) + (3 : Int32)).toNatClampNeg) (1 : Int32)).2.2.2.2.1)])), (aM, .inl (cM, 8, .inr (.inl ((bg_left f1 f2 f3 f4 g (xs ((nI j) + (1 : Int32)).toNatClampNeg) (xs ((nI j) + (2 : Int32)).toNatClampNeg) (xs ((nI j) + (3 : Int32)).toNatClampNeg) (1 : Int32)).2.2.2.2.2))))] H := hP
        have hD : va_D A [(oX, .inr (0, [.ref aX, .int r23.2.1, .int r23.2.2.1])), (aX, .inl (cX, 8, .inr (.inl r23.2.2.2))), (oM, .inr (1, [.ref aM, .int ((bg_left f1 f2 f3 f4 g (xs ((nI j) + (1 : Int32)).toNatClampNeg) (xs ((nI j) + (2 : Int32)).toNatClampNeg) (xs ((nI j) + (3 : Int32)).toNatClampNeg) (1 : Int32)).2.1), .int ((bg_left f1 f2 f3 f4 g (xs ((nI j) + (1 : Int32)).toNatClampNeg) (xs ((nI j) + (2 : Int32)).toNatClampNeg) (xs ((nI j) + (3 : Int32)).toNatClampNeg) (1 : Int32)).2.2.1), .long ((bg_left f1 f2 f3 f4 g (xs ((nI j) + (1 : Int32)).toNatClampNeg) (xs ((nI j) + (2 : Int32)).toNatClampNeg) (xs ((nI j) + (3 : Int32)).toNatClampNeg) (1 : Int32)).2.2.2.1), .long ((bg_left f1 f2 f3 f4 g (xs ((nI j) + (1 : Int32)).toNatClampNeg) (xs ((nI j) + (2 : Int32)).toNatClampNeg) (xs ((nI j) + (3 : Int32)).toNatClampNeg) (1 : Int32)).2.2.2.2.1)])), (aM, .inl (cM, 8, .inr (.inl ((bg_left f1 f2 f3 f4 g (xs ((nI j) + (1 : Int32)).toNatClampNeg) (xs ((nI j) + (2 : Int32)).toNatClampNeg) (xs ((nI j) + (3 : Int32)).toNatClampNeg) (1 : Int32)).2.2.2.2.2))))] := hD
        obtain ⟨r26, e27⟩ : ∃ r, bg_left f1 f2 f3 f4 g (xs ((nI j) + (1 : Int32)).toNatClampNeg) (xs ((nI j) + (2 : Int32)).toNatClampNeg) (xs ((nI j) + (3 : Int32)).toNatClampNeg) (1 : Int32) = r := ⟨_, rfl⟩
        rw [e27] at hP hD ⊢
        have hR := bt_left f1 f2 f3 f4 g (xs ((nI j) + (1 : Int32)).toNatClampNeg) (xs ((nI j) + (2 : Int32)).toNatClampNeg) (xs ((nI j) + (3 : Int32)).toNatClampNeg) (1 : Int32)
        rw [e24, e27] at hR
        obtain ⟨q1, q2, q3, q4⟩ := hR
        rw [q2, q3, q4] at hP hD
        refine lv_icmp_eq (tgt := 534) hx hb dL_law_327 (by decide) (fun _ => ?_) (fun h => absurd q1 h)
        exact fin r26.2.1 r26.2.2.1 r26.2.2.2.1 r26.2.2.2.2.1 r26.2.2.2.2.2 ls H locs hl hP hD hS
    · refine lv_tableIn (off := 300) (tgt := 332) hx hb dL_law_32 (by decide) (by decide) (by decide) (by decide) ?_
      refine lv_aload_n hx hb dL_law_332 rfl (lv_at hl 1 rfl) ?_
      refine bw_vi2 (rest := []) 0 1 0 ⟨hx, hb, hml, hown, hts⟩ (bc_quotient l dC dI oX aX cX H.size f1 f2 g) (cwV 0 hts gL_law_X0_quotient rfl rfl rfl (by decide +kernel) ⟨Nat.le_of_ble_eq_true rfl, Nat.le_of_ble_eq_true rfl⟩) hK hP hD hS hA (by decide) rfl rfl rfl rfl rfl hl.1 rfl (Nat.le_of_ble_eq_true rfl) dL_law_333 (Nat.le_of_ble_eq_true rfl) (Nat.le_of_ble_eq_true rfl) (fun H locs hP hD hS => ?_)
      have hP : va_P (dC, dI) vwCl [(oX, .inr (0, [.ref aX, .int ((bf_quotient f1 f2 g).2.1), .int ((bf_quotient f1 f2 g).2.2.1)])), (aX, .inl (cX, 8, .inr (.inl ((bf_quotient f1 f2 g).2.2.2)))), (oM, .inr (1, [.ref aM, .int f1, .int f2, .long f3, .long f4])), (aM, .inl (cM, 8, .inr (.inl g)))] H := hP
      have hD : va_D A [(oX, .inr (0, [.ref aX, .int ((bf_quotient f1 f2 g).2.1), .int ((bf_quotient f1 f2 g).2.2.1)])), (aX, .inl (cX, 8, .inr (.inl ((bf_quotient f1 f2 g).2.2.2)))), (oM, .inr (1, [.ref aM, .int f1, .int f2, .long f3, .long f4])), (aM, .inl (cM, 8, .inr (.inl g)))] := hD
      obtain ⟨r28, e29⟩ : ∃ r, bf_quotient f1 f2 g = r := ⟨_, rfl⟩
      rw [e29] at hP hD ⊢
      refine lv_aload_n hx hb dL_law_336 rfl (lv_at hl 2 rfl) ?_
      refine bw_vi2 (rest := [.int r28.1]) 2 3 1 ⟨hx, hb, hml, hown, hts⟩ (bd_quotient l dC dI oM aM cM H.size f1 f2 f3 f4 g) (cwV 0 hts gL_law_X1_quotient rfl rfl rfl (by decide +kernel) ⟨Nat.le_of_ble_eq_true rfl, Nat.le_of_ble_eq_true rfl⟩) hK hP hD hS hA (by decide) rfl rfl rfl rfl rfl hl.1 rfl (Nat.le_of_ble_eq_true rfl) dL_law_337 (Nat.le_of_ble_eq_true rfl) (Nat.le_of_ble_eq_true rfl) (fun H locs hP hD hS => ?_)
      have hP : va_P (dC, dI) vwCl [(oX, .inr (0, [.ref aX, .int r28.2.1, .int r28.2.2.1])), (aX, .inl (cX, 8, .inr (.inl r28.2.2.2))), (oM, .inr (1, [.ref aM, .int ((bg_quotient f1 f2 f3 f4 g).2.1), .int ((bg_quotient f1 f2 f3 f4 g).2.2.1), .long ((bg_quotient f1 f2 f3 f4 g).2.2.2.1), .long ((bg_quotient f1 f2 f3 f4 g).2.2.2.2.1)])), (aM, .inl (cM, 8, .inr (.inl ((bg_quotient f1 f2 f3 f4 g).2.2.2.2.2))))] H := hP
      have hD : va_D A [(oX, .inr (0, [.ref aX, .int r28.2.1, .int r28.2.2.1])), (aX, .inl (cX, 8, .inr (.inl r28.2.2.2))), (oM, .inr (1, [.ref aM, .int ((bg_quotient f1 f2 f3 f4 g).2.1), .int ((bg_quotient f1 f2 f3 f4 g).2.2.1), .long ((bg_quotient f1 f2 f3 f4 g).2.2.2.1), .long ((bg_quotient f1 f2 f3 f4 g).2.2.2.2.1)])), (aM, .inl (cM, 8, .inr (.inl ((bg_quotient f1 f2 f3 f4 g).2.2.2.2.2))))] := hD
      obtain ⟨r30, e31⟩ : ∃ r, bg_quotient f1 f2 f3 f4 g = r := ⟨_, rfl⟩
      rw [e31] at hP hD ⊢
      have hR := bt_quotient f1 f2 f3 f4 g
      rw [e29, e31] at hR
      obtain ⟨q1, q2, q3, q4⟩ := hR
      rw [q2, q3, q4] at hP hD
      refine lv_icmp_eq (tgt := 534) hx hb dL_law_340 (by decide) (fun _ => ?_) (fun h => absurd q1 h)
      exact fin r30.2.1 r30.2.2.1 r30.2.2.2.1 r30.2.2.2.2.1 r30.2.2.2.2.2 ls H locs hl hP hD hS
    · refine lv_tableIn (off := 313) (tgt := 345) hx hb dL_law_32 (by decide) (by decide) (by decide) (by decide) ?_
      refine lv_aload_n hx hb dL_law_345 rfl (lv_at hl 1 rfl) ?_
      refine lv_aload_n hx hb dL_law_346 rfl (lv_at hl 0 rfl) ?_
      refine lv_iload_n hx hb dL_law_347 rfl (lv_at hl 3 rfl) ?_
      refine lv_iconst (v := 1) hx hb dL_law_348 (by decide) ?_
      refine lv_iadd hx hb dL_law_349 ?_
      refine va_sld hx hb hXs hbl hbA hS (wl_in1 hj hL) dL_law_350 ?_
      refine lv_aload_n hx hb dL_law_351 rfl (lv_at hl 0 rfl) ?_
      refine lv_iload_n hx hb dL_law_352 rfl (lv_at hl 3 rfl) ?_
      refine lv_iconst (v := 2) hx hb dL_law_353 (by decide) ?_
      refine lv_iadd hx hb dL_law_354 ?_
      refine va_sld hx hb hXs hbl hbA hS (wl_in2 hj hL) dL_law_355 ?_
      refine lv_aload_n hx hb dL_law_356 rfl (lv_at hl 0 rfl) ?_
      refine lv_iload_n hx hb dL_law_357 rfl (lv_at hl 3 rfl) ?_
      refine lv_iconst (v := 3) hx hb dL_law_358 (by decide) ?_
      refine lv_iadd hx hb dL_law_359 ?_
      refine va_sld hx hb hXs hbl hbA hS (wl_in3 hj hL) dL_law_360 ?_
      refine bw_vi2 (rest := []) 0 1 0 ⟨hx, hb, hml, hown, hts⟩ (bc_neighbour l dC dI oX aX cX H.size f1 f2 g (xs ((nI j) + (1 : Int32)).toNatClampNeg) (xs ((nI j) + (2 : Int32)).toNatClampNeg) (xs ((nI j) + (3 : Int32)).toNatClampNeg)) (cwV 3 hts gL_law_X0_neighbour rfl rfl rfl (by decide +kernel) ⟨Nat.le_of_ble_eq_true rfl, Nat.le_of_ble_eq_true rfl⟩) hK hP hD hS hA (by decide) rfl rfl rfl rfl rfl hl.1 rfl (Nat.le_of_ble_eq_true rfl) dL_law_361 (Nat.le_of_ble_eq_true rfl) (Nat.le_of_ble_eq_true rfl) (fun H locs hP hD hS => ?_)
      have hP : va_P (dC, dI) vwCl [(oX, .inr (0, [.ref aX, .int ((bf_neighbour f1 f2 g (xs ((nI j) + (1 : Int32)).toNatClampNeg) (xs ((nI j) + (2 : Int32)).toNatClampNeg) (xs ((nI j) + (3 : Int32)).toNatClampNeg)).2.1), .int ((bf_neighbour f1 f2 g (xs ((nI j) + (1 : Int32)).toNatClampNeg) (xs ((nI j) + (2 : Int32)).toNatClampNeg) (xs ((nI j) + (3 : Int32)).toNatClampNeg)).2.2.1)])), (aX, .inl (cX, 8, .inr (.inl ((bf_neighbour f1 f2 g (xs ((nI j) + (1 : Int32)).toNatClampNeg) (xs ((nI j) + (2 : Int32)).toNatClampNeg) (xs ((nI j) + (3 : Int32)).toNatClampNeg)).2.2.2)))), (oM, .inr (1, [.ref aM, .int f1, .int f2, .long f3, .long f4])), (aM, .inl (cM, 8, .inr (.inl g)))] H := hP
      have hD : va_D A [(oX, .inr (0, [.ref aX, .int ((bf_neighbour f1 f2 g (xs ((nI j) + (1 : Int32)).toNatClampNeg) (xs ((nI j) + (2 : Int32)).toNatClampNeg) (xs ((nI j) + (3 : Int32)).toNatClampNeg)).2.1), .int ((bf_neighbour f1 f2 g (xs ((nI j) + (1 : Int32)).toNatClampNeg) (xs ((nI j) + (2 : Int32)).toNatClampNeg) (xs ((nI j) + (3 : Int32)).toNatClampNeg)).2.2.1)])), (aX, .inl (cX, 8, .inr (.inl ((bf_neighbour f1 f2 g (xs ((nI j) + (1 : Int32)).toNatClampNeg) (xs ((nI j) + (2 : Int32)).toNatClampNeg) (xs ((nI j) + (3 : Int32)).toNatClampNeg)).2.2.2)))), (oM, .inr (1, [.ref aM, .int f1, .int f2, .long f3, .long f4])), (aM, .inl (cM, 8, .inr (.inl g)))] := hD
      obtain ⟨r32, e33⟩ : ∃ r, bf_neighbour f1 f2 g (xs ((nI j) + (1 : Int32)).toNatClampNeg) (xs ((nI j) + (2 : Int32)).toNatClampNeg) (xs ((nI j) + (3 : Int32)).toNatClampNeg) = r := ⟨_, rfl⟩
      rw [e33] at hP hD ⊢
      refine lv_aload_n hx hb dL_law_364 rfl (lv_at hl 2 rfl) ?_
      refine lv_aload_n hx hb dL_law_365 rfl (lv_at hl 0 rfl) ?_
      refine lv_iload_n hx hb dL_law_366 rfl (lv_at hl 3 rfl) ?_
      refine lv_iconst (v := 1) hx hb dL_law_367 (by decide) ?_
      refine lv_iadd hx hb dL_law_368 ?_
      refine va_sld hx hb hXs hbl hbA hS (wl_in1 hj hL) dL_law_369 ?_
      refine lv_aload_n hx hb dL_law_370 rfl (lv_at hl 0 rfl) ?_
      refine lv_iload_n hx hb dL_law_371 rfl (lv_at hl 3 rfl) ?_
      refine lv_iconst (v := 2) hx hb dL_law_372 (by decide) ?_
      refine lv_iadd hx hb dL_law_373 ?_
      refine va_sld hx hb hXs hbl hbA hS (wl_in2 hj hL) dL_law_374 ?_
      refine lv_aload_n hx hb dL_law_375 rfl (lv_at hl 0 rfl) ?_
      refine lv_iload_n hx hb dL_law_376 rfl (lv_at hl 3 rfl) ?_
      refine lv_iconst (v := 3) hx hb dL_law_377 (by decide) ?_
      refine lv_iadd hx hb dL_law_378 ?_
      refine va_sld hx hb hXs hbl hbA hS (wl_in3 hj hL) dL_law_379 ?_
      refine bw_vi2 (rest := [.int r32.1]) 2 3 1 ⟨hx, hb, hml, hown, hts⟩ (bd_neighbour l dC dI oM aM cM H.size f1 f2 f3 f4 g (xs ((nI j) + (1 : Int32)).toNatClampNeg) (xs ((nI j) + (2 : Int32)).toNatClampNeg) (xs ((nI j) + (3 : Int32)).toNatClampNeg)) (cwV 3 hts gL_law_X1_neighbour rfl rfl rfl (by decide +kernel) ⟨Nat.le_of_ble_eq_true rfl, Nat.le_of_ble_eq_true rfl⟩) hK hP hD hS hA (by decide) rfl rfl rfl rfl rfl hl.1 rfl (Nat.le_of_ble_eq_true rfl) dL_law_380 (Nat.le_of_ble_eq_true rfl) (Nat.le_of_ble_eq_true rfl) (fun H locs hP hD hS => ?_)
      have hP : va_P (dC, dI) vwCl [(oX, .inr (0, [.ref aX, .int r32.2.1, .int r32.2.2.1])), (aX, .inl (cX, 8, .inr (.inl r32.2.2.2))), (oM, .inr (1, [.ref aM, .int ((bg_neighbour f1 f2 f3 f4 g (xs ((nI j) + (1 : Int32)).toNatClampNeg) (xs ((nI j) + (2 : Int32)).toNatClampNeg) (xs ((nI j) + (3 : Int32)).toNatClampNeg)).2.1), .int ((bg_neighbour f1 f2 f3 f4 g (xs ((nI j) + (1 : Int32)).toNatClampNeg) (xs ((nI j) + (2 : Int32)).toNatClampNeg) (xs ((nI j) + (3 : Int32)).toNatClampNeg)).2.2.1), .long ((bg_neighbour f1 f2 f3 f4 g (xs ((nI j) + (1 : Int32)).toNatClampNeg) (xs ((nI j) + (2 : Int32)).toNatClampNeg) (xs ((nI j) + (3 : Int32)).toNatClampNeg)).2.2.2.1), .long ((bg_neighbour f1 f2 f3 f4 g (xs ((nI j) + (1 : Int32)).toNatClampNeg) (xs ((nI j) + (2 : Int32)).toNatClampNeg) (xs ((nI j) + (3 : Int32)).toNatClampNeg)).2.2.2.2.1)])), (aM, .inl (cM, 8, .inr (.inl ((bg_neighbour f1 f2 f3 f4 g (xs ((nI j) + (1 : Int32)).toNatClampNeg) (xs ((nI j) + (2 : Int32)).toNatClampNeg) (xs ((nI j) + (3 : Int32)).toNatClampNeg)).2.2.2.2.2))))] H := hP
      have hD : va_D A [(oX, .inr (0, [.ref aX, .int r32.2.1, .int r32.2.2.1])), (aX, .inl (cX, 8, .inr (.inl r32.2.2.2))), (oM, .inr (1, [.ref aM, .int ((bg_neighbour f1 f2 f3 f4 g (xs ((nI j) + (1 : Int32)).toNatClampNeg) (xs ((nI j) + (2 : Int32)).toNatClampNeg) (xs ((nI j) + (3 : Int32)).toNatClampNeg)).2.1), .int ((bg_neighbour f1 f2 f3 f4 g (xs ((nI j) + (1 : Int32)).toNatClampNeg) (xs ((nI j) + (2 : Int32)).toNatClampNeg) (xs ((nI j) + (3 : Int32)).toNatClampNeg)).2.2.1), .long ((bg_neighbour f1 f2 f3 f4 g (xs ((nI j) + (1 : Int32)).toNatClampNeg) (xs ((nI j) + (2 : Int32)).toNatClampNeg) (xs ((nI j) + (3 : Int32)).toNatClampNeg)).2.2.2.1), .long ((bg_neighbour f1 f2 f3 f4 g (xs ((nI j) + (1 : Int32)).toNatClampNeg) (xs ((nI j) + (2 : Int32)).toNatClampNeg) (xs ((nI j) + (3 : Int32)).toNatClampNeg)).2.2.2.2.1)])), (aM, .inl (cM, 8, .inr (.inl ((bg_neighbour f1 f2 f3 f4 g (xs ((nI j) + (1 : Int32)).toNatClampNeg) (xs ((nI j) + (2 : Int32)).toNatClampNeg) (xs ((nI j) + (3 : Int32)).toNatClampNeg)).2.2.2.2.2))))] := hD
      obtain ⟨r34, e35⟩ : ∃ r, bg_neighbour f1 f2 f3 f4 g (xs ((nI j) + (1 : Int32)).toNatClampNeg) (xs ((nI j) + (2 : Int32)).toNatClampNeg) (xs ((nI j) + (3 : Int32)).toNatClampNeg) = r := ⟨_, rfl⟩
      rw [e35] at hP hD ⊢
      have hR := bt_neighbour f1 f2 f3 f4 g (xs ((nI j) + (1 : Int32)).toNatClampNeg) (xs ((nI j) + (2 : Int32)).toNatClampNeg) (xs ((nI j) + (3 : Int32)).toNatClampNeg)
      rw [e33, e35] at hR
      obtain ⟨q1, q2, q3, q4⟩ := hR
      rw [q2, q3, q4] at hP hD
      refine lv_icmp_eq (tgt := 534) hx hb dL_law_383 (by decide) (fun _ => ?_) (fun h => absurd q1 h)
      exact fin r34.2.1 r34.2.2.1 r34.2.2.2.1 r34.2.2.2.2.1 r34.2.2.2.2.2 ls H locs hl hP hD hS
    · refine lv_tableIn (off := 356) (tgt := 388) hx hb dL_law_32 (by decide) (by decide) (by decide) (by decide) ?_
      refine lv_aload_n hx hb dL_law_388 rfl (lv_at hl 1 rfl) ?_
      refine lv_aload_n hx hb dL_law_389 rfl (lv_at hl 0 rfl) ?_
      refine lv_iload_n hx hb dL_law_390 rfl (lv_at hl 3 rfl) ?_
      refine lv_iconst (v := 1) hx hb dL_law_391 (by decide) ?_
      refine lv_iadd hx hb dL_law_392 ?_
      refine va_sld hx hb hXs hbl hbA hS (wl_in1 hj hL) dL_law_393 ?_
      refine lv_aload_n hx hb dL_law_394 rfl (lv_at hl 0 rfl) ?_
      refine lv_iload_n hx hb dL_law_395 rfl (lv_at hl 3 rfl) ?_
      refine lv_iconst (v := 2) hx hb dL_law_396 (by decide) ?_
      refine lv_iadd hx hb dL_law_397 ?_
      refine va_sld hx hb hXs hbl hbA hS (wl_in2 hj hL) dL_law_398 ?_
      refine lv_aload_n hx hb dL_law_399 rfl (lv_at hl 0 rfl) ?_
      refine lv_iload_n hx hb dL_law_400 rfl (lv_at hl 3 rfl) ?_
      refine lv_iconst (v := 3) hx hb dL_law_401 (by decide) ?_
      refine lv_iadd hx hb dL_law_402 ?_
      refine va_sld hx hb hXs hbl hbA hS (wl_in3 hj hL) dL_law_403 ?_
      refine bw_vi2 (rest := []) 0 1 0 ⟨hx, hb, hml, hown, hts⟩ (bc_scale l dC dI oX aX cX H.size f1 f2 g (xs ((nI j) + (1 : Int32)).toNatClampNeg) (xs ((nI j) + (2 : Int32)).toNatClampNeg) (xs ((nI j) + (3 : Int32)).toNatClampNeg)) (cwV 3 hts gL_law_X0_scale rfl rfl rfl (by decide +kernel) ⟨Nat.le_of_ble_eq_true rfl, Nat.le_of_ble_eq_true rfl⟩) hK hP hD hS hA (by decide) rfl rfl rfl rfl rfl hl.1 rfl (Nat.le_of_ble_eq_true rfl) dL_law_404 (Nat.le_of_ble_eq_true rfl) (Nat.le_of_ble_eq_true rfl) (fun H locs hP hD hS => ?_)
      have hP : va_P (dC, dI) vwCl [(oX, .inr (0, [.ref aX, .int ((bf_scale f1 f2 g (xs ((nI j) + (1 : Int32)).toNatClampNeg) (xs ((nI j) + (2 : Int32)).toNatClampNeg) (xs ((nI j) + (3 : Int32)).toNatClampNeg)).2.1), .int ((bf_scale f1 f2 g (xs ((nI j) + (1 : Int32)).toNatClampNeg) (xs ((nI j) + (2 : Int32)).toNatClampNeg) (xs ((nI j) + (3 : Int32)).toNatClampNeg)).2.2.1)])), (aX, .inl (cX, 8, .inr (.inl ((bf_scale f1 f2 g (xs ((nI j) + (1 : Int32)).toNatClampNeg) (xs ((nI j) + (2 : Int32)).toNatClampNeg) (xs ((nI j) + (3 : Int32)).toNatClampNeg)).2.2.2)))), (oM, .inr (1, [.ref aM, .int f1, .int f2, .long f3, .long f4])), (aM, .inl (cM, 8, .inr (.inl g)))] H := hP
      have hD : va_D A [(oX, .inr (0, [.ref aX, .int ((bf_scale f1 f2 g (xs ((nI j) + (1 : Int32)).toNatClampNeg) (xs ((nI j) + (2 : Int32)).toNatClampNeg) (xs ((nI j) + (3 : Int32)).toNatClampNeg)).2.1), .int ((bf_scale f1 f2 g (xs ((nI j) + (1 : Int32)).toNatClampNeg) (xs ((nI j) + (2 : Int32)).toNatClampNeg) (xs ((nI j) + (3 : Int32)).toNatClampNeg)).2.2.1)])), (aX, .inl (cX, 8, .inr (.inl ((bf_scale f1 f2 g (xs ((nI j) + (1 : Int32)).toNatClampNeg) (xs ((nI j) + (2 : Int32)).toNatClampNeg) (xs ((nI j) + (3 : Int32)).toNatClampNeg)).2.2.2)))), (oM, .inr (1, [.ref aM, .int f1, .int f2, .long f3, .long f4])), (aM, .inl (cM, 8, .inr (.inl g)))] := hD
      obtain ⟨r36, e37⟩ : ∃ r, bf_scale f1 f2 g (xs ((nI j) + (1 : Int32)).toNatClampNeg) (xs ((nI j) + (2 : Int32)).toNatClampNeg) (xs ((nI j) + (3 : Int32)).toNatClampNeg) = r := ⟨_, rfl⟩
      rw [e37] at hP hD ⊢
      refine lv_aload_n hx hb dL_law_407 rfl (lv_at hl 2 rfl) ?_
      refine lv_aload_n hx hb dL_law_408 rfl (lv_at hl 0 rfl) ?_
      refine lv_iload_n hx hb dL_law_409 rfl (lv_at hl 3 rfl) ?_
      refine lv_iconst (v := 1) hx hb dL_law_410 (by decide) ?_
      refine lv_iadd hx hb dL_law_411 ?_
      refine va_sld hx hb hXs hbl hbA hS (wl_in1 hj hL) dL_law_412 ?_
      refine lv_aload_n hx hb dL_law_413 rfl (lv_at hl 0 rfl) ?_
      refine lv_iload_n hx hb dL_law_414 rfl (lv_at hl 3 rfl) ?_
      refine lv_iconst (v := 2) hx hb dL_law_415 (by decide) ?_
      refine lv_iadd hx hb dL_law_416 ?_
      refine va_sld hx hb hXs hbl hbA hS (wl_in2 hj hL) dL_law_417 ?_
      refine lv_aload_n hx hb dL_law_418 rfl (lv_at hl 0 rfl) ?_
      refine lv_iload_n hx hb dL_law_419 rfl (lv_at hl 3 rfl) ?_
      refine lv_iconst (v := 3) hx hb dL_law_420 (by decide) ?_
      refine lv_iadd hx hb dL_law_421 ?_
      refine va_sld hx hb hXs hbl hbA hS (wl_in3 hj hL) dL_law_422 ?_
      refine bw_vi2 (rest := [.int r36.1]) 2 3 1 ⟨hx, hb, hml, hown, hts⟩ (bd_scale l dC dI oM aM cM H.size f1 f2 f3 f4 g (xs ((nI j) + (1 : Int32)).toNatClampNeg) (xs ((nI j) + (2 : Int32)).toNatClampNeg) (xs ((nI j) + (3 : Int32)).toNatClampNeg)) (cwV 3 hts gL_law_X1_scale rfl rfl rfl (by decide +kernel) ⟨Nat.le_of_ble_eq_true rfl, Nat.le_of_ble_eq_true rfl⟩) hK hP hD hS hA (by decide) rfl rfl rfl rfl rfl hl.1 rfl (Nat.le_of_ble_eq_true rfl) dL_law_423 (Nat.le_of_ble_eq_true rfl) (Nat.le_of_ble_eq_true rfl) (fun H locs hP hD hS => ?_)
      have hP : va_P (dC, dI) vwCl [(oX, .inr (0, [.ref aX, .int r36.2.1, .int r36.2.2.1])), (aX, .inl (cX, 8, .inr (.inl r36.2.2.2))), (oM, .inr (1, [.ref aM, .int ((bg_scale f1 f2 f3 f4 g (xs ((nI j) + (1 : Int32)).toNatClampNeg) (xs ((nI j) + (2 : Int32)).toNatClampNeg) (xs ((nI j) + (3 : Int32)).toNatClampNeg)).2.1), .int ((bg_scale f1 f2 f3 f4 g (xs ((nI j) + (1 : Int32)).toNatClampNeg) (xs ((nI j) + (2 : Int32)).toNatClampNeg) (xs ((nI j) + (3 : Int32)).toNatClampNeg)).2.2.1), .long ((bg_scale f1 f2 f3 f4 g (xs ((nI j) + (1 : Int32)).toNatClampNeg) (xs ((nI j) + (2 : Int32)).toNatClampNeg) (xs ((nI j) + (3 : Int32)).toNatClampNeg)).2.2.2.1), .long ((bg_scale f1 f2 f3 f4 g (xs ((nI j) + (1 : Int32)).toNatClampNeg) (xs ((nI j) + (2 : Int32)).toNatClampNeg) (xs ((nI j) + (3 : Int32)).toNatClampNeg)).2.2.2.2.1)])), (aM, .inl (cM, 8, .inr (.inl ((bg_scale f1 f2 f3 f4 g (xs ((nI j) + (1 : Int32)).toNatClampNeg) (xs ((nI j) + (2 : Int32)).toNatClampNeg) (xs ((nI j) + (3 : Int32)).toNatClampNeg)).2.2.2.2.2))))] H := hP
      have hD : va_D A [(oX, .inr (0, [.ref aX, .int r36.2.1, .int r36.2.2.1])), (aX, .inl (cX, 8, .inr (.inl r36.2.2.2))), (oM, .inr (1, [.ref aM, .int ((bg_scale f1 f2 f3 f4 g (xs ((nI j) + (1 : Int32)).toNatClampNeg) (xs ((nI j) + (2 : Int32)).toNatClampNeg) (xs ((nI j) + (3 : Int32)).toNatClampNeg)).2.1), .int ((bg_scale f1 f2 f3 f4 g (xs ((nI j) + (1 : Int32)).toNatClampNeg) (xs ((nI j) + (2 : Int32)).toNatClampNeg) (xs ((nI j) + (3 : Int32)).toNatClampNeg)).2.2.1), .long ((bg_scale f1 f2 f3 f4 g (xs ((nI j) + (1 : Int32)).toNatClampNeg) (xs ((nI j) + (2 : Int32)).toNatClampNeg) (xs ((nI j) + (3 : Int32)).toNatClampNeg)).2.2.2.1), .long ((bg_scale f1 f2 f3 f4 g (xs ((nI j) + (1 : Int32)).toNatClampNeg) (xs ((nI j) + (2 : Int32)).toNatClampNeg) (xs ((nI j) + (3 : Int32)).toNatClampNeg)).2.2.2.2.1)])), (aM, .inl (cM, 8, .inr (.inl ((bg_scale f1 f2 f3 f4 g (xs ((nI j) + (1 : Int32)).toNatClampNeg) (xs ((nI j) + (2 : Int32)).toNatClampNeg) (xs ((nI j) + (3 : Int32)).toNatClampNeg)).2.2.2.2.2))))] := hD
      obtain ⟨r38, e39⟩ : ∃ r, bg_scale f1 f2 f3 f4 g (xs ((nI j) + (1 : Int32)).toNatClampNeg) (xs ((nI j) + (2 : Int32)).toNatClampNeg) (xs ((nI j) + (3 : Int32)).toNatClampNeg) = r := ⟨_, rfl⟩
      rw [e39] at hP hD ⊢
      have hR := bt_scale f1 f2 f3 f4 g (xs ((nI j) + (1 : Int32)).toNatClampNeg) (xs ((nI j) + (2 : Int32)).toNatClampNeg) (xs ((nI j) + (3 : Int32)).toNatClampNeg)
      rw [e37, e39] at hR
      obtain ⟨q1, q2, q3, q4⟩ := hR
      rw [q2, q3, q4] at hP hD
      refine lv_icmp_eq (tgt := 534) hx hb dL_law_426 (by decide) (fun _ => ?_) (fun h => absurd q1 h)
      exact fin r38.2.1 r38.2.2.1 r38.2.2.2.1 r38.2.2.2.2.1 r38.2.2.2.2.2 ls H locs hl hP hD hS
    · refine lv_tableIn (off := 399) (tgt := 431) hx hb dL_law_32 (by decide) (by decide) (by decide) (by decide) ?_
      refine lv_aload_n hx hb dL_law_431 rfl (lv_at hl 1 rfl) ?_
      refine lv_aload_n hx hb dL_law_432 rfl (lv_at hl 0 rfl) ?_
      refine lv_iload_n hx hb dL_law_433 rfl (lv_at hl 3 rfl) ?_
      refine lv_iconst (v := 1) hx hb dL_law_434 (by decide) ?_
      refine lv_iadd hx hb dL_law_435 ?_
      refine va_sld hx hb hXs hbl hbA hS (wl_in1 hj hL) dL_law_436 ?_
      refine bw_vi2 (rest := []) 0 1 0 ⟨hx, hb, hml, hown, hts⟩ (bc_exponent l dC dI oX aX cX H.size f1 f2 g (xs ((nI j) + (1 : Int32)).toNatClampNeg)) (cwV 1 hts gL_law_X0_exponent rfl rfl rfl (by decide +kernel) ⟨Nat.le_of_ble_eq_true rfl, Nat.le_of_ble_eq_true rfl⟩) hK hP hD hS hA (by decide) rfl rfl rfl rfl rfl hl.1 rfl (Nat.le_of_ble_eq_true rfl) dL_law_437 (Nat.le_of_ble_eq_true rfl) (Nat.le_of_ble_eq_true rfl) (fun H locs hP hD hS => ?_)
      have hP : va_P (dC, dI) vwCl [(oX, .inr (0, [.ref aX, .int ((bf_exponent f1 f2 g (xs ((nI j) + (1 : Int32)).toNatClampNeg)).2.1), .int ((bf_exponent f1 f2 g (xs ((nI j) + (1 : Int32)).toNatClampNeg)).2.2.1)])), (aX, .inl (cX, 8, .inr (.inl ((bf_exponent f1 f2 g (xs ((nI j) + (1 : Int32)).toNatClampNeg)).2.2.2)))), (oM, .inr (1, [.ref aM, .int f1, .int f2, .long f3, .long f4])), (aM, .inl (cM, 8, .inr (.inl g)))] H := hP
      have hD : va_D A [(oX, .inr (0, [.ref aX, .int ((bf_exponent f1 f2 g (xs ((nI j) + (1 : Int32)).toNatClampNeg)).2.1), .int ((bf_exponent f1 f2 g (xs ((nI j) + (1 : Int32)).toNatClampNeg)).2.2.1)])), (aX, .inl (cX, 8, .inr (.inl ((bf_exponent f1 f2 g (xs ((nI j) + (1 : Int32)).toNatClampNeg)).2.2.2)))), (oM, .inr (1, [.ref aM, .int f1, .int f2, .long f3, .long f4])), (aM, .inl (cM, 8, .inr (.inl g)))] := hD
      obtain ⟨r40, e41⟩ : ∃ r, bf_exponent f1 f2 g (xs ((nI j) + (1 : Int32)).toNatClampNeg) = r := ⟨_, rfl⟩
      rw [e41] at hP hD ⊢
      refine lv_aload_n hx hb dL_law_440 rfl (lv_at hl 2 rfl) ?_
      refine lv_aload_n hx hb dL_law_441 rfl (lv_at hl 0 rfl) ?_
      refine lv_iload_n hx hb dL_law_442 rfl (lv_at hl 3 rfl) ?_
      refine lv_iconst (v := 1) hx hb dL_law_443 (by decide) ?_
      refine lv_iadd hx hb dL_law_444 ?_
      refine va_sld hx hb hXs hbl hbA hS (wl_in1 hj hL) dL_law_445 ?_
      refine bw_vi2 (rest := [.int r40.1]) 2 3 1 ⟨hx, hb, hml, hown, hts⟩ (bd_exponent l dC dI oM aM cM H.size f1 f2 f3 f4 g (xs ((nI j) + (1 : Int32)).toNatClampNeg)) (cwV 1 hts gL_law_X1_exponent rfl rfl rfl (by decide +kernel) ⟨Nat.le_of_ble_eq_true rfl, Nat.le_of_ble_eq_true rfl⟩) hK hP hD hS hA (by decide) rfl rfl rfl rfl rfl hl.1 rfl (Nat.le_of_ble_eq_true rfl) dL_law_446 (Nat.le_of_ble_eq_true rfl) (Nat.le_of_ble_eq_true rfl) (fun H locs hP hD hS => ?_)
      have hP : va_P (dC, dI) vwCl [(oX, .inr (0, [.ref aX, .int r40.2.1, .int r40.2.2.1])), (aX, .inl (cX, 8, .inr (.inl r40.2.2.2))), (oM, .inr (1, [.ref aM, .int ((bg_exponent f1 f2 f3 f4 g (xs ((nI j) + (1 : Int32)).toNatClampNeg)).2.1), .int ((bg_exponent f1 f2 f3 f4 g (xs ((nI j) + (1 : Int32)).toNatClampNeg)).2.2.1), .long ((bg_exponent f1 f2 f3 f4 g (xs ((nI j) + (1 : Int32)).toNatClampNeg)).2.2.2.1), .long ((bg_exponent f1 f2 f3 f4 g (xs ((nI j) + (1 : Int32)).toNatClampNeg)).2.2.2.2.1)])), (aM, .inl (cM, 8, .inr (.inl ((bg_exponent f1 f2 f3 f4 g (xs ((nI j) + (1 : Int32)).toNatClampNeg)).2.2.2.2.2))))] H := hP
      have hD : va_D A [(oX, .inr (0, [.ref aX, .int r40.2.1, .int r40.2.2.1])), (aX, .inl (cX, 8, .inr (.inl r40.2.2.2))), (oM, .inr (1, [.ref aM, .int ((bg_exponent f1 f2 f3 f4 g (xs ((nI j) + (1 : Int32)).toNatClampNeg)).2.1), .int ((bg_exponent f1 f2 f3 f4 g (xs ((nI j) + (1 : Int32)).toNatClampNeg)).2.2.1), .long ((bg_exponent f1 f2 f3 f4 g (xs ((nI j) + (1 : Int32)).toNatClampNeg)).2.2.2.1), .long ((bg_exponent f1 f2 f3 f4 g (xs ((nI j) + (1 : Int32)).toNatClampNeg)).2.2.2.2.1)])), (aM, .inl (cM, 8, .inr (.inl ((bg_exponent f1 f2 f3 f4 g (xs ((nI j) + (1 : Int32)).toNatClampNeg)).2.2.2.2.2))))] := hD
      obtain ⟨r42, e43⟩ : ∃ r, bg_exponent f1 f2 f3 f4 g (xs ((nI j) + (1 : Int32)).toNatClampNeg) = r := ⟨_, rfl⟩
      rw [e43] at hP hD ⊢
      have hR := bt_exponent f1 f2 f3 f4 g (xs ((nI j) + (1 : Int32)).toNatClampNeg)
      rw [e41, e43] at hR
      obtain ⟨q1, q2, q3, q4⟩ := hR
      rw [q2, q3, q4] at hP hD
      refine lv_icmp_eq (tgt := 534) hx hb dL_law_449 (by decide) (fun _ => ?_) (fun h => absurd q1 h)
      exact fin r42.2.1 r42.2.2.1 r42.2.2.2.1 r42.2.2.2.2.1 r42.2.2.2.2.2 ls H locs hl hP hD hS
    · refine lv_tableIn (off := 422) (tgt := 454) hx hb dL_law_32 (by decide) (by decide) (by decide) (by decide) ?_
      refine lv_aload_n hx hb dL_law_454 rfl (lv_at hl 1 rfl) ?_
      refine lv_aload_n hx hb dL_law_455 rfl (lv_at hl 0 rfl) ?_
      refine lv_iload_n hx hb dL_law_456 rfl (lv_at hl 3 rfl) ?_
      refine lv_iconst (v := 1) hx hb dL_law_457 (by decide) ?_
      refine lv_iadd hx hb dL_law_458 ?_
      refine va_sld hx hb hXs hbl hbA hS (wl_in1 hj hL) dL_law_459 ?_
      refine lv_aload_n hx hb dL_law_460 rfl (lv_at hl 0 rfl) ?_
      refine lv_iload_n hx hb dL_law_461 rfl (lv_at hl 3 rfl) ?_
      refine lv_iconst (v := 2) hx hb dL_law_462 (by decide) ?_
      refine lv_iadd hx hb dL_law_463 ?_
      refine va_sld hx hb hXs hbl hbA hS (wl_in2 hj hL) dL_law_464 ?_
      refine bw_vi2 (rest := []) 0 1 0 ⟨hx, hb, hml, hown, hts⟩ (bc_compare l dC dI oX aX cX H.size f1 f2 g (xs ((nI j) + (1 : Int32)).toNatClampNeg) (xs ((nI j) + (2 : Int32)).toNatClampNeg)) (cwV 2 hts gL_law_X0_compare rfl rfl rfl (by decide +kernel) ⟨Nat.le_of_ble_eq_true rfl, Nat.le_of_ble_eq_true rfl⟩) hK hP hD hS hA (by decide) rfl rfl rfl rfl rfl hl.1 rfl (Nat.le_of_ble_eq_true rfl) dL_law_465 (Nat.le_of_ble_eq_true rfl) (Nat.le_of_ble_eq_true rfl) (fun H locs hP hD hS => ?_)
      have hP : va_P (dC, dI) vwCl [(oX, .inr (0, [.ref aX, .int ((bf_compare f1 f2 g (xs ((nI j) + (1 : Int32)).toNatClampNeg) (xs ((nI j) + (2 : Int32)).toNatClampNeg)).2.1), .int ((bf_compare f1 f2 g (xs ((nI j) + (1 : Int32)).toNatClampNeg) (xs ((nI j) + (2 : Int32)).toNatClampNeg)).2.2.1)])), (aX, .inl (cX, 8, .inr (.inl ((bf_compare f1 f2 g (xs ((nI j) + (1 : Int32)).toNatClampNeg) (xs ((nI j) + (2 : Int32)).toNatClampNeg)).2.2.2)))), (oM, .inr (1, [.ref aM, .int f1, .int f2, .long f3, .long f4])), (aM, .inl (cM, 8, .inr (.inl g)))] H := hP
      have hD : va_D A [(oX, .inr (0, [.ref aX, .int ((bf_compare f1 f2 g (xs ((nI j) + (1 : Int32)).toNatClampNeg) (xs ((nI j) + (2 : Int32)).toNatClampNeg)).2.1), .int ((bf_compare f1 f2 g (xs ((nI j) + (1 : Int32)).toNatClampNeg) (xs ((nI j) + (2 : Int32)).toNatClampNeg)).2.2.1)])), (aX, .inl (cX, 8, .inr (.inl ((bf_compare f1 f2 g (xs ((nI j) + (1 : Int32)).toNatClampNeg) (xs ((nI j) + (2 : Int32)).toNatClampNeg)).2.2.2)))), (oM, .inr (1, [.ref aM, .int f1, .int f2, .long f3, .long f4])), (aM, .inl (cM, 8, .inr (.inl g)))] := hD
      obtain ⟨r44, e45⟩ : ∃ r, bf_compare f1 f2 g (xs ((nI j) + (1 : Int32)).toNatClampNeg) (xs ((nI j) + (2 : Int32)).toNatClampNeg) = r := ⟨_, rfl⟩
      rw [e45] at hP hD ⊢
      refine lv_aload_n hx hb dL_law_468 rfl (lv_at hl 2 rfl) ?_
      refine lv_aload_n hx hb dL_law_469 rfl (lv_at hl 0 rfl) ?_
      refine lv_iload_n hx hb dL_law_470 rfl (lv_at hl 3 rfl) ?_
      refine lv_iconst (v := 1) hx hb dL_law_471 (by decide) ?_
      refine lv_iadd hx hb dL_law_472 ?_
      refine va_sld hx hb hXs hbl hbA hS (wl_in1 hj hL) dL_law_473 ?_
      refine lv_aload_n hx hb dL_law_474 rfl (lv_at hl 0 rfl) ?_
      refine lv_iload_n hx hb dL_law_475 rfl (lv_at hl 3 rfl) ?_
      refine lv_iconst (v := 2) hx hb dL_law_476 (by decide) ?_
      refine lv_iadd hx hb dL_law_477 ?_
      refine va_sld hx hb hXs hbl hbA hS (wl_in2 hj hL) dL_law_478 ?_
      refine bw_vi2 (rest := [.int r44.1]) 2 3 1 ⟨hx, hb, hml, hown, hts⟩ (bd_compare l dC dI oM aM cM H.size f1 f2 f3 f4 g (xs ((nI j) + (1 : Int32)).toNatClampNeg) (xs ((nI j) + (2 : Int32)).toNatClampNeg)) (cwV 2 hts gL_law_X1_compare rfl rfl rfl (by decide +kernel) ⟨Nat.le_of_ble_eq_true rfl, Nat.le_of_ble_eq_true rfl⟩) hK hP hD hS hA (by decide) rfl rfl rfl rfl rfl hl.1 rfl (Nat.le_of_ble_eq_true rfl) dL_law_479 (Nat.le_of_ble_eq_true rfl) (Nat.le_of_ble_eq_true rfl) (fun H locs hP hD hS => ?_)
      have hP : va_P (dC, dI) vwCl [(oX, .inr (0, [.ref aX, .int r44.2.1, .int r44.2.2.1])), (aX, .inl (cX, 8, .inr (.inl r44.2.2.2))), (oM, .inr (1, [.ref aM, .int ((bg_compare f1 f2 f3 f4 g (xs ((nI j) + (1 : Int32)).toNatClampNeg) (xs ((nI j) + (2 : Int32)).toNatClampNeg)).2.1), .int ((bg_compare f1 f2 f3 f4 g (xs ((nI j) + (1 : Int32)).toNatClampNeg) (xs ((nI j) + (2 : Int32)).toNatClampNeg)).2.2.1), .long ((bg_compare f1 f2 f3 f4 g (xs ((nI j) + (1 : Int32)).toNatClampNeg) (xs ((nI j) + (2 : Int32)).toNatClampNeg)).2.2.2.1), .long ((bg_compare f1 f2 f3 f4 g (xs ((nI j) + (1 : Int32)).toNatClampNeg) (xs ((nI j) + (2 : Int32)).toNatClampNeg)).2.2.2.2.1)])), (aM, .inl (cM, 8, .inr (.inl ((bg_compare f1 f2 f3 f4 g (xs ((nI j) + (1 : Int32)).toNatClampNeg) (xs ((nI j) + (2 : Int32)).toNatClampNeg)).2.2.2.2.2))))] H := hP
      have hD : va_D A [(oX, .inr (0, [.ref aX, .int r44.2.1, .int r44.2.2.1])), (aX, .inl (cX, 8, .inr (.inl r44.2.2.2))), (oM, .inr (1, [.ref aM, .int ((bg_compare f1 f2 f3 f4 g (xs ((nI j) + (1 : Int32)).toNatClampNeg) (xs ((nI j) + (2 : Int32)).toNatClampNeg)).2.1), .int ((bg_compare f1 f2 f3 f4 g (xs ((nI j) + (1 : Int32)).toNatClampNeg) (xs ((nI j) + (2 : Int32)).toNatClampNeg)).2.2.1), .long ((bg_compare f1 f2 f3 f4 g (xs ((nI j) + (1 : Int32)).toNatClampNeg) (xs ((nI j) + (2 : Int32)).toNatClampNeg)).2.2.2.1), .long ((bg_compare f1 f2 f3 f4 g (xs ((nI j) + (1 : Int32)).toNatClampNeg) (xs ((nI j) + (2 : Int32)).toNatClampNeg)).2.2.2.2.1)])), (aM, .inl (cM, 8, .inr (.inl ((bg_compare f1 f2 f3 f4 g (xs ((nI j) + (1 : Int32)).toNatClampNeg) (xs ((nI j) + (2 : Int32)).toNatClampNeg)).2.2.2.2.2))))] := hD
      obtain ⟨r46, e47⟩ : ∃ r, bg_compare f1 f2 f3 f4 g (xs ((nI j) + (1 : Int32)).toNatClampNeg) (xs ((nI j) + (2 : Int32)).toNatClampNeg) = r := ⟨_, rfl⟩
      rw [e47] at hP hD ⊢
      have hR := bt_compare f1 f2 f3 f4 g (xs ((nI j) + (1 : Int32)).toNatClampNeg) (xs ((nI j) + (2 : Int32)).toNatClampNeg)
      rw [e45, e47] at hR
      obtain ⟨q1, q2, q3, q4⟩ := hR
      rw [q2, q3, q4] at hP hD
      refine lv_icmp_eq (tgt := 534) hx hb dL_law_482 (by decide) (fun _ => ?_) (fun h => absurd q1 h)
      exact fin r46.2.1 r46.2.2.1 r46.2.2.2.1 r46.2.2.2.2.1 r46.2.2.2.2.2 ls H locs hl hP hD hS
    · refine lv_tableIn (off := 455) (tgt := 487) hx hb dL_law_32 (by decide) (by decide) (by decide) (by decide) ?_
      refine lv_aload_n hx hb dL_law_487 rfl (lv_at hl 1 rfl) ?_
      refine lv_aload_n hx hb dL_law_488 rfl (lv_at hl 0 rfl) ?_
      refine lv_iload_n hx hb dL_law_489 rfl (lv_at hl 3 rfl) ?_
      refine lv_iconst (v := 1) hx hb dL_law_490 (by decide) ?_
      refine lv_iadd hx hb dL_law_491 ?_
      refine va_sld hx hb hXs hbl hbA hS (wl_in1 hj hL) dL_law_492 ?_
      refine bw_vi2 (rest := []) 0 1 0 ⟨hx, hb, hml, hown, hts⟩ (bc_sort l dC dI oX aX cX H.size f1 f2 g (xs ((nI j) + (1 : Int32)).toNatClampNeg)) (cwV 1 hts gL_law_X0_sort rfl rfl rfl (by decide +kernel) ⟨Nat.le_of_ble_eq_true rfl, Nat.le_of_ble_eq_true rfl⟩) hK hP hD hS hA (by decide) rfl rfl rfl rfl rfl hl.1 rfl (Nat.le_of_ble_eq_true rfl) dL_law_493 (Nat.le_of_ble_eq_true rfl) (Nat.le_of_ble_eq_true rfl) (fun H locs hP hD hS => ?_)
      have hP : va_P (dC, dI) vwCl [(oX, .inr (0, [.ref aX, .int ((bf_sort f1 f2 g (xs ((nI j) + (1 : Int32)).toNatClampNeg)).2.1), .int ((bf_sort f1 f2 g (xs ((nI j) + (1 : Int32)).toNatClampNeg)).2.2.1)])), (aX, .inl (cX, 8, .inr (.inl ((bf_sort f1 f2 g (xs ((nI j) + (1 : Int32)).toNatClampNeg)).2.2.2)))), (oM, .inr (1, [.ref aM, .int f1, .int f2, .long f3, .long f4])), (aM, .inl (cM, 8, .inr (.inl g)))] H := hP
      have hD : va_D A [(oX, .inr (0, [.ref aX, .int ((bf_sort f1 f2 g (xs ((nI j) + (1 : Int32)).toNatClampNeg)).2.1), .int ((bf_sort f1 f2 g (xs ((nI j) + (1 : Int32)).toNatClampNeg)).2.2.1)])), (aX, .inl (cX, 8, .inr (.inl ((bf_sort f1 f2 g (xs ((nI j) + (1 : Int32)).toNatClampNeg)).2.2.2)))), (oM, .inr (1, [.ref aM, .int f1, .int f2, .long f3, .long f4])), (aM, .inl (cM, 8, .inr (.inl g)))] := hD
      obtain ⟨r48, e49⟩ : ∃ r, bf_sort f1 f2 g (xs ((nI j) + (1 : Int32)).toNatClampNeg) = r := ⟨_, rfl⟩
      rw [e49] at hP hD ⊢
      refine lv_aload_n hx hb dL_law_496 rfl (lv_at hl 2 rfl) ?_
      refine lv_aload_n hx hb dL_law_497 rfl (lv_at hl 0 rfl) ?_
      refine lv_iload_n hx hb dL_law_498 rfl (lv_at hl 3 rfl) ?_
      refine lv_iconst (v := 1) hx hb dL_law_499 (by decide) ?_
      refine lv_iadd hx hb dL_law_500 ?_
      refine va_sld hx hb hXs hbl hbA hS (wl_in1 hj hL) dL_law_501 ?_
      refine bw_vi2 (rest := [.int r48.1]) 2 3 1 ⟨hx, hb, hml, hown, hts⟩ (bd_sort l dC dI oM aM cM H.size f1 f2 f3 f4 g (xs ((nI j) + (1 : Int32)).toNatClampNeg)) (cwV 1 hts gL_law_X1_sort rfl rfl rfl (by decide +kernel) ⟨Nat.le_of_ble_eq_true rfl, Nat.le_of_ble_eq_true rfl⟩) hK hP hD hS hA (by decide) rfl rfl rfl rfl rfl hl.1 rfl (Nat.le_of_ble_eq_true rfl) dL_law_502 (Nat.le_of_ble_eq_true rfl) (Nat.le_of_ble_eq_true rfl) (fun H locs hP hD hS => ?_)
      have hP : va_P (dC, dI) vwCl [(oX, .inr (0, [.ref aX, .int r48.2.1, .int r48.2.2.1])), (aX, .inl (cX, 8, .inr (.inl r48.2.2.2))), (oM, .inr (1, [.ref aM, .int ((bg_sort f1 f2 f3 f4 g (xs ((nI j) + (1 : Int32)).toNatClampNeg)).2.1), .int ((bg_sort f1 f2 f3 f4 g (xs ((nI j) + (1 : Int32)).toNatClampNeg)).2.2.1), .long ((bg_sort f1 f2 f3 f4 g (xs ((nI j) + (1 : Int32)).toNatClampNeg)).2.2.2.1), .long ((bg_sort f1 f2 f3 f4 g (xs ((nI j) + (1 : Int32)).toNatClampNeg)).2.2.2.2.1)])), (aM, .inl (cM, 8, .inr (.inl ((bg_sort f1 f2 f3 f4 g (xs ((nI j) + (1 : Int32)).toNatClampNeg)).2.2.2.2.2))))] H := hP
      have hD : va_D A [(oX, .inr (0, [.ref aX, .int r48.2.1, .int r48.2.2.1])), (aX, .inl (cX, 8, .inr (.inl r48.2.2.2))), (oM, .inr (1, [.ref aM, .int ((bg_sort f1 f2 f3 f4 g (xs ((nI j) + (1 : Int32)).toNatClampNeg)).2.1), .int ((bg_sort f1 f2 f3 f4 g (xs ((nI j) + (1 : Int32)).toNatClampNeg)).2.2.1), .long ((bg_sort f1 f2 f3 f4 g (xs ((nI j) + (1 : Int32)).toNatClampNeg)).2.2.2.1), .long ((bg_sort f1 f2 f3 f4 g (xs ((nI j) + (1 : Int32)).toNatClampNeg)).2.2.2.2.1)])), (aM, .inl (cM, 8, .inr (.inl ((bg_sort f1 f2 f3 f4 g (xs ((nI j) + (1 : Int32)).toNatClampNeg)).2.2.2.2.2))))] := hD
      obtain ⟨r50, e51⟩ : ∃ r, bg_sort f1 f2 f3 f4 g (xs ((nI j) + (1 : Int32)).toNatClampNeg) = r := ⟨_, rfl⟩
      rw [e51] at hP hD ⊢
      have hR := bt_sort f1 f2 f3 f4 g (xs ((nI j) + (1 : Int32)).toNatClampNeg)
      rw [e49, e51] at hR
      obtain ⟨q1, q2, q3, q4⟩ := hR
      rw [q2, q3, q4] at hP hD
      refine lv_icmp_eq (tgt := 534) hx hb dL_law_505 (by decide) (fun _ => ?_) (fun h => absurd q1 h)
      exact fin r50.2.1 r50.2.2.1 r50.2.2.2.1 r50.2.2.2.2.1 r50.2.2.2.2.2 ls H locs hl hP hD hS
    · refine lv_tableIn (off := 478) (tgt := 510) hx hb dL_law_32 (by decide) (by decide) (by decide) (by decide) ?_
      refine lv_aload_n hx hb dL_law_510 rfl (lv_at hl 1 rfl) ?_
      refine bw_vi2 (rest := []) 0 1 0 ⟨hx, hb, hml, hown, hts⟩ (bc_flags l dC dI oX aX cX H.size f1 f2 g) (cwV 0 hts gL_law_X0_flags rfl rfl rfl (by decide +kernel) ⟨Nat.le_of_ble_eq_true rfl, Nat.le_of_ble_eq_true rfl⟩) hK hP hD hS hA (by decide) rfl rfl rfl rfl rfl hl.1 rfl (Nat.le_of_ble_eq_true rfl) dL_law_511 (Nat.le_of_ble_eq_true rfl) (Nat.le_of_ble_eq_true rfl) (fun H locs hP hD hS => ?_)
      have hP : va_P (dC, dI) vwCl [(oX, .inr (0, [.ref aX, .int ((bf_flags f1 f2 g).2.1), .int ((bf_flags f1 f2 g).2.2.1)])), (aX, .inl (cX, 8, .inr (.inl ((bf_flags f1 f2 g).2.2.2)))), (oM, .inr (1, [.ref aM, .int f1, .int f2, .long f3, .long f4])), (aM, .inl (cM, 8, .inr (.inl g)))] H := hP
      have hD : va_D A [(oX, .inr (0, [.ref aX, .int ((bf_flags f1 f2 g).2.1), .int ((bf_flags f1 f2 g).2.2.1)])), (aX, .inl (cX, 8, .inr (.inl ((bf_flags f1 f2 g).2.2.2)))), (oM, .inr (1, [.ref aM, .int f1, .int f2, .long f3, .long f4])), (aM, .inl (cM, 8, .inr (.inl g)))] := hD
      obtain ⟨r52, e53⟩ : ∃ r, bf_flags f1 f2 g = r := ⟨_, rfl⟩
      rw [e53] at hP hD ⊢
      refine lv_aload_n hx hb dL_law_514 rfl (lv_at hl 2 rfl) ?_
      refine bw_vi2 (rest := [.int r52.1]) 2 3 1 ⟨hx, hb, hml, hown, hts⟩ (bd_flags l dC dI oM aM cM H.size f1 f2 f3 f4 g) (cwV 0 hts gL_law_X1_flags rfl rfl rfl (by decide +kernel) ⟨Nat.le_of_ble_eq_true rfl, Nat.le_of_ble_eq_true rfl⟩) hK hP hD hS hA (by decide) rfl rfl rfl rfl rfl hl.1 rfl (Nat.le_of_ble_eq_true rfl) dL_law_515 (Nat.le_of_ble_eq_true rfl) (Nat.le_of_ble_eq_true rfl) (fun H locs hP hD hS => ?_)
      have hP : va_P (dC, dI) vwCl [(oX, .inr (0, [.ref aX, .int r52.2.1, .int r52.2.2.1])), (aX, .inl (cX, 8, .inr (.inl r52.2.2.2))), (oM, .inr (1, [.ref aM, .int ((bg_flags f1 f2 f3 f4 g).2.1), .int ((bg_flags f1 f2 f3 f4 g).2.2.1), .long ((bg_flags f1 f2 f3 f4 g).2.2.2.1), .long ((bg_flags f1 f2 f3 f4 g).2.2.2.2.1)])), (aM, .inl (cM, 8, .inr (.inl ((bg_flags f1 f2 f3 f4 g).2.2.2.2.2))))] H := hP
      have hD : va_D A [(oX, .inr (0, [.ref aX, .int r52.2.1, .int r52.2.2.1])), (aX, .inl (cX, 8, .inr (.inl r52.2.2.2))), (oM, .inr (1, [.ref aM, .int ((bg_flags f1 f2 f3 f4 g).2.1), .int ((bg_flags f1 f2 f3 f4 g).2.2.1), .long ((bg_flags f1 f2 f3 f4 g).2.2.2.1), .long ((bg_flags f1 f2 f3 f4 g).2.2.2.2.1)])), (aM, .inl (cM, 8, .inr (.inl ((bg_flags f1 f2 f3 f4 g).2.2.2.2.2))))] := hD
      obtain ⟨r54, e55⟩ : ∃ r, bg_flags f1 f2 f3 f4 g = r := ⟨_, rfl⟩
      rw [e55] at hP hD ⊢
      have hR := bt_flags f1 f2 f3 f4 g
      rw [e53, e55] at hR
      obtain ⟨q1, q2, q3, q4⟩ := hR
      rw [q2, q3, q4] at hP hD
      refine lv_icmp_eq (tgt := 534) hx hb dL_law_518 (by decide) (fun _ => ?_) (fun h => absurd q1 h)
      exact fin r54.2.1 r54.2.2.1 r54.2.2.2.1 r54.2.2.2.2.1 r54.2.2.2.2.2 ls H locs hl hP hD hS
    · refine lv_tableIn (off := 491) (tgt := 523) hx hb dL_law_32 (by decide) (by decide) (by decide) (by decide) ?_
      refine lv_aload_n hx hb dL_law_523 rfl (lv_at hl 1 rfl) ?_
      refine bw_vv2 (rest := []) 0 1 0 ⟨hx, hb, hml, hown, hts⟩ (bc_clear l dC dI oX aX cX H.size f1 f2 g) (cwV 0 hts gL_law_X0_clear rfl rfl rfl (by decide +kernel) ⟨Nat.le_of_ble_eq_true rfl, Nat.le_of_ble_eq_true rfl⟩) hK hP hD hS hA (by decide) rfl rfl rfl rfl rfl hl.1 rfl (Nat.le_of_ble_eq_true rfl) dL_law_524 (Nat.le_of_ble_eq_true rfl) (Nat.le_of_ble_eq_true rfl) (fun H locs hP hD hS => ?_)
      have hP : va_P (dC, dI) vwCl [(oX, .inr (0, [.ref aX, .int ((bf_clear f1 f2 g).1), .int ((bf_clear f1 f2 g).2.1)])), (aX, .inl (cX, 8, .inr (.inl ((bf_clear f1 f2 g).2.2)))), (oM, .inr (1, [.ref aM, .int f1, .int f2, .long f3, .long f4])), (aM, .inl (cM, 8, .inr (.inl g)))] H := hP
      have hD : va_D A [(oX, .inr (0, [.ref aX, .int ((bf_clear f1 f2 g).1), .int ((bf_clear f1 f2 g).2.1)])), (aX, .inl (cX, 8, .inr (.inl ((bf_clear f1 f2 g).2.2)))), (oM, .inr (1, [.ref aM, .int f1, .int f2, .long f3, .long f4])), (aM, .inl (cM, 8, .inr (.inl g)))] := hD
      obtain ⟨r56, e57⟩ : ∃ r, bf_clear f1 f2 g = r := ⟨_, rfl⟩
      rw [e57] at hP hD
      refine lv_aload_n hx hb dL_law_527 rfl (lv_at hl 2 rfl) ?_
      refine bw_vv2 (rest := []) 2 3 1 ⟨hx, hb, hml, hown, hts⟩ (bd_clear l dC dI oM aM cM H.size f1 f2 f3 f4 g) (cwV 0 hts gL_law_X1_clear rfl rfl rfl (by decide +kernel) ⟨Nat.le_of_ble_eq_true rfl, Nat.le_of_ble_eq_true rfl⟩) hK hP hD hS hA (by decide) rfl rfl rfl rfl rfl hl.1 rfl (Nat.le_of_ble_eq_true rfl) dL_law_528 (Nat.le_of_ble_eq_true rfl) (Nat.le_of_ble_eq_true rfl) (fun H locs hP hD hS => ?_)
      have hP : va_P (dC, dI) vwCl [(oX, .inr (0, [.ref aX, .int r56.1, .int r56.2.1])), (aX, .inl (cX, 8, .inr (.inl r56.2.2))), (oM, .inr (1, [.ref aM, .int ((bg_clear f1 f2 f3 f4 g).1), .int ((bg_clear f1 f2 f3 f4 g).2.1), .long ((bg_clear f1 f2 f3 f4 g).2.2.1), .long ((bg_clear f1 f2 f3 f4 g).2.2.2.1)])), (aM, .inl (cM, 8, .inr (.inl ((bg_clear f1 f2 f3 f4 g).2.2.2.2))))] H := hP
      have hD : va_D A [(oX, .inr (0, [.ref aX, .int r56.1, .int r56.2.1])), (aX, .inl (cX, 8, .inr (.inl r56.2.2))), (oM, .inr (1, [.ref aM, .int ((bg_clear f1 f2 f3 f4 g).1), .int ((bg_clear f1 f2 f3 f4 g).2.1), .long ((bg_clear f1 f2 f3 f4 g).2.2.1), .long ((bg_clear f1 f2 f3 f4 g).2.2.2.1)])), (aM, .inl (cM, 8, .inr (.inl ((bg_clear f1 f2 f3 f4 g).2.2.2.2))))] := hD
      obtain ⟨r58, e59⟩ : ∃ r, bg_clear f1 f2 f3 f4 g = r := ⟨_, rfl⟩
      rw [e59] at hP hD
      have hR := bt_clear f1 f2 f3 f4 g
      rw [e57, e59] at hR
      obtain ⟨q2, q3, q4⟩ := hR
      rw [q2, q3, q4] at hP hD
      refine lv_goto (tgt := 534) hx hb dL_law_531 (by decide) ?_
      exact fin r58.1 r58.2.1 r58.2.2.1 r58.2.2.2.1 r58.2.2.2.2 ls H locs hl hP hD hS
    · refine lv_tableOut (tgt := 534) hx hb dL_law_32 (by decide) (by decide) ?_
      exact fin f1 f2 f3 f4 g ls H locs hl hP hD hS
    · refine lv_tableOut (tgt := 534) hx hb dL_law_32 (by decide) (by decide) ?_
      exact fin f1 f2 f3 f4 g ls H locs hl hP hD hS
    · refine lv_tableOut (tgt := 534) hx hb dL_law_32 (by decide) (by decide) ?_
      exact fin f1 f2 f3 f4 g ls H locs hl hP hD hS
