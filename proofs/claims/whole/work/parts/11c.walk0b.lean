/-! walks: the class, scaling -/
set_option maxHeartbeats 4000000 in
set_option maxRecDepth 100000 in
theorem bc_roundedToLeastPower (l : Launch) (dC : Nat → ClassId) (dI : Nat → Nat → Nat) (h0 a0 : Nat) (sz : Nat) (f1 : Int32) (f2 : Int32) (x1 : Int64) (x2 : Int32) : Met l yX0_roundedToLeastPower wsX0_roundedToLeastPower ({ frames := 3, cells := 0, slots := 0, locals := 67 }) (va_Pc [.ref h0, .long x1, .int x2] (bw_I1 (dC, dI) vwCl sz h0 (.inr (0, [.ref a0, .int f1, .int f2])))) (va_Ql (fun (r : Int64) (u : Int32 × Int32) => (r, u) = bf_roundedToLeastPower f1 f2 x1 x2) (fun u t => bw_O1 (dC, dI) vwCl (va_A [(h0, .inr (0, [.ref a0, .int f1, .int f2]))] sz) h0 (.inr (0, [.ref a0, .int u.1, .int u.2])) t) (va_A [(h0, .inr (0, [.ref a0, .int f1, .int f2]))] sz)) 0 0 (va_A [(h0, .inr (0, [.ref a0, .int f1, .int f2]))] sz) := by
  refine Met.ofW (cc := cX0_roundedToLeastPower) (maxL := 6) (ret := (some .long)) (by decide) rfl ?_
  intro p e s m args below meth c s₁ B hml hv
  obtain ⟨rfl, hsz, hP, hK, hD0⟩ := hv
  have hx := B.exec
  have hb := B.bytes
  have hr := B.returns
  have hts := atoms_spec (ws := wsX0_roundedToLeastPower) B.pre
  have hown : s.vm.findClass RX0 = some m.cls := findClass_of_methodNamed B.named
  have hlocks := B.notSynchronized
  subst hsz
  have hD := hD0.self (sz := s.heap.size)
  generalize hAe : va_A [(h0, .inr (0, [.ref a0, .int f1, .int f2]))] s.heap.size = A at hD ⊢
  have hA : ∀ q : Nat, s.heap.size ≤ q → A q := fun q h => by rw [← hAe]; exact Or.inr h
  have hS : va_S A s.heap s.heap [] := va_S.rf
  have hP : va_P (dC, dI) vwCl [(h0, .inr (0, [.ref a0, .int f1, .int f2]))] s.heap := hP
  have hl := lv_entry ([.ref h0, .long x1, .int x2]) (n := 6) (Nat.le_of_ble_eq_true rfl)
  rw [lg_entry_eq]
  generalize (lg_sl ([.ref h0, .long x1, .int x2]) ++ List.replicate (6 - (lg_sl ([.ref h0, .long x1, .int x2])).length) Slot.unset).toArray = ls at hl ⊢
  have hl : lv_has ls 6 [(0, .ref h0), (1, .long x1), (3, .int x2)] := hl
  refine lv_lload_n hx hb dX0_roundedToLeastPower_0 rfl (lv_at hl 1 rfl) ?_
  refine lv_iload_n hx hb dX0_roundedToLeastPower_1 rfl (lv_at hl 2 rfl) ?_
  refine bw_csl (rest := []) ⟨hx, hb, hml, hown, hts⟩ (bc_nearestShifted l x1 x2) (va_cwS 2 hts gX0_roundedToLeastPower_X0_nearestShifted rfl rfl rfl (by decide +kernel) ⟨Nat.le_of_ble_eq_true rfl, Nat.le_of_ble_eq_true rfl⟩) rfl hl.1 rfl (Nat.le_of_ble_eq_true rfl) dX0_roundedToLeastPower_2 (Nat.zero_le _) (Nat.zero_le _) ?_
  refine lv_lstore (nL := 6) (lv' := [(4, .long (bf_nearestShifted x1 x2)), (0, .ref h0), (1, .long x1), (3, .int x2)]) hx hb dX0_roundedToLeastPower_5 hl (by decide) rfl (fun ls hl => ?_)
  refine lv_lload hx hb dX0_roundedToLeastPower_7 (lv_at hl 0 rfl) ?_
  refine lv_iload_n hx hb dX0_roundedToLeastPower_9 rfl (lv_at hl 3 rfl) ?_
  refine lv_lshl hx hb dX0_roundedToLeastPower_10 rfl ?_
  refine lv_lload_n hx hb dX0_roundedToLeastPower_11 rfl (lv_at hl 2 rfl) ?_
  refine bw_lc_eq (tgt := 35) hx hb dX0_roundedToLeastPower_12 dX0_roundedToLeastPower_13 (by decide) (fun h1 => ?_) (fun h1 => ?_)
  · refine lv_lload hx hb dX0_roundedToLeastPower_35 (lv_at hl 0 rfl) ?_
    refine lv_sipush (v := -1074) hx hb dX0_roundedToLeastPower_37 (by decide) ?_
    refine bw_csl (rest := []) ⟨hx, hb, hml, hown, hts⟩ (bc_pattern l (bf_nearestShifted x1 x2) (-1074 : Int32)) (va_cwS 2 hts gX0_roundedToLeastPower_X0_pattern rfl rfl rfl (by decide +kernel) ⟨Nat.le_of_ble_eq_true rfl, Nat.le_of_ble_eq_true rfl⟩) rfl hl.1 rfl (Nat.le_of_ble_eq_true rfl) dX0_roundedToLeastPower_40 (Nat.zero_le _) (Nat.zero_le _) ?_
    exact W.lret (v := bf_pattern (bf_nearestShifted x1 x2) (-1074 : Int32)) hx hb hr (fun t ht hW => ⟨⟨bf_pattern (bf_nearestShifted x1 x2) (-1074 : Int32), (f1, f2), rfl, by rw [bf_roundedToLeastPower, if_pos h1], by rw [ht]; exact hP, va_K.moved hW.alike hK, hD⟩, hS.F ht⟩) hS.2.2 dX0_roundedToLeastPower_43
  · refine lv_aload_n hx hb dX0_roundedToLeastPower_16 rfl (lv_at hl 1 rfl) ?_
    refine lv_lload hx hb dX0_roundedToLeastPower_17 (lv_at hl 0 rfl) ?_
    refine lv_ldc2 hx hb hown (hts (.constantLong RX0 71 4503599627370496) (by decide +kernel)) dX0_roundedToLeastPower_19 ?_
    refine bw_lc_ge (tgt := 31) hx hb dX0_roundedToLeastPower_22 dX0_roundedToLeastPower_23 (by decide) (fun h2 => ?_) (fun h2 => ?_)
    · refine lv_iconst (v := 2) hx hb dX0_roundedToLeastPower_31 (by decide) ?_
      refine bw_vv1 (rest := []) 0 ⟨hx, hb, hml, hown, hts⟩ (bc_raise l dC dI h0 a0 s.heap.size f1 f2 (2 : Int32)) (cwV 1 hts gX0_roundedToLeastPower_X0_raise rfl rfl rfl (by decide +kernel) ⟨Nat.le_of_ble_eq_true rfl, Nat.le_of_ble_eq_true rfl⟩) hK hP hD hS hA rfl rfl rfl hl.1 rfl (Nat.le_of_ble_eq_true rfl) dX0_roundedToLeastPower_32 (Nat.zero_le _) (Nat.zero_le _) (fun H locs hP hD hS => ?_)
      have hP : va_P (dC, dI) vwCl [(h0, .inr (0, [.ref a0, .int ((bf_raise f1 f2 (2 : Int32)).1), .int ((bf_raise f1 f2 (2 : Int32)).2)]))] H := hP
      have hD : va_D A [(h0, .inr (0, [.ref a0, .int ((bf_raise f1 f2 (2 : Int32)).1), .int ((bf_raise f1 f2 (2 : Int32)).2)]))] := hD
      obtain ⟨r3, e3⟩ : ∃ r, (bf_raise f1 f2 (2 : Int32)) = r := ⟨_, rfl⟩
      rw [e3] at hP hD
      refine lv_lload hx hb dX0_roundedToLeastPower_35 (lv_at hl 0 rfl) ?_
      refine lv_sipush (v := -1074) hx hb dX0_roundedToLeastPower_37 (by decide) ?_
      refine bw_csl (rest := []) ⟨hx, hb, hml, hown, hts⟩ (bc_pattern l (bf_nearestShifted x1 x2) (-1074 : Int32)) (va_cwS 2 hts gX0_roundedToLeastPower_X0_pattern rfl rfl rfl (by decide +kernel) ⟨Nat.le_of_ble_eq_true rfl, Nat.le_of_ble_eq_true rfl⟩) rfl hl.1 rfl (Nat.le_of_ble_eq_true rfl) dX0_roundedToLeastPower_40 (Nat.zero_le _) (Nat.zero_le _) ?_
      exact W.lret (v := bf_pattern (bf_nearestShifted x1 x2) (-1074 : Int32)) hx hb hr (fun t ht hW => ⟨⟨bf_pattern (bf_nearestShifted x1 x2) (-1074 : Int32), (r3.1, r3.2), rfl, by rw [bf_roundedToLeastPower, if_neg h1, if_pos h2, e3, bf_roundedToLeastPower_k1], by rw [ht]; exact hP, va_K.moved hW.alike hK, hD⟩, hS.F ht⟩) hS.2.2 dX0_roundedToLeastPower_43
    · refine lv_bipush (v := 10) hx hb dX0_roundedToLeastPower_26 (by decide) ?_
      refine lv_goto (tgt := 32) hx hb dX0_roundedToLeastPower_28 (by decide) ?_
      refine bw_vv1 (rest := []) 0 ⟨hx, hb, hml, hown, hts⟩ (bc_raise l dC dI h0 a0 s.heap.size f1 f2 (10 : Int32)) (cwV 1 hts gX0_roundedToLeastPower_X0_raise rfl rfl rfl (by decide +kernel) ⟨Nat.le_of_ble_eq_true rfl, Nat.le_of_ble_eq_true rfl⟩) hK hP hD hS hA rfl rfl rfl hl.1 rfl (Nat.le_of_ble_eq_true rfl) dX0_roundedToLeastPower_32 (Nat.zero_le _) (Nat.zero_le _) (fun H locs hP hD hS => ?_)
      have hP : va_P (dC, dI) vwCl [(h0, .inr (0, [.ref a0, .int ((bf_raise f1 f2 (10 : Int32)).1), .int ((bf_raise f1 f2 (10 : Int32)).2)]))] H := hP
      have hD : va_D A [(h0, .inr (0, [.ref a0, .int ((bf_raise f1 f2 (10 : Int32)).1), .int ((bf_raise f1 f2 (10 : Int32)).2)]))] := hD
      obtain ⟨r4, e4⟩ : ∃ r, (bf_raise f1 f2 (10 : Int32)) = r := ⟨_, rfl⟩
      rw [e4] at hP hD
      refine lv_lload hx hb dX0_roundedToLeastPower_35 (lv_at hl 0 rfl) ?_
      refine lv_sipush (v := -1074) hx hb dX0_roundedToLeastPower_37 (by decide) ?_
      refine bw_csl (rest := []) ⟨hx, hb, hml, hown, hts⟩ (bc_pattern l (bf_nearestShifted x1 x2) (-1074 : Int32)) (va_cwS 2 hts gX0_roundedToLeastPower_X0_pattern rfl rfl rfl (by decide +kernel) ⟨Nat.le_of_ble_eq_true rfl, Nat.le_of_ble_eq_true rfl⟩) rfl hl.1 rfl (Nat.le_of_ble_eq_true rfl) dX0_roundedToLeastPower_40 (Nat.zero_le _) (Nat.zero_le _) ?_
      exact W.lret (v := bf_pattern (bf_nearestShifted x1 x2) (-1074 : Int32)) hx hb hr (fun t ht hW => ⟨⟨bf_pattern (bf_nearestShifted x1 x2) (-1074 : Int32), (r4.1, r4.2), rfl, by rw [bf_roundedToLeastPower, if_neg h1, if_neg h2, e4, bf_roundedToLeastPower_k2], by rw [ht]; exact hP, va_K.moved hW.alike hK, hD⟩, hS.F ht⟩) hS.2.2 dX0_roundedToLeastPower_43
set_option maxHeartbeats 4000000 in
set_option maxRecDepth 100000 in
theorem bc_timesPowerOfTwo (l : Launch) (dC : Nat → ClassId) (dI : Nat → Nat → Nat) (h0 a0 : Nat) (sz : Nat) (f1 : Int32) (f2 : Int32) (x1 : Int64) (x2 : Int32) : Met l yX0_timesPowerOfTwo wsX0_timesPowerOfTwo ({ frames := 4, cells := 0, slots := 0, locals := 92 }) (va_Pc [.ref h0, .long x1, .int x2] (bw_I1 (dC, dI) vwCl sz h0 (.inr (0, [.ref a0, .int f1, .int f2])))) (va_Ql (fun (r : Int64) (u : Int32 × Int32) => (r, u) = bf_timesPowerOfTwo f1 f2 x1 x2) (fun u t => bw_O1 (dC, dI) vwCl (va_A [(h0, .inr (0, [.ref a0, .int f1, .int f2]))] sz) h0 (.inr (0, [.ref a0, .int u.1, .int u.2])) t) (va_A [(h0, .inr (0, [.ref a0, .int f1, .int f2]))] sz)) 0 0 (va_A [(h0, .inr (0, [.ref a0, .int f1, .int f2]))] sz) := by
  refine Met.ofW (cc := cX0_timesPowerOfTwo) (maxL := 7) (ret := (some .long)) (by decide) rfl ?_
  intro p e s m args below meth c s₁ B hml hv
  obtain ⟨rfl, hsz, hP, hK, hD0⟩ := hv
  have hx := B.exec
  have hb := B.bytes
  have hr := B.returns
  have hts := atoms_spec (ws := wsX0_timesPowerOfTwo) B.pre
  have hown : s.vm.findClass RX0 = some m.cls := findClass_of_methodNamed B.named
  have hlocks := B.notSynchronized
  subst hsz
  have hD := hD0.self (sz := s.heap.size)
  generalize hAe : va_A [(h0, .inr (0, [.ref a0, .int f1, .int f2]))] s.heap.size = A at hD ⊢
  have hA : ∀ q : Nat, s.heap.size ≤ q → A q := fun q h => by rw [← hAe]; exact Or.inr h
  have hS : va_S A s.heap s.heap [] := va_S.rf
  have hP : va_P (dC, dI) vwCl [(h0, .inr (0, [.ref a0, .int f1, .int f2]))] s.heap := hP
  have hl := lv_entry ([.ref h0, .long x1, .int x2]) (n := 7) (Nat.le_of_ble_eq_true rfl)
  rw [lg_entry_eq]
  generalize (lg_sl ([.ref h0, .long x1, .int x2]) ++ List.replicate (7 - (lg_sl ([.ref h0, .long x1, .int x2])).length) Slot.unset).toArray = ls at hl ⊢
  have hl : lv_has ls 7 [(0, .ref h0), (1, .long x1), (3, .int x2)] := hl
  refine lv_lload_n hx hb dX0_timesPowerOfTwo_0 rfl (lv_at hl 1 rfl) ?_
  refine bw_csi (rest := []) ⟨hx, hb, hml, hown, hts⟩ (bc_isNan l x1) (va_cwS 1 hts gX0_timesPowerOfTwo_X0_isNan rfl rfl rfl (by decide +kernel) ⟨Nat.le_of_ble_eq_true rfl, Nat.le_of_ble_eq_true rfl⟩) rfl hl.1 rfl (Nat.le_of_ble_eq_true rfl) dX0_timesPowerOfTwo_1 (Nat.zero_le _) (Nat.zero_le _) ?_
  refine lv_if_eq (tgt := 11) hx hb dX0_timesPowerOfTwo_4 (by decide) (fun h1 => ?_) (fun h1 => ?_)
  · refine lv_lload_n hx hb dX0_timesPowerOfTwo_11 rfl (lv_at hl 1 rfl) ?_
    refine bw_csi (rest := []) ⟨hx, hb, hml, hown, hts⟩ (bc_isZero l x1) (va_cwS 1 hts gX0_timesPowerOfTwo_X0_isZero rfl rfl rfl (by decide +kernel) ⟨Nat.le_of_ble_eq_true rfl, Nat.le_of_ble_eq_true rfl⟩) rfl hl.1 rfl (Nat.le_of_ble_eq_true rfl) dX0_timesPowerOfTwo_12 (Nat.zero_le _) (Nat.zero_le _) ?_
    refine lv_if_ne (tgt := 25) hx hb dX0_timesPowerOfTwo_15 (by decide) (fun h2 => ?_) (fun h2 => ?_)
    · refine lv_lload_n hx hb dX0_timesPowerOfTwo_25 rfl (lv_at hl 1 rfl) ?_
      exact W.lret (v := x1) hx hb hr (fun t ht hW => ⟨⟨x1, (f1, f2), rfl, by rw [bf_timesPowerOfTwo, if_pos h1, if_neg h2], by rw [ht]; exact hP, va_K.moved hW.alike hK, hD⟩, hS.F ht⟩) hS.2.2 dX0_timesPowerOfTwo_26
    · refine lv_lload_n hx hb dX0_timesPowerOfTwo_18 rfl (lv_at hl 1 rfl) ?_
      refine bw_csi (rest := []) ⟨hx, hb, hml, hown, hts⟩ (bc_isInfinity l x1) (va_cwS 1 hts gX0_timesPowerOfTwo_X0_isInfinity rfl rfl rfl (by decide +kernel) ⟨Nat.le_of_ble_eq_true rfl, Nat.le_of_ble_eq_true rfl⟩) rfl hl.1 rfl (Nat.le_of_ble_eq_true rfl) dX0_timesPowerOfTwo_19 (Nat.zero_le _) (Nat.zero_le _) ?_
      refine lv_if_eq (tgt := 27) hx hb dX0_timesPowerOfTwo_22 (by decide) (fun h3 => ?_) (fun h3 => ?_)
      · refine lv_lload_n hx hb dX0_timesPowerOfTwo_27 rfl (lv_at hl 1 rfl) ?_
        refine bw_csi (rest := []) ⟨hx, hb, hml, hown, hts⟩ (bc_fullPower l x1) (va_cwS 1 hts gX0_timesPowerOfTwo_X0_fullPower rfl rfl rfl (by decide +kernel) ⟨Nat.le_of_ble_eq_true rfl, Nat.le_of_ble_eq_true rfl⟩) rfl hl.1 rfl (Nat.le_of_ble_eq_true rfl) dX0_timesPowerOfTwo_28 (Nat.zero_le _) (Nat.zero_le _) ?_
        refine lv_i2l hx hb dX0_timesPowerOfTwo_31 rfl ?_
        refine lv_iload_n hx hb dX0_timesPowerOfTwo_32 rfl (lv_at hl 2 rfl) ?_
        refine lv_i2l hx hb dX0_timesPowerOfTwo_33 rfl ?_
        refine lv_ladd hx hb dX0_timesPowerOfTwo_34 ?_
        refine lv_lstore (nL := 7) (lv' := [(4, .long (((bf_fullPower x1).toInt64) + x2.toInt64)), (0, .ref h0), (1, .long x1), (3, .int x2)]) hx hb dX0_timesPowerOfTwo_35 hl (by decide) rfl (fun ls hl => ?_)
        refine lv_lload hx hb dX0_timesPowerOfTwo_37 (lv_at hl 0 rfl) ?_
        refine lv_ldc2 hx hb hown (hts (.constantLong RX0 132 971) (by decide +kernel)) dX0_timesPowerOfTwo_39 ?_
        refine bw_lc_le (tgt := 61) hx hb dX0_timesPowerOfTwo_42 dX0_timesPowerOfTwo_43 (by decide) (fun h4 => ?_) (fun h4 => ?_)
        · refine lv_lload hx hb dX0_timesPowerOfTwo_61 (lv_at hl 0 rfl) ?_
          refine lv_ldc2 hx hb hown (hts (.constantLong RX0 134 (-1074)) (by decide +kernel)) dX0_timesPowerOfTwo_63 ?_
          refine bw_lc_lt (tgt := 86) hx hb dX0_timesPowerOfTwo_66 dX0_timesPowerOfTwo_67 (by decide) (fun h5 => ?_) (fun h5 => ?_)
          · refine lv_ldc2 hx hb hown (hts (.constantLong RX0 134 (-1074)) (by decide +kernel)) dX0_timesPowerOfTwo_86 ?_
            refine lv_lload hx hb dX0_timesPowerOfTwo_89 (lv_at hl 0 rfl) ?_
            refine lv_lsub hx hb dX0_timesPowerOfTwo_91 ?_
            refine lv_ldc2 hx hb hown (hts (.constantLong RX0 136 60) (by decide +kernel)) dX0_timesPowerOfTwo_92 ?_
            refine va_mmin_long (rest := []) hx hb (hml.trans hl.1.symm) hown (hts (.methodLink RX0 138 Lib.MathLoose.min_long.x) (by decide +kernel)) (hts (.static Lib.MathLoose.min_long.x) (by decide +kernel)) (hts (.initialized "java/lang/Math") (by decide +kernel)) (hts (.code Lib.MathLoose.min_long.x Lib.MathLoose.min_long.code 4 (some .long)) (by decide +kernel)) (Nat.le_of_ble_eq_true rfl) (Nat.le_of_ble_eq_true rfl) (Nat.zero_le _) (Nat.zero_le _) dX0_timesPowerOfTwo_95 ?_
            refine lv_l2i hx hb dX0_timesPowerOfTwo_98 rfl ?_
            refine lv_istore (nL := 7) (lv' := [(6, .int ((if (60 : Int64) < ((-1074 : Int64) - (((bf_fullPower x1).toInt64) + x2.toInt64)) then (60 : Int64) else ((-1074 : Int64) - (((bf_fullPower x1).toInt64) + x2.toInt64))).toInt32)), (4, .long (((bf_fullPower x1).toInt64) + x2.toInt64)), (0, .ref h0), (1, .long x1), (3, .int x2)]) hx hb dX0_timesPowerOfTwo_99 hl (by decide) rfl (fun ls hl => ?_)
            refine lv_lload_n hx hb dX0_timesPowerOfTwo_101 rfl (lv_at hl 3 rfl) ?_
            refine bw_csl (rest := []) ⟨hx, hb, hml, hown, hts⟩ (bc_signOf l x1) (va_cwS 1 hts gX0_timesPowerOfTwo_X0_signOf rfl rfl rfl (by decide +kernel) ⟨Nat.le_of_ble_eq_true rfl, Nat.le_of_ble_eq_true rfl⟩) rfl hl.1 rfl (Nat.le_of_ble_eq_true rfl) dX0_timesPowerOfTwo_102 (Nat.zero_le _) (Nat.zero_le _) ?_
            refine lv_aload_n hx hb dX0_timesPowerOfTwo_105 rfl (lv_at hl 2 rfl) ?_
            refine lv_lload_n hx hb dX0_timesPowerOfTwo_106 rfl (lv_at hl 3 rfl) ?_
            refine bw_csl (rest := [.ref h0, .long (bf_signOf x1)]) ⟨hx, hb, hml, hown, hts⟩ (bc_fullSignificand l x1) (va_cwS 1 hts gX0_timesPowerOfTwo_X0_fullSignificand rfl rfl rfl (by decide +kernel) ⟨Nat.le_of_ble_eq_true rfl, Nat.le_of_ble_eq_true rfl⟩) rfl hl.1 rfl (Nat.le_of_ble_eq_true rfl) dX0_timesPowerOfTwo_107 (Nat.zero_le _) (Nat.zero_le _) ?_
            refine lv_iload hx hb dX0_timesPowerOfTwo_110 (lv_at hl 0 rfl) ?_
            refine bw_vl1 (rest := [.long (bf_signOf x1)]) 0 ⟨hx, hb, hml, hown, hts⟩ (bc_roundedToLeastPower l dC dI h0 a0 s.heap.size f1 f2 (bf_fullSignificand x1) ((if (60 : Int64) < ((-1074 : Int64) - (((bf_fullPower x1).toInt64) + x2.toInt64)) then (60 : Int64) else ((-1074 : Int64) - (((bf_fullPower x1).toInt64) + x2.toInt64))).toInt32)) (cwV 2 hts gX0_timesPowerOfTwo_X0_roundedToLeastPower rfl rfl rfl (by decide +kernel) ⟨Nat.le_of_ble_eq_true rfl, Nat.le_of_ble_eq_true rfl⟩) hK hP hD hS hA rfl rfl rfl hl.1 rfl (Nat.le_of_ble_eq_true rfl) dX0_timesPowerOfTwo_112 (Nat.zero_le _) (Nat.zero_le _) (fun H locs hP hD hS => ?_)
            have hP : va_P (dC, dI) vwCl [(h0, .inr (0, [.ref a0, .int ((bf_roundedToLeastPower f1 f2 (bf_fullSignificand x1) ((if (60 : Int64) < ((-1074 : Int64) - (((bf_fullPower x1).toInt64) + x2.toInt64)) then (60 : Int64) else ((-1074 : Int64) - (((bf_fullPower x1).toInt64) + x2.toInt64))).toInt32)).2.1), .int ((bf_roundedToLeastPower f1 f2 (bf_fullSignificand x1) ((if (60 : Int64) < ((-1074 : Int64) - (((bf_fullPower x1).toInt64) + x2.toInt64)) then (60 : Int64) else ((-1074 : Int64) - (((bf_fullPower x1).toInt64) + x2.toInt64))).toInt32)).2.2)]))] H := hP
            have hD : va_D A [(h0, .inr (0, [.ref a0, .int ((bf_roundedToLeastPower f1 f2 (bf_fullSignificand x1) ((if (60 : Int64) < ((-1074 : Int64) - (((bf_fullPower x1).toInt64) + x2.toInt64)) then (60 : Int64) else ((-1074 : Int64) - (((bf_fullPower x1).toInt64) + x2.toInt64))).toInt32)).2.1), .int ((bf_roundedToLeastPower f1 f2 (bf_fullSignificand x1) ((if (60 : Int64) < ((-1074 : Int64) - (((bf_fullPower x1).toInt64) + x2.toInt64)) then (60 : Int64) else ((-1074 : Int64) - (((bf_fullPower x1).toInt64) + x2.toInt64))).toInt32)).2.2)]))] := hD
            obtain ⟨r6, e6⟩ : ∃ r, (bf_roundedToLeastPower f1 f2 (bf_fullSignificand x1) ((if (60 : Int64) < ((-1074 : Int64) - (((bf_fullPower x1).toInt64) + x2.toInt64)) then (60 : Int64) else ((-1074 : Int64) - (((bf_fullPower x1).toInt64) + x2.toInt64))).toInt32)) = r := ⟨_, rfl⟩
            rw [e6] at hP hD ⊢
            refine lv_lor hx hb dX0_timesPowerOfTwo_115 ?_
            exact W.lret (v := (bf_signOf x1) ||| r6.1) hx hb hr (fun t ht hW => ⟨⟨(bf_signOf x1) ||| r6.1, (r6.2.1, r6.2.2), rfl, by rw [bf_timesPowerOfTwo, if_pos h1, if_pos h2, if_pos h3, if_pos h4, if_pos h5, e6, bf_timesPowerOfTwo_k1], by rw [ht]; exact hP, va_K.moved hW.alike hK, hD⟩, hS.F ht⟩) hS.2.2 dX0_timesPowerOfTwo_116
          · refine lv_lload_n hx hb dX0_timesPowerOfTwo_70 rfl (lv_at hl 2 rfl) ?_
            refine bw_csl (rest := []) ⟨hx, hb, hml, hown, hts⟩ (bc_signOf l x1) (va_cwS 1 hts gX0_timesPowerOfTwo_X0_signOf rfl rfl rfl (by decide +kernel) ⟨Nat.le_of_ble_eq_true rfl, Nat.le_of_ble_eq_true rfl⟩) rfl hl.1 rfl (Nat.le_of_ble_eq_true rfl) dX0_timesPowerOfTwo_71 (Nat.zero_le _) (Nat.zero_le _) ?_
            refine lv_lload_n hx hb dX0_timesPowerOfTwo_74 rfl (lv_at hl 2 rfl) ?_
            refine bw_csl (rest := [.long (bf_signOf x1)]) ⟨hx, hb, hml, hown, hts⟩ (bc_fullSignificand l x1) (va_cwS 1 hts gX0_timesPowerOfTwo_X0_fullSignificand rfl rfl rfl (by decide +kernel) ⟨Nat.le_of_ble_eq_true rfl, Nat.le_of_ble_eq_true rfl⟩) rfl hl.1 rfl (Nat.le_of_ble_eq_true rfl) dX0_timesPowerOfTwo_75 (Nat.zero_le _) (Nat.zero_le _) ?_
            refine lv_lload hx hb dX0_timesPowerOfTwo_78 (lv_at hl 0 rfl) ?_
            refine lv_l2i hx hb dX0_timesPowerOfTwo_80 rfl ?_
            refine bw_csl (rest := [.long (bf_signOf x1)]) ⟨hx, hb, hml, hown, hts⟩ (bc_pattern l (bf_fullSignificand x1) ((((bf_fullPower x1).toInt64) + x2.toInt64).toInt32)) (va_cwS 2 hts gX0_timesPowerOfTwo_X0_pattern rfl rfl rfl (by decide +kernel) ⟨Nat.le_of_ble_eq_true rfl, Nat.le_of_ble_eq_true rfl⟩) rfl hl.1 rfl (Nat.le_of_ble_eq_true rfl) dX0_timesPowerOfTwo_81 (Nat.zero_le _) (Nat.zero_le _) ?_
            refine lv_lor hx hb dX0_timesPowerOfTwo_84 ?_
            exact W.lret (v := (bf_signOf x1) ||| (bf_pattern (bf_fullSignificand x1) ((((bf_fullPower x1).toInt64) + x2.toInt64).toInt32))) hx hb hr (fun t ht hW => ⟨⟨(bf_signOf x1) ||| (bf_pattern (bf_fullSignificand x1) ((((bf_fullPower x1).toInt64) + x2.toInt64).toInt32)), (f1, f2), rfl, by rw [bf_timesPowerOfTwo, if_pos h1, if_pos h2, if_pos h3, if_pos h4, if_neg h5], by rw [ht]; exact hP, va_K.moved hW.alike hK, hD⟩, hS.F ht⟩) hS.2.2 dX0_timesPowerOfTwo_85
        · refine lv_aload_n hx hb dX0_timesPowerOfTwo_46 rfl (lv_at hl 1 rfl) ?_
          refine lv_bipush (v := 6) hx hb dX0_timesPowerOfTwo_47 (by decide) ?_
          refine bw_vv1 (rest := []) 0 ⟨hx, hb, hml, hown, hts⟩ (bc_raise l dC dI h0 a0 s.heap.size f1 f2 (6 : Int32)) (cwV 1 hts gX0_timesPowerOfTwo_X0_raise rfl rfl rfl (by decide +kernel) ⟨Nat.le_of_ble_eq_true rfl, Nat.le_of_ble_eq_true rfl⟩) hK hP hD hS hA rfl rfl rfl hl.1 rfl (Nat.le_of_ble_eq_true rfl) dX0_timesPowerOfTwo_49 (Nat.zero_le _) (Nat.zero_le _) (fun H locs hP hD hS => ?_)
          have hP : va_P (dC, dI) vwCl [(h0, .inr (0, [.ref a0, .int ((bf_raise f1 f2 (6 : Int32)).1), .int ((bf_raise f1 f2 (6 : Int32)).2)]))] H := hP
          have hD : va_D A [(h0, .inr (0, [.ref a0, .int ((bf_raise f1 f2 (6 : Int32)).1), .int ((bf_raise f1 f2 (6 : Int32)).2)]))] := hD
          obtain ⟨r7, e7⟩ : ∃ r, (bf_raise f1 f2 (6 : Int32)) = r := ⟨_, rfl⟩
          rw [e7] at hP hD
          refine lv_lload_n hx hb dX0_timesPowerOfTwo_52 rfl (lv_at hl 2 rfl) ?_
          refine bw_csl (rest := []) ⟨hx, hb, hml, hown, hts⟩ (bc_signOf l x1) (va_cwS 1 hts gX0_timesPowerOfTwo_X0_signOf rfl rfl rfl (by decide +kernel) ⟨Nat.le_of_ble_eq_true rfl, Nat.le_of_ble_eq_true rfl⟩) rfl hl.1 rfl (Nat.le_of_ble_eq_true rfl) dX0_timesPowerOfTwo_53 (Nat.zero_le _) (Nat.zero_le _) ?_
          refine lv_ldc2 hx hb hown (hts (.constantLong RX0 67 9218868437227405312) (by decide +kernel)) dX0_timesPowerOfTwo_56 ?_
          refine lv_lor hx hb dX0_timesPowerOfTwo_59 ?_
          exact W.lret (v := (bf_signOf x1) ||| (9218868437227405312 : Int64)) hx hb hr (fun t ht hW => ⟨⟨(bf_signOf x1) ||| (9218868437227405312 : Int64), (r7.1, r7.2), rfl, by rw [bf_timesPowerOfTwo, if_pos h1, if_pos h2, if_pos h3, if_neg h4, e7, bf_timesPowerOfTwo_k2], by rw [ht]; exact hP, va_K.moved hW.alike hK, hD⟩, hS.F ht⟩) hS.2.2 dX0_timesPowerOfTwo_60
      · refine lv_lload_n hx hb dX0_timesPowerOfTwo_25 rfl (lv_at hl 1 rfl) ?_
        exact W.lret (v := x1) hx hb hr (fun t ht hW => ⟨⟨x1, (f1, f2), rfl, by rw [bf_timesPowerOfTwo, if_pos h1, if_pos h2, if_neg h3], by rw [ht]; exact hP, va_K.moved hW.alike hK, hD⟩, hS.F ht⟩) hS.2.2 dX0_timesPowerOfTwo_26
  · refine lv_ldc2 hx hb hown (hts (.constantLong RX0 101 9221120237041090560) (by decide +kernel)) dX0_timesPowerOfTwo_7 ?_
    exact W.lret (v := (9221120237041090560 : Int64)) hx hb hr (fun t ht hW => ⟨⟨(9221120237041090560 : Int64), (f1, f2), rfl, by rw [bf_timesPowerOfTwo, if_neg h1], by rw [ht]; exact hP, va_K.moved hW.alike hK, hD⟩, hS.F ht⟩) hS.2.2 dX0_timesPowerOfTwo_10
