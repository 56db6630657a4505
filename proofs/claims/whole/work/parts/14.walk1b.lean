/-! walks: the reference, methods over the object -/
set_option maxHeartbeats 4000000 in
set_option maxRecDepth 100000 in
theorem bd_multiply (l : Launch) (dC : Nat → ClassId) (dI : Nat → Nat → Nat) (h0 a0 : Nat) (sz : Nat) (f1 : Int32) (f2 : Int32) (f3 : Int64) (f4 : Int64) (x1 : Int64) (x2 : Int64) : Met l yX1_multiply wsX1_multiply ({ frames := 0, cells := 0, slots := 0, locals := 0 }) (va_Pc [.ref h0, .long x1, .long x2] (bw_I1 (dC, dI) vwCl sz h0 (.inr (1, [.ref a0, .int f1, .int f2, .long f3, .long f4])))) (va_Qv (fun (u : Int32 × Int32 × Int64 × Int64) => u = bg_multiply f1 f2 f3 f4 x1 x2) (fun u t => bw_O1 (dC, dI) vwCl (va_A [(h0, .inr (1, [.ref a0, .int f1, .int f2, .long f3, .long f4]))] sz) h0 (.inr (1, [.ref a0, .int u.1, .int u.2.1, .long u.2.2.1, .long u.2.2.2])) t) (va_A [(h0, .inr (1, [.ref a0, .int f1, .int f2, .long f3, .long f4]))] sz)) 0 0 (va_A [(h0, .inr (1, [.ref a0, .int f1, .int f2, .long f3, .long f4]))] sz) := by
  refine Met.ofW (cc := cX1_multiply) (maxL := 17) (ret := none) (by decide) rfl ?_
  intro p e s m args below meth c s₁ B hml hv
  obtain ⟨rfl, hsz, hP, hK, hD0⟩ := hv
  have hx := B.exec
  have hb := B.bytes
  have hr := B.returns
  have hts := atoms_spec (ws := wsX1_multiply) B.pre
  have hown : s.vm.findClass RX1 = some m.cls := findClass_of_methodNamed B.named
  have hlocks := B.notSynchronized
  subst hsz
  have hD := hD0.self (sz := s.heap.size)
  generalize hAe : va_A [(h0, .inr (1, [.ref a0, .int f1, .int f2, .long f3, .long f4]))] s.heap.size = A at hD ⊢
  have hA : ∀ q : Nat, s.heap.size ≤ q → A q := fun q h => by rw [← hAe]; exact Or.inr h
  have hS : va_S A s.heap s.heap [] := va_S.rf
  have hP : va_P (dC, dI) vwCl [(h0, .inr (1, [.ref a0, .int f1, .int f2, .long f3, .long f4]))] s.heap := hP
  have hin0 : ∀ w ∈ u_ws RX1 TX1 5, w ∈ wsX1_multiply := by decide +kernel
  have hl := lv_entry ([.ref h0, .long x1, .long x2]) (n := 17) (Nat.le_of_ble_eq_true rfl)
  rw [lg_entry_eq]
  generalize (lg_sl ([.ref h0, .long x1, .long x2]) ++ List.replicate (17 - (lg_sl ([.ref h0, .long x1, .long x2])).length) Slot.unset).toArray = ls at hl ⊢
  have hl : lv_has ls 17 [(0, .ref h0), (1, .long x1), (3, .long x2)] := hl
  refine lv_lload_n hx hb dX1_multiply_0 rfl (lv_at hl 1 rfl) ?_
  refine lv_bipush (v := 27) hx hb dX1_multiply_1 (by decide) ?_
  refine lv_lshr hx hb dX1_multiply_3 rfl ?_
  refine lv_lstore (nL := 17) (lv' := [(5, .long (x1 >>> ((27 : Int32).toInt64 &&& 63))), (0, .ref h0), (1, .long x1), (3, .long x2)]) hx hb dX1_multiply_4 hl (by decide) rfl (fun ls hl => ?_)
  refine lv_lload_n hx hb dX1_multiply_6 rfl (lv_at hl 2 rfl) ?_
  refine lv_ldc2 hx hb hown (hts (.constantLong RX1 33 134217727) (by decide +kernel)) dX1_multiply_7 ?_
  refine lv_land hx hb dX1_multiply_10 ?_
  refine lv_lstore (nL := 17) (lv' := [(7, .long (x1 &&& (134217727 : Int64))), (5, .long (x1 >>> ((27 : Int32).toInt64 &&& 63))), (0, .ref h0), (1, .long x1), (3, .long x2)]) hx hb dX1_multiply_11 hl (by decide) rfl (fun ls hl => ?_)
  refine lv_lload_n hx hb dX1_multiply_13 rfl (lv_at hl 4 rfl) ?_
  refine lv_bipush (v := 27) hx hb dX1_multiply_14 (by decide) ?_
  refine lv_lshr hx hb dX1_multiply_16 rfl ?_
  refine lv_lstore (nL := 17) (lv' := [(9, .long (x2 >>> ((27 : Int32).toInt64 &&& 63))), (7, .long (x1 &&& (134217727 : Int64))), (5, .long (x1 >>> ((27 : Int32).toInt64 &&& 63))), (0, .ref h0), (1, .long x1), (3, .long x2)]) hx hb dX1_multiply_17 hl (by decide) rfl (fun ls hl => ?_)
  refine lv_lload_n hx hb dX1_multiply_19 rfl (lv_at hl 5 rfl) ?_
  refine lv_ldc2 hx hb hown (hts (.constantLong RX1 33 134217727) (by decide +kernel)) dX1_multiply_20 ?_
  refine lv_land hx hb dX1_multiply_23 ?_
  refine lv_lstore (nL := 17) (lv' := [(11, .long (x2 &&& (134217727 : Int64))), (9, .long (x2 >>> ((27 : Int32).toInt64 &&& 63))), (7, .long (x1 &&& (134217727 : Int64))), (5, .long (x1 >>> ((27 : Int32).toInt64 &&& 63))), (0, .ref h0), (1, .long x1), (3, .long x2)]) hx hb dX1_multiply_24 hl (by decide) rfl (fun ls hl => ?_)
  refine lv_lload hx hb dX1_multiply_26 (lv_at hl 3 rfl) ?_
  refine lv_lload hx hb dX1_multiply_28 (lv_at hl 0 rfl) ?_
  refine lv_lmul hx hb dX1_multiply_30 ?_
  refine lv_lload hx hb dX1_multiply_31 (lv_at hl 2 rfl) ?_
  refine lv_lload hx hb dX1_multiply_33 (lv_at hl 1 rfl) ?_
  refine lv_lmul hx hb dX1_multiply_35 ?_
  refine lv_ladd hx hb dX1_multiply_36 ?_
  refine lv_lstore (nL := 17) (lv' := [(13, .long (((x1 >>> ((27 : Int32).toInt64 &&& 63)) * (x2 &&& (134217727 : Int64))) + ((x1 &&& (134217727 : Int64)) * (x2 >>> ((27 : Int32).toInt64 &&& 63))))), (11, .long (x2 &&& (134217727 : Int64))), (9, .long (x2 >>> ((27 : Int32).toInt64 &&& 63))), (7, .long (x1 &&& (134217727 : Int64))), (5, .long (x1 >>> ((27 : Int32).toInt64 &&& 63))), (0, .ref h0), (1, .long x1), (3, .long x2)]) hx hb dX1_multiply_37 hl (by decide) rfl (fun ls hl => ?_)
  refine lv_lload hx hb dX1_multiply_39 (lv_at hl 3 rfl) ?_
  refine lv_lload hx hb dX1_multiply_41 (lv_at hl 1 rfl) ?_
  refine lv_lmul hx hb dX1_multiply_43 ?_
  refine lv_lload hx hb dX1_multiply_44 (lv_at hl 0 rfl) ?_
  refine lv_ldc2 hx hb hown (hts (.constantLong RX1 33 134217727) (by decide +kernel)) dX1_multiply_46 ?_
  refine lv_land hx hb dX1_multiply_49 ?_
  refine lv_bipush (v := 27) hx hb dX1_multiply_50 (by decide) ?_
  refine lv_lshl hx hb dX1_multiply_52 rfl ?_
  refine lv_ladd hx hb dX1_multiply_53 ?_
  refine lv_lstore (nL := 17) (lv' := [(15, .long (((x1 &&& (134217727 : Int64)) * (x2 &&& (134217727 : Int64))) + (((((x1 >>> ((27 : Int32).toInt64 &&& 63)) * (x2 &&& (134217727 : Int64))) + ((x1 &&& (134217727 : Int64)) * (x2 >>> ((27 : Int32).toInt64 &&& 63)))) &&& (134217727 : Int64)) <<< ((27 : Int32).toInt64 &&& 63)))), (13, .long (((x1 >>> ((27 : Int32).toInt64 &&& 63)) * (x2 &&& (134217727 : Int64))) + ((x1 &&& (134217727 : Int64)) * (x2 >>> ((27 : Int32).toInt64 &&& 63))))), (11, .long (x2 &&& (134217727 : Int64))), (9, .long (x2 >>> ((27 : Int32).toInt64 &&& 63))), (7, .long (x1 &&& (134217727 : Int64))), (5, .long (x1 >>> ((27 : Int32).toInt64 &&& 63))), (0, .ref h0), (1, .long x1), (3, .long x2)]) hx hb dX1_multiply_54 hl (by decide) rfl (fun ls hl => ?_)
  refine lv_aload_n hx hb dX1_multiply_56 rfl (lv_at hl 6 rfl) ?_
  refine lv_lload hx hb dX1_multiply_57 (lv_at hl 0 rfl) ?_
  refine lv_ldc2 hx hb hown (hts (.constantLong RX1 35 18014398509481983) (by decide +kernel)) dX1_multiply_59 ?_
  refine lv_land hx hb dX1_multiply_62 ?_
  refine va_put (D := (dC, dI)) (ci := 1) (v := .long ((((x1 &&& (134217727 : Int64)) * (x2 &&& (134217727 : Int64))) + (((((x1 >>> ((27 : Int32).toInt64 &&& 63)) * (x2 &&& (134217727 : Int64))) + ((x1 &&& (134217727 : Int64)) * (x2 >>> ((27 : Int32).toInt64 &&& 63)))) &&& (134217727 : Int64)) <<< ((27 : Int32).toInt64 &&& 63))) &&& (18014398509481983 : Int64))) (ty := .long) (C := RX1) (T := TX1) (N := 5) hx hb hts hin0 tyX1 tyX1_ok nmX1 hown hK hP hD hS 0 rfl rfl 4 (by decide) (hts (.fieldLink RX1 37 "BinaryFunctionsModel" "low" "J") (by decide +kernel)) (fun _ h9 => h9) rfl (by decide +kernel) rfl rfl (Nat.le_of_ble_eq_true rfl) dX1_multiply_63 (fun H locs hP hD hS => ?_)
  have hP : va_P (dC, dI) vwCl [(h0, .inr (1, [.ref a0, .int f1, .int f2, .long f3, .long ((((x1 &&& (134217727 : Int64)) * (x2 &&& (134217727 : Int64))) + (((((x1 >>> ((27 : Int32).toInt64 &&& 63)) * (x2 &&& (134217727 : Int64))) + ((x1 &&& (134217727 : Int64)) * (x2 >>> ((27 : Int32).toInt64 &&& 63)))) &&& (134217727 : Int64)) <<< ((27 : Int32).toInt64 &&& 63))) &&& (18014398509481983 : Int64))]))] H := hP
  have hD : va_D A [(h0, .inr (1, [.ref a0, .int f1, .int f2, .long f3, .long ((((x1 &&& (134217727 : Int64)) * (x2 &&& (134217727 : Int64))) + (((((x1 >>> ((27 : Int32).toInt64 &&& 63)) * (x2 &&& (134217727 : Int64))) + ((x1 &&& (134217727 : Int64)) * (x2 >>> ((27 : Int32).toInt64 &&& 63)))) &&& (134217727 : Int64)) <<< ((27 : Int32).toInt64 &&& 63))) &&& (18014398509481983 : Int64))]))] := hD
  refine lv_aload_n hx hb dX1_multiply_66 rfl (lv_at hl 6 rfl) ?_
  refine lv_lload hx hb dX1_multiply_67 (lv_at hl 5 rfl) ?_
  refine lv_lload hx hb dX1_multiply_69 (lv_at hl 3 rfl) ?_
  refine lv_lmul hx hb dX1_multiply_71 ?_
  refine lv_lload hx hb dX1_multiply_72 (lv_at hl 1 rfl) ?_
  refine lv_bipush (v := 27) hx hb dX1_multiply_74 (by decide) ?_
  refine lv_lshr hx hb dX1_multiply_76 rfl ?_
  refine lv_ladd hx hb dX1_multiply_77 ?_
  refine lv_lload hx hb dX1_multiply_78 (lv_at hl 0 rfl) ?_
  refine lv_bipush (v := 54) hx hb dX1_multiply_80 (by decide) ?_
  refine lv_lshr hx hb dX1_multiply_82 rfl ?_
  refine lv_ladd hx hb dX1_multiply_83 ?_
  refine va_put (D := (dC, dI)) (ci := 1) (v := .long ((((x1 >>> ((27 : Int32).toInt64 &&& 63)) * (x2 >>> ((27 : Int32).toInt64 &&& 63))) + ((((x1 >>> ((27 : Int32).toInt64 &&& 63)) * (x2 &&& (134217727 : Int64))) + ((x1 &&& (134217727 : Int64)) * (x2 >>> ((27 : Int32).toInt64 &&& 63)))) >>> ((27 : Int32).toInt64 &&& 63))) + ((((x1 &&& (134217727 : Int64)) * (x2 &&& (134217727 : Int64))) + (((((x1 >>> ((27 : Int32).toInt64 &&& 63)) * (x2 &&& (134217727 : Int64))) + ((x1 &&& (134217727 : Int64)) * (x2 >>> ((27 : Int32).toInt64 &&& 63)))) &&& (134217727 : Int64)) <<< ((27 : Int32).toInt64 &&& 63))) >>> ((54 : Int32).toInt64 &&& 63)))) (ty := .long) (C := RX1) (T := TX1) (N := 5) hx hb hts hin0 tyX1 tyX1_ok nmX1 hown hK hP hD hS 0 rfl rfl 3 (by decide) (hts (.fieldLink RX1 41 "BinaryFunctionsModel" "high" "J") (by decide +kernel)) (fun _ h9 => h9) rfl (by decide +kernel) rfl rfl (Nat.le_of_ble_eq_true rfl) dX1_multiply_84 (fun H locs hP hD hS => ?_)
  have hP : va_P (dC, dI) vwCl [(h0, .inr (1, [.ref a0, .int f1, .int f2, .long ((((x1 >>> ((27 : Int32).toInt64 &&& 63)) * (x2 >>> ((27 : Int32).toInt64 &&& 63))) + ((((x1 >>> ((27 : Int32).toInt64 &&& 63)) * (x2 &&& (134217727 : Int64))) + ((x1 &&& (134217727 : Int64)) * (x2 >>> ((27 : Int32).toInt64 &&& 63)))) >>> ((27 : Int32).toInt64 &&& 63))) + ((((x1 &&& (134217727 : Int64)) * (x2 &&& (134217727 : Int64))) + (((((x1 >>> ((27 : Int32).toInt64 &&& 63)) * (x2 &&& (134217727 : Int64))) + ((x1 &&& (134217727 : Int64)) * (x2 >>> ((27 : Int32).toInt64 &&& 63)))) &&& (134217727 : Int64)) <<< ((27 : Int32).toInt64 &&& 63))) >>> ((54 : Int32).toInt64 &&& 63))), .long ((((x1 &&& (134217727 : Int64)) * (x2 &&& (134217727 : Int64))) + (((((x1 >>> ((27 : Int32).toInt64 &&& 63)) * (x2 &&& (134217727 : Int64))) + ((x1 &&& (134217727 : Int64)) * (x2 >>> ((27 : Int32).toInt64 &&& 63)))) &&& (134217727 : Int64)) <<< ((27 : Int32).toInt64 &&& 63))) &&& (18014398509481983 : Int64))]))] H := hP
  have hD : va_D A [(h0, .inr (1, [.ref a0, .int f1, .int f2, .long ((((x1 >>> ((27 : Int32).toInt64 &&& 63)) * (x2 >>> ((27 : Int32).toInt64 &&& 63))) + ((((x1 >>> ((27 : Int32).toInt64 &&& 63)) * (x2 &&& (134217727 : Int64))) + ((x1 &&& (134217727 : Int64)) * (x2 >>> ((27 : Int32).toInt64 &&& 63)))) >>> ((27 : Int32).toInt64 &&& 63))) + ((((x1 &&& (134217727 : Int64)) * (x2 &&& (134217727 : Int64))) + (((((x1 >>> ((27 : Int32).toInt64 &&& 63)) * (x2 &&& (134217727 : Int64))) + ((x1 &&& (134217727 : Int64)) * (x2 >>> ((27 : Int32).toInt64 &&& 63)))) &&& (134217727 : Int64)) <<< ((27 : Int32).toInt64 &&& 63))) >>> ((54 : Int32).toInt64 &&& 63))), .long ((((x1 &&& (134217727 : Int64)) * (x2 &&& (134217727 : Int64))) + (((((x1 >>> ((27 : Int32).toInt64 &&& 63)) * (x2 &&& (134217727 : Int64))) + ((x1 &&& (134217727 : Int64)) * (x2 >>> ((27 : Int32).toInt64 &&& 63)))) &&& (134217727 : Int64)) <<< ((27 : Int32).toInt64 &&& 63))) &&& (18014398509481983 : Int64))]))] := hD
  exact W.vret hx hb hr (fun t ht hW => ⟨⟨(f1, f2, (((x1 >>> ((27 : Int32).toInt64 &&& 63)) * (x2 >>> ((27 : Int32).toInt64 &&& 63))) + ((((x1 >>> ((27 : Int32).toInt64 &&& 63)) * (x2 &&& (134217727 : Int64))) + ((x1 &&& (134217727 : Int64)) * (x2 >>> ((27 : Int32).toInt64 &&& 63)))) >>> ((27 : Int32).toInt64 &&& 63))) + ((((x1 &&& (134217727 : Int64)) * (x2 &&& (134217727 : Int64))) + (((((x1 >>> ((27 : Int32).toInt64 &&& 63)) * (x2 &&& (134217727 : Int64))) + ((x1 &&& (134217727 : Int64)) * (x2 >>> ((27 : Int32).toInt64 &&& 63)))) &&& (134217727 : Int64)) <<< ((27 : Int32).toInt64 &&& 63))) >>> ((54 : Int32).toInt64 &&& 63)), (((x1 &&& (134217727 : Int64)) * (x2 &&& (134217727 : Int64))) + (((((x1 >>> ((27 : Int32).toInt64 &&& 63)) * (x2 &&& (134217727 : Int64))) + ((x1 &&& (134217727 : Int64)) * (x2 >>> ((27 : Int32).toInt64 &&& 63)))) &&& (134217727 : Int64)) <<< ((27 : Int32).toInt64 &&& 63))) &&& (18014398509481983 : Int64)), rfl, by rw [bg_multiply], by rw [ht]; exact hP, va_K.moved hW.alike hK, hD⟩, hS.F ht⟩) hS.2.2 dX1_multiply_87
set_option maxHeartbeats 4000000 in
set_option maxRecDepth 100000 in
theorem bd_squareFits (l : Launch) (dC : Nat → ClassId) (dI : Nat → Nat → Nat) (h0 a0 : Nat) (sz : Nat) (f1 : Int32) (f2 : Int32) (f3 : Int64) (f4 : Int64) (x1 : Int64) (x2 : Int64) (x3 : Int64) : Met l yX1_squareFits wsX1_squareFits ({ frames := 1, cells := 0, slots := 0, locals := 36 }) (va_Pc [.ref h0, .long x1, .long x2, .long x3] (bw_I1 (dC, dI) vwCl sz h0 (.inr (1, [.ref a0, .int f1, .int f2, .long f3, .long f4])))) (va_Qi (fun (r : Int32) (u : Int32 × Int32 × Int64 × Int64) => (r, u) = bg_squareFits f1 f2 f3 f4 x1 x2 x3) (fun u t => bw_O1 (dC, dI) vwCl (va_A [(h0, .inr (1, [.ref a0, .int f1, .int f2, .long f3, .long f4]))] sz) h0 (.inr (1, [.ref a0, .int u.1, .int u.2.1, .long u.2.2.1, .long u.2.2.2])) t) (va_A [(h0, .inr (1, [.ref a0, .int f1, .int f2, .long f3, .long f4]))] sz)) 0 0 (va_A [(h0, .inr (1, [.ref a0, .int f1, .int f2, .long f3, .long f4]))] sz) := by
  refine Met.ofW (cc := cX1_squareFits) (maxL := 7) (ret := (some .boolean)) (by decide) rfl ?_
  intro p e s m args below meth c s₁ B hml hv
  obtain ⟨rfl, hsz, hP, hK, hD0⟩ := hv
  have hx := B.exec
  have hb := B.bytes
  have hr := B.returns
  have hts := atoms_spec (ws := wsX1_squareFits) B.pre
  have hown : s.vm.findClass RX1 = some m.cls := findClass_of_methodNamed B.named
  have hlocks := B.notSynchronized
  subst hsz
  have hD := hD0.self (sz := s.heap.size)
  generalize hAe : va_A [(h0, .inr (1, [.ref a0, .int f1, .int f2, .long f3, .long f4]))] s.heap.size = A at hD ⊢
  have hA : ∀ q : Nat, s.heap.size ≤ q → A q := fun q h => by rw [← hAe]; exact Or.inr h
  have hS : va_S A s.heap s.heap [] := va_S.rf
  have hP : va_P (dC, dI) vwCl [(h0, .inr (1, [.ref a0, .int f1, .int f2, .long f3, .long f4]))] s.heap := hP
  have hin0 : ∀ w ∈ u_ws RX1 TX1 5, w ∈ wsX1_squareFits := by decide +kernel
  have hl := lv_entry ([.ref h0, .long x1, .long x2, .long x3]) (n := 7) (Nat.le_of_ble_eq_true rfl)
  rw [lg_entry_eq]
  generalize (lg_sl ([.ref h0, .long x1, .long x2, .long x3]) ++ List.replicate (7 - (lg_sl ([.ref h0, .long x1, .long x2, .long x3])).length) Slot.unset).toArray = ls at hl ⊢
  have hl : lv_has ls 7 [(0, .ref h0), (1, .long x1), (3, .long x2), (5, .long x3)] := hl
  refine lv_aload_n hx hb dX1_squareFits_0 rfl (lv_at hl 0 rfl) ?_
  refine lv_lload_n hx hb dX1_squareFits_1 rfl (lv_at hl 1 rfl) ?_
  refine lv_lload_n hx hb dX1_squareFits_2 rfl (lv_at hl 1 rfl) ?_
  refine bw_vv1 (rest := []) 0 ⟨hx, hb, hml, hown, hts⟩ (bd_multiply l dC dI h0 a0 s.heap.size f1 f2 f3 f4 x1 x1) (cwV 2 hts gX1_squareFits_X1_multiply rfl rfl rfl (by decide +kernel) ⟨Nat.le_of_ble_eq_true rfl, Nat.le_of_ble_eq_true rfl⟩) hK hP hD hS hA rfl rfl rfl hl.1 rfl (Nat.le_of_ble_eq_true rfl) dX1_squareFits_3 (Nat.zero_le _) (Nat.zero_le _) (fun H locs hP hD hS => ?_)
  have hP : va_P (dC, dI) vwCl [(h0, .inr (1, [.ref a0, .int ((bg_multiply f1 f2 f3 f4 x1 x1).1), .int ((bg_multiply f1 f2 f3 f4 x1 x1).2.1), .long ((bg_multiply f1 f2 f3 f4 x1 x1).2.2.1), .long ((bg_multiply f1 f2 f3 f4 x1 x1).2.2.2)]))] H := hP
  have hD : va_D A [(h0, .inr (1, [.ref a0, .int ((bg_multiply f1 f2 f3 f4 x1 x1).1), .int ((bg_multiply f1 f2 f3 f4 x1 x1).2.1), .long ((bg_multiply f1 f2 f3 f4 x1 x1).2.2.1), .long ((bg_multiply f1 f2 f3 f4 x1 x1).2.2.2)]))] := hD
  obtain ⟨r1, e1⟩ : ∃ r, (bg_multiply f1 f2 f3 f4 x1 x1) = r := ⟨_, rfl⟩
  rw [e1] at hP hD
  refine lv_aload_n hx hb dX1_squareFits_6 rfl (lv_at hl 0 rfl) ?_
  refine va_get (D := (dC, dI)) (ci := 1) (v := .long r1.2.2.1) (C := RX1) (T := TX1) (N := 5) hx hb hts hin0 hown hK hP 0 rfl rfl 3 (by decide) (hts (.fieldLink RX1 41 "BinaryFunctionsModel" "high" "J") (by decide +kernel)) (fun _ h9 => h9) rfl dX1_squareFits_7 ?_
  refine lv_lload_n hx hb dX1_squareFits_10 rfl (lv_at hl 2 rfl) ?_
  refine bw_lc_lt (tgt := 34) hx hb dX1_squareFits_11 dX1_squareFits_12 (by decide) (fun h2 => ?_) (fun h2 => ?_)
  · refine lv_iconst (v := 1) hx hb dX1_squareFits_34 (by decide) ?_
    refine lv_goto (tgt := 39) hx hb dX1_squareFits_35 (by decide) ?_
    exact W.zret (v := (1 : Int32)) hx hb hr rfl (fun t ht hW => ⟨⟨(1 : Int32), (r1.1, r1.2.1, r1.2.2.1, r1.2.2.2), rfl, by rw [bg_squareFits, e1, bg_squareFits_k1, if_pos h2], by rw [ht]; exact hP, va_K.moved hW.alike hK, hD⟩, hS.F ht⟩) hS.2.2 dX1_squareFits_39
  · refine lv_aload_n hx hb dX1_squareFits_15 rfl (lv_at hl 0 rfl) ?_
    refine va_get (D := (dC, dI)) (ci := 1) (v := .long r1.2.2.1) (C := RX1) (T := TX1) (N := 5) hx hb hts hin0 hown hK hP 0 rfl rfl 3 (by decide) (hts (.fieldLink RX1 41 "BinaryFunctionsModel" "high" "J") (by decide +kernel)) (fun _ h9 => h9) rfl dX1_squareFits_16 ?_
    refine lv_lload_n hx hb dX1_squareFits_19 rfl (lv_at hl 2 rfl) ?_
    refine bw_lc_ne (tgt := 38) hx hb dX1_squareFits_20 dX1_squareFits_21 (by decide) (fun h3 => ?_) (fun h3 => ?_)
    · refine lv_iconst (v := 0) hx hb dX1_squareFits_38 (by decide) ?_
      exact W.zret (v := (0 : Int32)) hx hb hr rfl (fun t ht hW => ⟨⟨(0 : Int32), (r1.1, r1.2.1, r1.2.2.1, r1.2.2.2), rfl, by rw [bg_squareFits, e1, bg_squareFits_k1, if_neg h2, if_neg h3], by rw [ht]; exact hP, va_K.moved hW.alike hK, hD⟩, hS.F ht⟩) hS.2.2 dX1_squareFits_39
    · refine lv_aload_n hx hb dX1_squareFits_24 rfl (lv_at hl 0 rfl) ?_
      refine va_get (D := (dC, dI)) (ci := 1) (v := .long r1.2.2.2) (C := RX1) (T := TX1) (N := 5) hx hb hts hin0 hown hK hP 0 rfl rfl 4 (by decide) (hts (.fieldLink RX1 37 "BinaryFunctionsModel" "low" "J") (by decide +kernel)) (fun _ h9 => h9) rfl dX1_squareFits_25 ?_
      refine lv_lload hx hb dX1_squareFits_28 (lv_at hl 3 rfl) ?_
      refine bw_lc_gt (tgt := 38) hx hb dX1_squareFits_30 dX1_squareFits_31 (by decide) (fun h4 => ?_) (fun h4 => ?_)
      · refine lv_iconst (v := 0) hx hb dX1_squareFits_38 (by decide) ?_
        exact W.zret (v := (0 : Int32)) hx hb hr rfl (fun t ht hW => ⟨⟨(0 : Int32), (r1.1, r1.2.1, r1.2.2.1, r1.2.2.2), rfl, by rw [bg_squareFits, e1, bg_squareFits_k1, if_neg h2, if_pos h3, if_pos h4], by rw [ht]; exact hP, va_K.moved hW.alike hK, hD⟩, hS.F ht⟩) hS.2.2 dX1_squareFits_39
      · refine lv_iconst (v := 1) hx hb dX1_squareFits_34 (by decide) ?_
        refine lv_goto (tgt := 39) hx hb dX1_squareFits_35 (by decide) ?_
        exact W.zret (v := (1 : Int32)) hx hb hr rfl (fun t ht hW => ⟨⟨(1 : Int32), (r1.1, r1.2.1, r1.2.2.1, r1.2.2.2), rfl, by rw [bg_squareFits, e1, bg_squareFits_k1, if_neg h2, if_pos h3, if_neg h4], by rw [ht]; exact hP, va_K.moved hW.alike hK, hD⟩, hS.F ht⟩) hS.2.2 dX1_squareFits_39
set_option maxHeartbeats 4000000 in
set_option maxRecDepth 100000 in
theorem bl_root_1_w {p : Program} {l : Launch} {e : Env} {R : Room} {s : State} {m : MethodId} {args : Array Value} {below : List Frame} {meth : Method} {c : Code} {H : Heap} {locs : List Loc} {Q : State → Prop} (hx : p.tables.exec = Jvm.exec) (hb : c.code = cX1_root) (hml : c.maxLocals = 20) (hown : s.vm.findClass RX1 = some m.cls) (hts : ∀ w ∈ wsX1_root, w.before args s = true) {h0 : Nat} {c1 : Int64} : ∀ (n : Nat) (v3 : Int64) (v5 : Int32) (v6 : Int32) (ls : Array Slot) (r : Int64 × Int32 × Int32), lv_has ls 20 [(0, .ref h0), (1, .long c1), (3, .long v3), (5, .int v5), (6, .int v6)] → bl_it (bl_root_1_st) n (v3, v5, v6) = some r → (∀ (ls : Array Slot), lv_has ls 20 [(0, .ref h0), (1, .long c1), (3, .long r.1), (5, .int r.2.1), (6, .int r.2.2)] → W p l e R s m args below meth c H locs 0 0 Q (F0 m 49 ls [])) → W p l e R s m args below meth c H locs 0 0 Q (F0 m 14 ls []) := by
  intro n
  induction n with
  | zero => intro v3 v5 v6 ls r hl h; cases h
  | succ n ih =>
    intro v3 v5 v6 ls r hl h kk
    refine lv_iload hx hb dX1_root_14 (lv_at hl 4 rfl) ?_
    refine lv_bipush (v := 60) hx hb dX1_root_16 (by decide) ?_
    refine lv_icmp_ge (tgt := 49) hx hb dX1_root_18 (by decide) (fun h1 => ?_) (fun h1 => ?_)
    · obtain rfl := bl_stepR (s := (v3, v5, v6)) (show bl_root_1_b v3 v5 v6 = .inr (v3, v5, v6) by rw [bl_root_1_b, if_pos h1]) h
      exact kk ls (lv_sub hl [0, 1, 2, 3, 4] rfl)
    · refine lv_lload_n hx hb dX1_root_21 rfl (lv_at hl 2 rfl) ?_
      refine lv_ldc2 hx hb hown (hts (.constantLong RX1 25 4503599627370496) (by decide +kernel)) dX1_root_22 ?_
      refine bw_lc_lt (tgt := 36) hx hb dX1_root_25 dX1_root_26 (by decide) (fun h2 => ?_) (fun h2 => ?_)
      · refine lv_lload_n hx hb dX1_root_36 rfl (lv_at hl 2 rfl) ?_
        refine lv_iconst (v := 1) hx hb dX1_root_37 (by decide) ?_
        refine lv_lshl hx hb dX1_root_38 rfl ?_
        refine lv_lstore_n (nL := 20) (lv' := [(3, .long (v3 <<< ((1 : Int32).toInt64 &&& 63))), (0, .ref h0), (1, .long c1), (5, .int v5), (6, .int v6)]) hx hb dX1_root_39 rfl hl (by decide) rfl (fun ls hl => ?_)
        refine lv_iinc (nL := 20) (k := 3) (v := v5 + (-1 : Int32)) (lv' := [(5, .int (v5 + (-1 : Int32))), (3, .long (v3 <<< ((1 : Int32).toInt64 &&& 63))), (0, .ref h0), (1, .long c1), (6, .int v6)]) hx hb dX1_root_40 hl rfl rfl (by decide) rfl (fun ls hl => ?_)
        refine lv_iinc (nL := 20) (k := 4) (v := v6 + (1 : Int32)) (lv' := [(6, .int (v6 + (1 : Int32))), (5, .int (v5 + (-1 : Int32))), (3, .long (v3 <<< ((1 : Int32).toInt64 &&& 63))), (0, .ref h0), (1, .long c1)]) hx hb dX1_root_43 hl rfl rfl (by decide) rfl (fun ls hl => ?_)
        refine lv_goto (tgt := 14) hx hb dX1_root_46 (by decide) ?_
        exact ih (v3 <<< ((1 : Int32).toInt64 &&& 63)) (v5 + (-1 : Int32)) (v6 + (1 : Int32)) ls r (lv_sub hl [3, 4, 2, 1, 0] rfl) (bl_stepL (s := (v3, v5, v6)) (show bl_root_1_b v3 v5 v6 = .inl (v3 <<< ((1 : Int32).toInt64 &&& 63), v5 + (-1 : Int32), v6 + (1 : Int32)) by rw [bl_root_1_b, if_neg h1, if_pos h2]) h) kk
      · refine lv_iload hx hb dX1_root_29 (lv_at hl 3 rfl) ?_
        refine lv_iconst (v := 2) hx hb dX1_root_31 (by decide) ?_
        refine lv_irem hx hb dX1_root_32 (by decide) ?_
        refine lv_if_eq (tgt := 49) hx hb dX1_root_33 (by decide) (fun h3 => ?_) (fun h3 => ?_)
        · obtain rfl := bl_stepR (s := (v3, v5, v6)) (show bl_root_1_b v3 v5 v6 = .inr (v3, v5, v6) by rw [bl_root_1_b, if_neg h1, if_neg h2, if_pos h3]) h
          exact kk ls (lv_sub hl [0, 1, 2, 3, 4] rfl)
        · refine lv_lload_n hx hb dX1_root_36 rfl (lv_at hl 2 rfl) ?_
          refine lv_iconst (v := 1) hx hb dX1_root_37 (by decide) ?_
          refine lv_lshl hx hb dX1_root_38 rfl ?_
          refine lv_lstore_n (nL := 20) (lv' := [(3, .long (v3 <<< ((1 : Int32).toInt64 &&& 63))), (0, .ref h0), (1, .long c1), (5, .int v5), (6, .int v6)]) hx hb dX1_root_39 rfl hl (by decide) rfl (fun ls hl => ?_)
          refine lv_iinc (nL := 20) (k := 3) (v := v5 + (-1 : Int32)) (lv' := [(5, .int (v5 + (-1 : Int32))), (3, .long (v3 <<< ((1 : Int32).toInt64 &&& 63))), (0, .ref h0), (1, .long c1), (6, .int v6)]) hx hb dX1_root_40 hl rfl rfl (by decide) rfl (fun ls hl => ?_)
          refine lv_iinc (nL := 20) (k := 4) (v := v6 + (1 : Int32)) (lv' := [(6, .int (v6 + (1 : Int32))), (5, .int (v5 + (-1 : Int32))), (3, .long (v3 <<< ((1 : Int32).toInt64 &&& 63))), (0, .ref h0), (1, .long c1)]) hx hb dX1_root_43 hl rfl rfl (by decide) rfl (fun ls hl => ?_)
          refine lv_goto (tgt := 14) hx hb dX1_root_46 (by decide) ?_
          exact ih (v3 <<< ((1 : Int32).toInt64 &&& 63)) (v5 + (-1 : Int32)) (v6 + (1 : Int32)) ls r (lv_sub hl [3, 4, 2, 1, 0] rfl) (bl_stepL (s := (v3, v5, v6)) (show bl_root_1_b v3 v5 v6 = .inl (v3 <<< ((1 : Int32).toInt64 &&& 63), v5 + (-1 : Int32), v6 + (1 : Int32)) by rw [bl_root_1_b, if_neg h1, if_neg h2, if_neg h3]) h) kk
set_option maxHeartbeats 4000000 in
set_option maxRecDepth 100000 in
theorem bl_root_2_w {p : Program} {l : Launch} {e : Env} {R : Room} {s : State} {m : MethodId} {args : Array Value} {below : List Frame} {meth : Method} {c : Code} {Q : State → Prop} (hx : p.tables.exec = Jvm.exec) (hb : c.code = cX1_root) (hml : c.maxLocals = 20) (hown : s.vm.findClass RX1 = some m.cls) (hts : ∀ w ∈ wsX1_root, w.before args s = true) (hRf : 2 ≤ R.frames) (hRl : 62 ≤ R.locals) {dC : Nat → ClassId} {dI : Nat → Nat → Nat} {h0 a0 : Nat} {A : Nat → Prop} {H0 : Heap} (hK : va_K (dC, dI) vwCl [] s) (hA : ∀ q : Nat, H0.size ≤ q → A q) (c6 : Int64) (c8 : Int64) {c1 : Int64} {c3 : Int64} {c5 : Int32} : ∀ (n : Nat) (v10 : Int64) (v12 : Int64) (v14 : Int32) (f0 : Int32) (f1 : Int32) (f2 : Int64) (f3 : Int64) (ls : Array Slot) (r : Int64 × Int64 × Int32 × Int32 × Int32 × Int64 × Int64) (H : Heap) (locs : List Loc), va_P (dC, dI) vwCl [(h0, .inr (1, [.ref a0, .int f0, .int f1, .long f2, .long f3]))] H → va_D A [(h0, .inr (1, [.ref a0, .int f0, .int f1, .long f2, .long f3]))] → va_S A H0 H locs →  lv_has ls 20 [(0, .ref h0), (1, .long c1), (3, .long c3), (5, .int c5), (6, .long c6), (8, .long c8), (10, .long v10), (12, .long v12), (14, .int v14)] → bl_it (bl_root_2_st c6 c8) n (v10, v12, v14, f0, f1, f2, f3) = some r → (∀ (ls : Array Slot) (H : Heap) (locs : List Loc), va_P (dC, dI) vwCl [(h0, .inr (1, [.ref a0, .int r.2.2.2.1, .int r.2.2.2.2.1, .long r.2.2.2.2.2.1, .long r.2.2.2.2.2.2]))] H → va_D A [(h0, .inr (1, [.ref a0, .int r.2.2.2.1, .int r.2.2.2.2.1, .long r.2.2.2.2.2.1, .long r.2.2.2.2.2.2]))] → va_S A H0 H locs →  lv_has ls 20 [(0, .ref h0), (1, .long c1), (3, .long c3), (5, .int c5), (6, .long c6), (8, .long c8), (10, .long r.1), (12, .long r.2.1), (14, .int r.2.2.1)] → W p l e R s m args below meth c H locs 0 0 Q (F0 m 133 ls [])) → W p l e R s m args below meth c H locs 0 0 Q (F0 m 77 ls []) := by
  intro n
  induction n with
  | zero => intro v10 v12 v14 f0 f1 f2 f3 ls r H locs hP hD hS hl h; cases h
  | succ n ih =>
    intro v10 v12 v14 f0 f1 f2 f3 ls r H locs hP hD hS hl h kk
    refine lv_iload hx hb dX1_root_77 (lv_at hl 8 rfl) ?_
    refine lv_bipush (v := 60) hx hb dX1_root_79 (by decide) ?_
    refine lv_icmp_ge (tgt := 133) hx hb dX1_root_81 (by decide) (fun h6 => ?_) (fun h6 => ?_)
    · obtain rfl := bl_stepR (s := (v10, v12, v14, f0, f1, f2, f3)) (show bl_root_2_b c6 c8 v10 v12 v14 f0 f1 f2 f3 = .inr (v10, v12, v14, f0, f1, f2, f3) by rw [bl_root_2_b, if_pos h6]) h
      exact kk ls H locs hP hD hS (lv_sub hl [0, 1, 2, 3, 4, 5, 6, 7, 8] rfl)
    · refine lv_lload hx hb dX1_root_84 (lv_at hl 7 rfl) ?_
      refine lv_lload hx hb dX1_root_86 (lv_at hl 6 rfl) ?_
      refine lv_lsub hx hb dX1_root_88 ?_
      refine lv_lconst (v := 1) hx hb dX1_root_89 (by decide) ?_
      refine bw_lc_le (tgt := 133) hx hb dX1_root_90 dX1_root_91 (by decide) (fun h7 => ?_) (fun h7 => ?_)
      · obtain rfl := bl_stepR (s := (v10, v12, v14, f0, f1, f2, f3)) (show bl_root_2_b c6 c8 v10 v12 v14 f0 f1 f2 f3 = .inr (v10, v12, v14, f0, f1, f2, f3) by rw [bl_root_2_b, if_neg h6, if_pos h7]) h
        exact kk ls H locs hP hD hS (lv_sub hl [0, 1, 2, 3, 4, 5, 6, 7, 8] rfl)
      · refine lv_lload hx hb dX1_root_94 (lv_at hl 6 rfl) ?_
        refine lv_lload hx hb dX1_root_96 (lv_at hl 7 rfl) ?_
        refine lv_ladd hx hb dX1_root_98 ?_
        refine lv_iconst (v := 1) hx hb dX1_root_99 (by decide) ?_
        refine lv_lshr hx hb dX1_root_100 rfl ?_
        refine lv_lstore (nL := 20) (lv' := [(15, .long ((v10 + v12) >>> ((1 : Int32).toInt64 &&& 63))), (0, .ref h0), (1, .long c1), (3, .long c3), (5, .int c5), (6, .long c6), (8, .long c8), (10, .long v10), (12, .long v12), (14, .int v14)]) hx hb dX1_root_101 hl (by decide) rfl (fun ls hl => ?_)
        refine lv_aload_n hx hb dX1_root_103 rfl (lv_at hl 1 rfl) ?_
        refine lv_lload hx hb dX1_root_104 (lv_at hl 0 rfl) ?_
        refine lv_lload hx hb dX1_root_106 (lv_at hl 5 rfl) ?_
        refine lv_lload hx hb dX1_root_108 (lv_at hl 6 rfl) ?_
        refine bw_vi1 (rest := []) 0 ⟨hx, hb, hml, hown, hts⟩ (bd_squareFits l dC dI h0 a0 H.size f0 f1 f2 f3 ((v10 + v12) >>> ((1 : Int32).toInt64 &&& 63)) c6 c8) (cwV 3 hts gX1_root_X1_squareFits rfl rfl rfl (by decide +kernel) ⟨Nat.le_trans (Nat.le_of_ble_eq_true rfl) hRf, Nat.le_trans (Nat.le_of_ble_eq_true rfl) hRl⟩) hK hP hD hS hA rfl rfl rfl hl.1 rfl (Nat.le_of_ble_eq_true rfl) dX1_root_110 (Nat.zero_le _) (Nat.zero_le _) (fun H locs hP hD hS => ?_)
        have hP : va_P (dC, dI) vwCl [(h0, .inr (1, [.ref a0, .int ((bg_squareFits f0 f1 f2 f3 ((v10 + v12) >>> ((1 : Int32).toInt64 &&& 63)) c6 c8).2.1), .int ((bg_squareFits f0 f1 f2 f3 ((v10 + v12) >>> ((1 : Int32).toInt64 &&& 63)) c6 c8).2.2.1), .long ((bg_squareFits f0 f1 f2 f3 ((v10 + v12) >>> ((1 : Int32).toInt64 &&& 63)) c6 c8).2.2.2.1), .long ((bg_squareFits f0 f1 f2 f3 ((v10 + v12) >>> ((1 : Int32).toInt64 &&& 63)) c6 c8).2.2.2.2)]))] H := hP
        have hD : va_D A [(h0, .inr (1, [.ref a0, .int ((bg_squareFits f0 f1 f2 f3 ((v10 + v12) >>> ((1 : Int32).toInt64 &&& 63)) c6 c8).2.1), .int ((bg_squareFits f0 f1 f2 f3 ((v10 + v12) >>> ((1 : Int32).toInt64 &&& 63)) c6 c8).2.2.1), .long ((bg_squareFits f0 f1 f2 f3 ((v10 + v12) >>> ((1 : Int32).toInt64 &&& 63)) c6 c8).2.2.2.1), .long ((bg_squareFits f0 f1 f2 f3 ((v10 + v12) >>> ((1 : Int32).toInt64 &&& 63)) c6 c8).2.2.2.2)]))] := hD
        refine lv_if_eq (tgt := 123) hx hb dX1_root_113 (by decide) (fun h8 => ?_) (fun h8 => ?_)
        · refine lv_lload hx hb dX1_root_123 (lv_at hl 0 rfl) ?_
          refine lv_lstore (nL := 20) (lv' := [(12, .long ((v10 + v12) >>> ((1 : Int32).toInt64 &&& 63))), (15, .long ((v10 + v12) >>> ((1 : Int32).toInt64 &&& 63))), (0, .ref h0), (1, .long c1), (3, .long c3), (5, .int c5), (6, .long c6), (8, .long c8), (10, .long v10), (14, .int v14)]) hx hb dX1_root_125 hl (by decide) rfl (fun ls hl => ?_)
          refine lv_iinc (nL := 20) (k := 9) (v := v14 + (1 : Int32)) (lv' := [(14, .int (v14 + (1 : Int32))), (12, .long ((v10 + v12) >>> ((1 : Int32).toInt64 &&& 63))), (15, .long ((v10 + v12) >>> ((1 : Int32).toInt64 &&& 63))), (0, .ref h0), (1, .long c1), (3, .long c3), (5, .int c5), (6, .long c6), (8, .long c8), (10, .long v10)]) hx hb dX1_root_127 hl rfl rfl (by decide) rfl (fun ls hl => ?_)
          refine lv_goto (tgt := 77) hx hb dX1_root_130 (by decide) ?_
          exact ih v10 ((v10 + v12) >>> ((1 : Int32).toInt64 &&& 63)) (v14 + (1 : Int32)) ((bg_squareFits f0 f1 f2 f3 ((v10 + v12) >>> ((1 : Int32).toInt64 &&& 63)) c6 c8).2.1) ((bg_squareFits f0 f1 f2 f3 ((v10 + v12) >>> ((1 : Int32).toInt64 &&& 63)) c6 c8).2.2.1) ((bg_squareFits f0 f1 f2 f3 ((v10 + v12) >>> ((1 : Int32).toInt64 &&& 63)) c6 c8).2.2.2.1) ((bg_squareFits f0 f1 f2 f3 ((v10 + v12) >>> ((1 : Int32).toInt64 &&& 63)) c6 c8).2.2.2.2) ls r H locs hP hD hS (lv_sub hl [3, 4, 5, 6, 7, 8, 9, 1, 0] rfl) (bl_stepL (s := (v10, v12, v14, f0, f1, f2, f3)) (show bl_root_2_b c6 c8 v10 v12 v14 f0 f1 f2 f3 = .inl (v10, (v10 + v12) >>> ((1 : Int32).toInt64 &&& 63), v14 + (1 : Int32), (bg_squareFits f0 f1 f2 f3 ((v10 + v12) >>> ((1 : Int32).toInt64 &&& 63)) c6 c8).2.1, (bg_squareFits f0 f1 f2 f3 ((v10 + v12) >>> ((1 : Int32).toInt64 &&& 63)) c6 c8).2.2.1, (bg_squareFits f0 f1 f2 f3 ((v10 + v12) >>> ((1 : Int32).toInt64 &&& 63)) c6 c8).2.2.2.1, (bg_squareFits f0 f1 f2 f3 ((v10 + v12) >>> ((1 : Int32).toInt64 &&& 63)) c6 c8).2.2.2.2) by rw [bl_root_2_b, if_neg h6, if_neg h7, if_pos h8]) h) kk
        · refine lv_lload hx hb dX1_root_116 (lv_at hl 0 rfl) ?_
          refine lv_lstore (nL := 20) (lv' := [(10, .long ((v10 + v12) >>> ((1 : Int32).toInt64 &&& 63))), (15, .long ((v10 + v12) >>> ((1 : Int32).toInt64 &&& 63))), (0, .ref h0), (1, .long c1), (3, .long c3), (5, .int c5), (6, .long c6), (8, .long c8), (12, .long v12), (14, .int v14)]) hx hb dX1_root_118 hl (by decide) rfl (fun ls hl => ?_)
          refine lv_goto (tgt := 127) hx hb dX1_root_120 (by decide) ?_
          refine lv_iinc (nL := 20) (k := 9) (v := v14 + (1 : Int32)) (lv' := [(14, .int (v14 + (1 : Int32))), (10, .long ((v10 + v12) >>> ((1 : Int32).toInt64 &&& 63))), (15, .long ((v10 + v12) >>> ((1 : Int32).toInt64 &&& 63))), (0, .ref h0), (1, .long c1), (3, .long c3), (5, .int c5), (6, .long c6), (8, .long c8), (12, .long v12)]) hx hb dX1_root_127 hl rfl rfl (by decide) rfl (fun ls hl => ?_)
          refine lv_goto (tgt := 77) hx hb dX1_root_130 (by decide) ?_
          exact ih ((v10 + v12) >>> ((1 : Int32).toInt64 &&& 63)) v12 (v14 + (1 : Int32)) ((bg_squareFits f0 f1 f2 f3 ((v10 + v12) >>> ((1 : Int32).toInt64 &&& 63)) c6 c8).2.1) ((bg_squareFits f0 f1 f2 f3 ((v10 + v12) >>> ((1 : Int32).toInt64 &&& 63)) c6 c8).2.2.1) ((bg_squareFits f0 f1 f2 f3 ((v10 + v12) >>> ((1 : Int32).toInt64 &&& 63)) c6 c8).2.2.2.1) ((bg_squareFits f0 f1 f2 f3 ((v10 + v12) >>> ((1 : Int32).toInt64 &&& 63)) c6 c8).2.2.2.2) ls r H locs hP hD hS (lv_sub hl [3, 4, 5, 6, 7, 8, 1, 9, 0] rfl) (bl_stepL (s := (v10, v12, v14, f0, f1, f2, f3)) (show bl_root_2_b c6 c8 v10 v12 v14 f0 f1 f2 f3 = .inl ((v10 + v12) >>> ((1 : Int32).toInt64 &&& 63), v12, v14 + (1 : Int32), (bg_squareFits f0 f1 f2 f3 ((v10 + v12) >>> ((1 : Int32).toInt64 &&& 63)) c6 c8).2.1, (bg_squareFits f0 f1 f2 f3 ((v10 + v12) >>> ((1 : Int32).toInt64 &&& 63)) c6 c8).2.2.1, (bg_squareFits f0 f1 f2 f3 ((v10 + v12) >>> ((1 : Int32).toInt64 &&& 63)) c6 c8).2.2.2.1, (bg_squareFits f0 f1 f2 f3 ((v10 + v12) >>> ((1 : Int32).toInt64 &&& 63)) c6 c8).2.2.2.2) by rw [bl_root_2_b, if_neg h6, if_neg h7, if_neg h8]) h) kk
set_option maxHeartbeats 4000000 in
set_option maxRecDepth 100000 in
theorem bd_root (l : Launch) (dC : Nat → ClassId) (dI : Nat → Nat → Nat) (h0 a0 : Nat) (sz : Nat) (f1 : Int32) (f2 : Int32) (f3 : Int64) (f4 : Int64) (x1 : Int64) : Met l yX1_root wsX1_root ({ frames := 2, cells := 0, slots := 0, locals := 62 }) (va_Pc [.ref h0, .long x1] (bw_I1 (dC, dI) vwCl sz h0 (.inr (1, [.ref a0, .int f1, .int f2, .long f3, .long f4])))) (va_Ql (fun (r : Int64) (u : Int32 × Int32 × Int64 × Int64) => (r, u) = bg_root f1 f2 f3 f4 x1) (fun u t => bw_O1 (dC, dI) vwCl (va_A [(h0, .inr (1, [.ref a0, .int f1, .int f2, .long f3, .long f4]))] sz) h0 (.inr (1, [.ref a0, .int u.1, .int u.2.1, .long u.2.2.1, .long u.2.2.2])) t) (va_A [(h0, .inr (1, [.ref a0, .int f1, .int f2, .long f3, .long f4]))] sz)) 0 0 (va_A [(h0, .inr (1, [.ref a0, .int f1, .int f2, .long f3, .long f4]))] sz) := by
  refine Met.ofW (cc := cX1_root) (maxL := 20) (ret := (some .long)) (by decide) rfl ?_
  intro p e s m args below meth c s₁ B hml hv
  obtain ⟨rfl, hsz, hP, hK, hD0⟩ := hv
  have hx := B.exec
  have hb := B.bytes
  have hr := B.returns
  have hts := atoms_spec (ws := wsX1_root) B.pre
  have hown : s.vm.findClass RX1 = some m.cls := findClass_of_methodNamed B.named
  have hlocks := B.notSynchronized
  subst hsz
  have hD := hD0.self (sz := s.heap.size)
  generalize hAe : va_A [(h0, .inr (1, [.ref a0, .int f1, .int f2, .long f3, .long f4]))] s.heap.size = A at hD ⊢
  have hA : ∀ q : Nat, s.heap.size ≤ q → A q := fun q h => by rw [← hAe]; exact Or.inr h
  have hS : va_S A s.heap s.heap [] := va_S.rf
  have hP : va_P (dC, dI) vwCl [(h0, .inr (1, [.ref a0, .int f1, .int f2, .long f3, .long f4]))] s.heap := hP
  have hin0 : ∀ w ∈ u_ws RX1 TX1 5, w ∈ wsX1_root := by decide +kernel
  have hl := lv_entry ([.ref h0, .long x1]) (n := 20) (Nat.le_of_ble_eq_true rfl)
  rw [lg_entry_eq]
  generalize (lg_sl ([.ref h0, .long x1]) ++ List.replicate (20 - (lg_sl ([.ref h0, .long x1])).length) Slot.unset).toArray = ls at hl ⊢
  have hl : lv_has ls 20 [(0, .ref h0), (1, .long x1)] := hl
  refine lv_lload_n hx hb dX1_root_0 rfl (lv_at hl 1 rfl) ?_
  refine bw_csl (rest := []) ⟨hx, hb, hml, hown, hts⟩ (bd_number l x1) (va_cwS 1 hts gX1_root_X1_number rfl rfl rfl (by decide +kernel) ⟨Nat.le_of_ble_eq_true rfl, Nat.le_of_ble_eq_true rfl⟩) rfl hl.1 rfl (Nat.le_of_ble_eq_true rfl) dX1_root_1 (Nat.zero_le _) (Nat.zero_le _) ?_
  refine lv_lstore_n (nL := 20) (lv' := [(3, .long (bg_number x1)), (0, .ref h0), (1, .long x1)]) hx hb dX1_root_4 rfl hl (by decide) rfl (fun ls hl => ?_)
  refine lv_lload_n hx hb dX1_root_5 rfl (lv_at hl 2 rfl) ?_
  refine bw_csi (rest := []) ⟨hx, hb, hml, hown, hts⟩ (bd_power l x1) (va_cwS 1 hts gX1_root_X1_power rfl rfl rfl (by decide +kernel) ⟨Nat.le_of_ble_eq_true rfl, Nat.le_of_ble_eq_true rfl⟩) rfl hl.1 rfl (Nat.le_of_ble_eq_true rfl) dX1_root_6 (Nat.zero_le _) (Nat.zero_le _) ?_
  refine lv_istore (nL := 20) (lv' := [(5, .int (bg_power x1)), (3, .long (bg_number x1)), (0, .ref h0), (1, .long x1)]) hx hb dX1_root_9 hl (by decide) rfl (fun ls hl => ?_)
  refine lv_iconst (v := 0) hx hb dX1_root_11 (by decide) ?_
  refine lv_istore (nL := 20) (lv' := [(6, .int (0 : Int32)), (5, .int (bg_power x1)), (3, .long (bg_number x1)), (0, .ref h0), (1, .long x1)]) hx hb dX1_root_12 hl (by decide) rfl (fun ls hl => ?_)
  obtain ⟨n4, e4⟩ := bl_root_1_ok (bg_number x1, bg_power x1, (0 : Int32))
  refine bl_root_1_w hx hb hml hown hts n4 (bg_number x1) (bg_power x1) (0 : Int32) ls _ (lv_sub hl [3, 4, 2, 1, 0] rfl) e4 (fun ls hl => ?_)
  have hl : lv_has ls 20 [(0, .ref h0), (1, .long x1), (3, .long ((bl_root_1 (bg_number x1, bg_power x1, (0 : Int32))).1)), (5, .int ((bl_root_1 (bg_number x1, bg_power x1, (0 : Int32))).2.1)), (6, .int ((bl_root_1 (bg_number x1, bg_power x1, (0 : Int32))).2.2))] := hl
  obtain ⟨r5, e5⟩ : ∃ r, (bl_root_1 (bg_number x1, bg_power x1, (0 : Int32))) = r := ⟨_, rfl⟩
  rw [e5] at hl
  refine lv_lload_n hx hb dX1_root_49 rfl (lv_at hl 2 rfl) ?_
  refine lv_iconst (v := 2) hx hb dX1_root_50 (by decide) ?_
  refine lv_lshr hx hb dX1_root_51 rfl ?_
  refine lv_lstore (nL := 20) (lv' := [(6, .long (r5.1 >>> ((2 : Int32).toInt64 &&& 63))), (0, .ref h0), (1, .long x1), (3, .long r5.1), (5, .int r5.2.1)]) hx hb dX1_root_52 hl (by decide) rfl (fun ls hl => ?_)
  refine lv_lload_n hx hb dX1_root_54 rfl (lv_at hl 3 rfl) ?_
  refine lv_ldc2 hx hb hown (hts (.constantLong RX1 55 3) (by decide +kernel)) dX1_root_55 ?_
  refine lv_land hx hb dX1_root_58 ?_
  refine lv_bipush (v := 52) hx hb dX1_root_59 (by decide) ?_
  refine lv_lshl hx hb dX1_root_61 rfl ?_
  refine lv_lstore (nL := 20) (lv' := [(8, .long ((r5.1 &&& (3 : Int64)) <<< ((52 : Int32).toInt64 &&& 63))), (6, .long (r5.1 >>> ((2 : Int32).toInt64 &&& 63))), (0, .ref h0), (1, .long x1), (3, .long r5.1), (5, .int r5.2.1)]) hx hb dX1_root_62 hl (by decide) rfl (fun ls hl => ?_)
  refine lv_ldc2 hx hb hown (hts (.constantLong RX1 25 4503599627370496) (by decide +kernel)) dX1_root_64 ?_
  refine lv_lstore (nL := 20) (lv' := [(10, .long (4503599627370496 : Int64)), (8, .long ((r5.1 &&& (3 : Int64)) <<< ((52 : Int32).toInt64 &&& 63))), (6, .long (r5.1 >>> ((2 : Int32).toInt64 &&& 63))), (0, .ref h0), (1, .long x1), (3, .long r5.1), (5, .int r5.2.1)]) hx hb dX1_root_67 hl (by decide) rfl (fun ls hl => ?_)
  refine lv_ldc2 hx hb hown (hts (.constantLong RX1 27 9007199254740992) (by decide +kernel)) dX1_root_69 ?_
  refine lv_lstore (nL := 20) (lv' := [(12, .long (9007199254740992 : Int64)), (10, .long (4503599627370496 : Int64)), (8, .long ((r5.1 &&& (3 : Int64)) <<< ((52 : Int32).toInt64 &&& 63))), (6, .long (r5.1 >>> ((2 : Int32).toInt64 &&& 63))), (0, .ref h0), (1, .long x1), (3, .long r5.1), (5, .int r5.2.1)]) hx hb dX1_root_72 hl (by decide) rfl (fun ls hl => ?_)
  refine lv_iconst (v := 0) hx hb dX1_root_74 (by decide) ?_
  refine lv_istore (nL := 20) (lv' := [(14, .int (0 : Int32)), (12, .long (9007199254740992 : Int64)), (10, .long (4503599627370496 : Int64)), (8, .long ((r5.1 &&& (3 : Int64)) <<< ((52 : Int32).toInt64 &&& 63))), (6, .long (r5.1 >>> ((2 : Int32).toInt64 &&& 63))), (0, .ref h0), (1, .long x1), (3, .long r5.1), (5, .int r5.2.1)]) hx hb dX1_root_75 hl (by decide) rfl (fun ls hl => ?_)
  obtain ⟨n9, e9⟩ := bl_root_2_ok (r5.1 >>> ((2 : Int32).toInt64 &&& 63)) ((r5.1 &&& (3 : Int64)) <<< ((52 : Int32).toInt64 &&& 63)) ((4503599627370496 : Int64), (9007199254740992 : Int64), (0 : Int32), f1, f2, f3, f4)
  refine bl_root_2_w hx hb hml hown hts (Nat.le_of_ble_eq_true rfl) (Nat.le_of_ble_eq_true rfl) hK hA (r5.1 >>> ((2 : Int32).toInt64 &&& 63)) ((r5.1 &&& (3 : Int64)) <<< ((52 : Int32).toInt64 &&& 63)) n9 (4503599627370496 : Int64) (9007199254740992 : Int64) (0 : Int32) f1 f2 f3 f4 ls _ _ _ hP hD hS (lv_sub hl [5, 6, 7, 8, 4, 3, 2, 1, 0] rfl) e9 (fun ls H locs hP hD hS hl => ?_)
  have hP : va_P (dC, dI) vwCl [(h0, .inr (1, [.ref a0, .int ((bl_root_2 (r5.1 >>> ((2 : Int32).toInt64 &&& 63)) ((r5.1 &&& (3 : Int64)) <<< ((52 : Int32).toInt64 &&& 63)) ((4503599627370496 : Int64), (9007199254740992 : Int64), (0 : Int32), f1, f2, f3, f4)).2.2.2.1), .int ((bl_root_2 (r5.1 >>> ((2 : Int32).toInt64 &&& 63)) ((r5.1 &&& (3 : Int64)) <<< ((52 : Int32).toInt64 &&& 63)) ((4503599627370496 : Int64), (9007199254740992 : Int64), (0 : Int32), f1, f2, f3, f4)).2.2.2.2.1), .long ((bl_root_2 (r5.1 >>> ((2 : Int32).toInt64 &&& 63)) ((r5.1 &&& (3 : Int64)) <<< ((52 : Int32).toInt64 &&& 63)) ((4503599627370496 : Int64), (9007199254740992 : Int64), (0 : Int32), f1, f2, f3, f4)).2.2.2.2.2.1), .long ((bl_root_2 (r5.1 >>> ((2 : Int32).toInt64 &&& 63)) ((r5.1 &&& (3 : Int64)) <<< ((52 : Int32).toInt64 &&& 63)) ((4503599627370496 : Int64), (9007199254740992 : Int64), (0 : Int32), f1, f2, f3, f4)).2.2.2.2.2.2)]))] H := hP
  have hD : va_D A [(h0, .inr (1, [.ref a0, .int ((bl_root_2 (r5.1 >>> ((2 : Int32).toInt64 &&& 63)) ((r5.1 &&& (3 : Int64)) <<< ((52 : Int32).toInt64 &&& 63)) ((4503599627370496 : Int64), (9007199254740992 : Int64), (0 : Int32), f1, f2, f3, f4)).2.2.2.1), .int ((bl_root_2 (r5.1 >>> ((2 : Int32).toInt64 &&& 63)) ((r5.1 &&& (3 : Int64)) <<< ((52 : Int32).toInt64 &&& 63)) ((4503599627370496 : Int64), (9007199254740992 : Int64), (0 : Int32), f1, f2, f3, f4)).2.2.2.2.1), .long ((bl_root_2 (r5.1 >>> ((2 : Int32).toInt64 &&& 63)) ((r5.1 &&& (3 : Int64)) <<< ((52 : Int32).toInt64 &&& 63)) ((4503599627370496 : Int64), (9007199254740992 : Int64), (0 : Int32), f1, f2, f3, f4)).2.2.2.2.2.1), .long ((bl_root_2 (r5.1 >>> ((2 : Int32).toInt64 &&& 63)) ((r5.1 &&& (3 : Int64)) <<< ((52 : Int32).toInt64 &&& 63)) ((4503599627370496 : Int64), (9007199254740992 : Int64), (0 : Int32), f1, f2, f3, f4)).2.2.2.2.2.2)]))] := hD
  have hl : lv_has ls 20 [(0, .ref h0), (1, .long x1), (3, .long r5.1), (5, .int r5.2.1), (6, .long (r5.1 >>> ((2 : Int32).toInt64 &&& 63))), (8, .long ((r5.1 &&& (3 : Int64)) <<< ((52 : Int32).toInt64 &&& 63))), (10, .long ((bl_root_2 (r5.1 >>> ((2 : Int32).toInt64 &&& 63)) ((r5.1 &&& (3 : Int64)) <<< ((52 : Int32).toInt64 &&& 63)) ((4503599627370496 : Int64), (9007199254740992 : Int64), (0 : Int32), f1, f2, f3, f4)).1)), (12, .long ((bl_root_2 (r5.1 >>> ((2 : Int32).toInt64 &&& 63)) ((r5.1 &&& (3 : Int64)) <<< ((52 : Int32).toInt64 &&& 63)) ((4503599627370496 : Int64), (9007199254740992 : Int64), (0 : Int32), f1, f2, f3, f4)).2.1)), (14, .int ((bl_root_2 (r5.1 >>> ((2 : Int32).toInt64 &&& 63)) ((r5.1 &&& (3 : Int64)) <<< ((52 : Int32).toInt64 &&& 63)) ((4503599627370496 : Int64), (9007199254740992 : Int64), (0 : Int32), f1, f2, f3, f4)).2.2.1))] := hl
  obtain ⟨r10, e10⟩ : ∃ r, (bl_root_2 (r5.1 >>> ((2 : Int32).toInt64 &&& 63)) ((r5.1 &&& (3 : Int64)) <<< ((52 : Int32).toInt64 &&& 63)) ((4503599627370496 : Int64), (9007199254740992 : Int64), (0 : Int32), f1, f2, f3, f4)) = r := ⟨_, rfl⟩
  rw [e10] at hl hP hD
  refine lv_aload_n hx hb dX1_root_133 rfl (lv_at hl 0 rfl) ?_
  refine lv_lload hx hb dX1_root_134 (lv_at hl 6 rfl) ?_
  refine lv_lload hx hb dX1_root_136 (lv_at hl 6 rfl) ?_
  refine bw_vv1 (rest := []) 0 ⟨hx, hb, hml, hown, hts⟩ (bd_multiply l dC dI h0 a0 H.size r10.2.2.2.1 r10.2.2.2.2.1 r10.2.2.2.2.2.1 r10.2.2.2.2.2.2 r10.1 r10.1) (cwV 2 hts gX1_root_X1_multiply rfl rfl rfl (by decide +kernel) ⟨Nat.le_of_ble_eq_true rfl, Nat.le_of_ble_eq_true rfl⟩) hK hP hD hS hA rfl rfl rfl hl.1 rfl (Nat.le_of_ble_eq_true rfl) dX1_root_138 (Nat.zero_le _) (Nat.zero_le _) (fun H locs hP hD hS => ?_)
  have hP : va_P (dC, dI) vwCl [(h0, .inr (1, [.ref a0, .int ((bg_multiply r10.2.2.2.1 r10.2.2.2.2.1 r10.2.2.2.2.2.1 r10.2.2.2.2.2.2 r10.1 r10.1).1), .int ((bg_multiply r10.2.2.2.1 r10.2.2.2.2.1 r10.2.2.2.2.2.1 r10.2.2.2.2.2.2 r10.1 r10.1).2.1), .long ((bg_multiply r10.2.2.2.1 r10.2.2.2.2.1 r10.2.2.2.2.2.1 r10.2.2.2.2.2.2 r10.1 r10.1).2.2.1), .long ((bg_multiply r10.2.2.2.1 r10.2.2.2.2.1 r10.2.2.2.2.2.1 r10.2.2.2.2.2.2 r10.1 r10.1).2.2.2)]))] H := hP
  have hD : va_D A [(h0, .inr (1, [.ref a0, .int ((bg_multiply r10.2.2.2.1 r10.2.2.2.2.1 r10.2.2.2.2.2.1 r10.2.2.2.2.2.2 r10.1 r10.1).1), .int ((bg_multiply r10.2.2.2.1 r10.2.2.2.2.1 r10.2.2.2.2.2.1 r10.2.2.2.2.2.2 r10.1 r10.1).2.1), .long ((bg_multiply r10.2.2.2.1 r10.2.2.2.2.1 r10.2.2.2.2.2.1 r10.2.2.2.2.2.2 r10.1 r10.1).2.2.1), .long ((bg_multiply r10.2.2.2.1 r10.2.2.2.2.1 r10.2.2.2.2.2.1 r10.2.2.2.2.2.2 r10.1 r10.1).2.2.2)]))] := hD
  obtain ⟨r11, e11⟩ : ∃ r, (bg_multiply r10.2.2.2.1 r10.2.2.2.2.1 r10.2.2.2.2.2.1 r10.2.2.2.2.2.2 r10.1 r10.1) = r := ⟨_, rfl⟩
  rw [e11] at hP hD
  refine lv_aload_n hx hb dX1_root_141 rfl (lv_at hl 0 rfl) ?_
  refine va_get (D := (dC, dI)) (ci := 1) (v := .long r11.2.2.1) (C := RX1) (T := TX1) (N := 5) hx hb hts hin0 hown hK hP 0 rfl rfl 3 (by decide) (hts (.fieldLink RX1 41 "BinaryFunctionsModel" "high" "J") (by decide +kernel)) (fun _ h9 => h9) rfl dX1_root_142 ?_
  refine lv_lload hx hb dX1_root_145 (lv_at hl 4 rfl) ?_
  refine bw_lc_ne (tgt := 165) hx hb dX1_root_147 dX1_root_148 (by decide) (fun h12 => ?_) (fun h12 => ?_)
  · refine lv_iconst (v := 0) hx hb dX1_root_165 (by decide) ?_
    refine lv_istore (nL := 20) (lv' := [(14, .int (0 : Int32)), (0, .ref h0), (1, .long x1), (3, .long r5.1), (5, .int r5.2.1), (6, .long (r5.1 >>> ((2 : Int32).toInt64 &&& 63))), (8, .long ((r5.1 &&& (3 : Int64)) <<< ((52 : Int32).toInt64 &&& 63))), (10, .long r10.1), (12, .long r10.2.1)]) hx hb dX1_root_166 hl (by decide) rfl (fun ls hl => ?_)
    refine lv_aload_n hx hb dX1_root_168 rfl (lv_at hl 1 rfl) ?_
    refine lv_iload hx hb dX1_root_169 (lv_at hl 0 rfl) ?_
    refine lv_if_eq (tgt := 181) hx hb dX1_root_171 (by decide) (fun h13 => ?_) (fun h13 => ?_)
    rotate_left
    · exact absurd (by decide) h13
    refine lv_aload_n hx hb dX1_root_181 rfl (lv_at hl 1 rfl) ?_
    refine va_get (D := (dC, dI)) (ci := 1) (v := .int r11.1) (C := RX1) (T := TX1) (N := 5) hx hb hts hin0 hown hK hP 0 rfl rfl 1 (by decide) (hts (.fieldLink RX1 61 "BinaryFunctionsModel" "flag" "I") (by decide +kernel)) (fun _ h9 => h9) rfl dX1_root_182 ?_
    refine lv_iconst (v := 2) hx hb dX1_root_185 (by decide) ?_
    refine lv_ior hx hb dX1_root_186 ?_
    refine va_put (D := (dC, dI)) (ci := 1) (v := .int (r11.1 ||| (2 : Int32))) (ty := .int) (C := RX1) (T := TX1) (N := 5) hx hb hts hin0 tyX1 tyX1_ok nmX1 hown hK hP hD hS 0 rfl rfl 1 (by decide) (hts (.fieldLink RX1 61 "BinaryFunctionsModel" "flag" "I") (by decide +kernel)) (fun _ h9 => h9) rfl (by decide +kernel) rfl rfl (Nat.le_of_ble_eq_true rfl) dX1_root_187 (fun H locs hP hD hS => ?_)
    have hP : va_P (dC, dI) vwCl [(h0, .inr (1, [.ref a0, .int (r11.1 ||| (2 : Int32)), .int r11.2.1, .long r11.2.2.1, .long r11.2.2.2]))] H := hP
    have hD : va_D A [(h0, .inr (1, [.ref a0, .int (r11.1 ||| (2 : Int32)), .int r11.2.1, .long r11.2.2.1, .long r11.2.2.2]))] := hD
    refine lv_lload_n hx hb dX1_root_190 rfl (lv_at hl 3 rfl) ?_
    refine lv_lstore (nL := 20) (lv' := [(15, .long r5.1), (14, .int (0 : Int32)), (0, .ref h0), (1, .long x1), (3, .long r5.1), (5, .int r5.2.1), (6, .long (r5.1 >>> ((2 : Int32).toInt64 &&& 63))), (8, .long ((r5.1 &&& (3 : Int64)) <<< ((52 : Int32).toInt64 &&& 63))), (10, .long r10.1), (12, .long r10.2.1)]) hx hb dX1_root_191 hl (by decide) rfl (fun ls hl => ?_)
    refine lv_lconst (v := 0) hx hb dX1_root_193 (by decide) ?_
    refine lv_lstore (nL := 20) (lv' := [(17, .long (0 : Int64)), (15, .long r5.1), (14, .int (0 : Int32)), (0, .ref h0), (1, .long x1), (3, .long r5.1), (5, .int r5.2.1), (6, .long (r5.1 >>> ((2 : Int32).toInt64 &&& 63))), (8, .long ((r5.1 &&& (3 : Int64)) <<< ((52 : Int32).toInt64 &&& 63))), (10, .long r10.1), (12, .long r10.2.1)]) hx hb dX1_root_194 hl (by decide) rfl (fun ls hl => ?_)
    refine lv_aload_n hx hb dX1_root_196 rfl (lv_at hl 3 rfl) ?_
    refine lv_ldc2 hx hb hown (hts (.constantLong RX1 65 2) (by decide +kernel)) dX1_root_197 ?_
    refine lv_lload hx hb dX1_root_200 (lv_at hl 9 rfl) ?_
    refine lv_lmul hx hb dX1_root_202 ?_
    refine lv_lconst (v := 1) hx hb dX1_root_203 (by decide) ?_
    refine lv_ladd hx hb dX1_root_204 ?_
    refine lv_lload hx hb dX1_root_205 (lv_at hl 1 rfl) ?_
    refine lv_lload hx hb dX1_root_207 (lv_at hl 0 rfl) ?_
    refine bw_vi1 (rest := []) 0 ⟨hx, hb, hml, hown, hts⟩ (bd_squareFits l dC dI h0 a0 H.size (r11.1 ||| (2 : Int32)) r11.2.1 r11.2.2.1 r11.2.2.2 (((2 : Int64) * r10.1) + (1 : Int64)) r5.1 (0 : Int64)) (cwV 3 hts gX1_root_X1_squareFits rfl rfl rfl (by decide +kernel) ⟨Nat.le_of_ble_eq_true rfl, Nat.le_of_ble_eq_true rfl⟩) hK hP hD hS hA rfl rfl rfl hl.1 rfl (Nat.le_of_ble_eq_true rfl) dX1_root_209 (Nat.zero_le _) (Nat.zero_le _) (fun H locs hP hD hS => ?_)
    have hP : va_P (dC, dI) vwCl [(h0, .inr (1, [.ref a0, .int ((bg_squareFits (r11.1 ||| (2 : Int32)) r11.2.1 r11.2.2.1 r11.2.2.2 (((2 : Int64) * r10.1) + (1 : Int64)) r5.1 (0 : Int64)).2.1), .int ((bg_squareFits (r11.1 ||| (2 : Int32)) r11.2.1 r11.2.2.1 r11.2.2.2 (((2 : Int64) * r10.1) + (1 : Int64)) r5.1 (0 : Int64)).2.2.1), .long ((bg_squareFits (r11.1 ||| (2 : Int32)) r11.2.1 r11.2.2.1 r11.2.2.2 (((2 : Int64) * r10.1) + (1 : Int64)) r5.1 (0 : Int64)).2.2.2.1), .long ((bg_squareFits (r11.1 ||| (2 : Int32)) r11.2.1 r11.2.2.1 r11.2.2.2 (((2 : Int64) * r10.1) + (1 : Int64)) r5.1 (0 : Int64)).2.2.2.2)]))] H := hP
    have hD : va_D A [(h0, .inr (1, [.ref a0, .int ((bg_squareFits (r11.1 ||| (2 : Int32)) r11.2.1 r11.2.2.1 r11.2.2.2 (((2 : Int64) * r10.1) + (1 : Int64)) r5.1 (0 : Int64)).2.1), .int ((bg_squareFits (r11.1 ||| (2 : Int32)) r11.2.1 r11.2.2.1 r11.2.2.2 (((2 : Int64) * r10.1) + (1 : Int64)) r5.1 (0 : Int64)).2.2.1), .long ((bg_squareFits (r11.1 ||| (2 : Int32)) r11.2.1 r11.2.2.1 r11.2.2.2 (((2 : Int64) * r10.1) + (1 : Int64)) r5.1 (0 : Int64)).2.2.2.1), .long ((bg_squareFits (r11.1 ||| (2 : Int32)) r11.2.1 r11.2.2.1 r11.2.2.2 (((2 : Int64) * r10.1) + (1 : Int64)) r5.1 (0 : Int64)).2.2.2.2)]))] := hD
    obtain ⟨r14, e14⟩ : ∃ r, (bg_squareFits (r11.1 ||| (2 : Int32)) r11.2.1 r11.2.2.1 r11.2.2.2 (((2 : Int64) * r10.1) + (1 : Int64)) r5.1 (0 : Int64)) = r := ⟨_, rfl⟩
    rw [e14] at hP hD ⊢
    refine lv_istore (nL := 20) (lv' := [(19, .int r14.1), (17, .long (0 : Int64)), (15, .long r5.1), (14, .int (0 : Int32)), (0, .ref h0), (1, .long x1), (3, .long r5.1), (5, .int r5.2.1), (6, .long (r5.1 >>> ((2 : Int32).toInt64 &&& 63))), (8, .long ((r5.1 &&& (3 : Int64)) <<< ((52 : Int32).toInt64 &&& 63))), (10, .long r10.1), (12, .long r10.2.1)]) hx hb dX1_root_212 hl (by decide) rfl (fun ls hl => ?_)
    refine lv_iload hx hb dX1_root_214 (lv_at hl 0 rfl) ?_
    refine lv_if_eq (tgt := 226) hx hb dX1_root_216 (by decide) (fun h15 => ?_) (fun h15 => ?_)
    · refine lv_lload hx hb dX1_root_226 (lv_at hl 10 rfl) ?_
      refine lv_iload hx hb dX1_root_228 (lv_at hl 7 rfl) ?_
      refine lv_iconst (v := 2) hx hb dX1_root_230 (by decide) ?_
      refine lv_idiv hx hb dX1_root_231 (by decide) ?_
      refine lv_bipush (v := 26) hx hb dX1_root_232 (by decide) ?_
      refine lv_isub hx hb dX1_root_234 ?_
      refine bw_csl (rest := []) ⟨hx, hb, hml, hown, hts⟩ (bd_exact l r10.1 ((r5.2.1 / (2 : Int32)) - (26 : Int32))) (va_cwS 2 hts gX1_root_X1_exact rfl rfl rfl (by decide +kernel) ⟨Nat.le_of_ble_eq_true rfl, Nat.le_of_ble_eq_true rfl⟩) rfl hl.1 rfl (Nat.le_of_ble_eq_true rfl) dX1_root_235 (Nat.zero_le _) (Nat.zero_le _) ?_
      exact W.lret (v := bg_exact r10.1 ((r5.2.1 / (2 : Int32)) - (26 : Int32))) hx hb hr (fun t ht hW => ⟨⟨bg_exact r10.1 ((r5.2.1 / (2 : Int32)) - (26 : Int32)), (r14.2.1, r14.2.2.1, r14.2.2.2.1, r14.2.2.2.2), rfl, by rw [bg_root, e5, bg_root_k1, e10, bg_root_k2, e11, bg_root_k3, if_neg h12, e14, bg_root_k4, if_pos h15], by rw [ht]; exact hP, va_K.moved hW.alike hK, hD⟩, hS.F ht⟩) hS.2.2 dX1_root_238
    · refine lv_lload hx hb dX1_root_219 (lv_at hl 10 rfl) ?_
      refine lv_lconst (v := 1) hx hb dX1_root_221 (by decide) ?_
      refine lv_ladd hx hb dX1_root_222 ?_
      refine lv_goto (tgt := 228) hx hb dX1_root_223 (by decide) ?_
      refine lv_iload hx hb dX1_root_228 (lv_at hl 7 rfl) ?_
      refine lv_iconst (v := 2) hx hb dX1_root_230 (by decide) ?_
      refine lv_idiv hx hb dX1_root_231 (by decide) ?_
      refine lv_bipush (v := 26) hx hb dX1_root_232 (by decide) ?_
      refine lv_isub hx hb dX1_root_234 ?_
      refine bw_csl (rest := []) ⟨hx, hb, hml, hown, hts⟩ (bd_exact l (r10.1 + (1 : Int64)) ((r5.2.1 / (2 : Int32)) - (26 : Int32))) (va_cwS 2 hts gX1_root_X1_exact rfl rfl rfl (by decide +kernel) ⟨Nat.le_of_ble_eq_true rfl, Nat.le_of_ble_eq_true rfl⟩) rfl hl.1 rfl (Nat.le_of_ble_eq_true rfl) dX1_root_235 (Nat.zero_le _) (Nat.zero_le _) ?_
      exact W.lret (v := bg_exact (r10.1 + (1 : Int64)) ((r5.2.1 / (2 : Int32)) - (26 : Int32))) hx hb hr (fun t ht hW => ⟨⟨bg_exact (r10.1 + (1 : Int64)) ((r5.2.1 / (2 : Int32)) - (26 : Int32)), (r14.2.1, r14.2.2.1, r14.2.2.2.1, r14.2.2.2.2), rfl, by rw [bg_root, e5, bg_root_k1, e10, bg_root_k2, e11, bg_root_k3, if_neg h12, e14, bg_root_k4, if_neg h15], by rw [ht]; exact hP, va_K.moved hW.alike hK, hD⟩, hS.F ht⟩) hS.2.2 dX1_root_238
  · refine lv_aload_n hx hb dX1_root_151 rfl (lv_at hl 0 rfl) ?_
    refine va_get (D := (dC, dI)) (ci := 1) (v := .long r11.2.2.2) (C := RX1) (T := TX1) (N := 5) hx hb hts hin0 hown hK hP 0 rfl rfl 4 (by decide) (hts (.fieldLink RX1 37 "BinaryFunctionsModel" "low" "J") (by decide +kernel)) (fun _ h9 => h9) rfl dX1_root_152 ?_
    refine lv_lload hx hb dX1_root_155 (lv_at hl 5 rfl) ?_
    refine bw_lc_ne (tgt := 165) hx hb dX1_root_157 dX1_root_158 (by decide) (fun h16 => ?_) (fun h16 => ?_)
    · refine lv_iconst (v := 0) hx hb dX1_root_165 (by decide) ?_
      refine lv_istore (nL := 20) (lv' := [(14, .int (0 : Int32)), (0, .ref h0), (1, .long x1), (3, .long r5.1), (5, .int r5.2.1), (6, .long (r5.1 >>> ((2 : Int32).toInt64 &&& 63))), (8, .long ((r5.1 &&& (3 : Int64)) <<< ((52 : Int32).toInt64 &&& 63))), (10, .long r10.1), (12, .long r10.2.1)]) hx hb dX1_root_166 hl (by decide) rfl (fun ls hl => ?_)
      refine lv_aload_n hx hb dX1_root_168 rfl (lv_at hl 1 rfl) ?_
      refine lv_iload hx hb dX1_root_169 (lv_at hl 0 rfl) ?_
      refine lv_if_eq (tgt := 181) hx hb dX1_root_171 (by decide) (fun h17 => ?_) (fun h17 => ?_)
      rotate_left
      · exact absurd (by decide) h17
      refine lv_aload_n hx hb dX1_root_181 rfl (lv_at hl 1 rfl) ?_
      refine va_get (D := (dC, dI)) (ci := 1) (v := .int r11.1) (C := RX1) (T := TX1) (N := 5) hx hb hts hin0 hown hK hP 0 rfl rfl 1 (by decide) (hts (.fieldLink RX1 61 "BinaryFunctionsModel" "flag" "I") (by decide +kernel)) (fun _ h9 => h9) rfl dX1_root_182 ?_
      refine lv_iconst (v := 2) hx hb dX1_root_185 (by decide) ?_
      refine lv_ior hx hb dX1_root_186 ?_
      refine va_put (D := (dC, dI)) (ci := 1) (v := .int (r11.1 ||| (2 : Int32))) (ty := .int) (C := RX1) (T := TX1) (N := 5) hx hb hts hin0 tyX1 tyX1_ok nmX1 hown hK hP hD hS 0 rfl rfl 1 (by decide) (hts (.fieldLink RX1 61 "BinaryFunctionsModel" "flag" "I") (by decide +kernel)) (fun _ h9 => h9) rfl (by decide +kernel) rfl rfl (Nat.le_of_ble_eq_true rfl) dX1_root_187 (fun H locs hP hD hS => ?_)
      have hP : va_P (dC, dI) vwCl [(h0, .inr (1, [.ref a0, .int (r11.1 ||| (2 : Int32)), .int r11.2.1, .long r11.2.2.1, .long r11.2.2.2]))] H := hP
      have hD : va_D A [(h0, .inr (1, [.ref a0, .int (r11.1 ||| (2 : Int32)), .int r11.2.1, .long r11.2.2.1, .long r11.2.2.2]))] := hD
      refine lv_lload_n hx hb dX1_root_190 rfl (lv_at hl 3 rfl) ?_
      refine lv_lstore (nL := 20) (lv' := [(15, .long r5.1), (14, .int (0 : Int32)), (0, .ref h0), (1, .long x1), (3, .long r5.1), (5, .int r5.2.1), (6, .long (r5.1 >>> ((2 : Int32).toInt64 &&& 63))), (8, .long ((r5.1 &&& (3 : Int64)) <<< ((52 : Int32).toInt64 &&& 63))), (10, .long r10.1), (12, .long r10.2.1)]) hx hb dX1_root_191 hl (by decide) rfl (fun ls hl => ?_)
      refine lv_lconst (v := 0) hx hb dX1_root_193 (by decide) ?_
      refine lv_lstore (nL := 20) (lv' := [(17, .long (0 : Int64)), (15, .long r5.1), (14, .int (0 : Int32)), (0, .ref h0), (1, .long x1), (3, .long r5.1), (5, .int r5.2.1), (6, .long (r5.1 >>> ((2 : Int32).toInt64 &&& 63))), (8, .long ((r5.1 &&& (3 : Int64)) <<< ((52 : Int32).toInt64 &&& 63))), (10, .long r10.1), (12, .long r10.2.1)]) hx hb dX1_root_194 hl (by decide) rfl (fun ls hl => ?_)
      refine lv_aload_n hx hb dX1_root_196 rfl (lv_at hl 3 rfl) ?_
      refine lv_ldc2 hx hb hown (hts (.constantLong RX1 65 2) (by decide +kernel)) dX1_root_197 ?_
      refine lv_lload hx hb dX1_root_200 (lv_at hl 9 rfl) ?_
      refine lv_lmul hx hb dX1_root_202 ?_
      refine lv_lconst (v := 1) hx hb dX1_root_203 (by decide) ?_
      refine lv_ladd hx hb dX1_root_204 ?_
      refine lv_lload hx hb dX1_root_205 (lv_at hl 1 rfl) ?_
      refine lv_lload hx hb dX1_root_207 (lv_at hl 0 rfl) ?_
      refine bw_vi1 (rest := []) 0 ⟨hx, hb, hml, hown, hts⟩ (bd_squareFits l dC dI h0 a0 H.size (r11.1 ||| (2 : Int32)) r11.2.1 r11.2.2.1 r11.2.2.2 (((2 : Int64) * r10.1) + (1 : Int64)) r5.1 (0 : Int64)) (cwV 3 hts gX1_root_X1_squareFits rfl rfl rfl (by decide +kernel) ⟨Nat.le_of_ble_eq_true rfl, Nat.le_of_ble_eq_true rfl⟩) hK hP hD hS hA rfl rfl rfl hl.1 rfl (Nat.le_of_ble_eq_true rfl) dX1_root_209 (Nat.zero_le _) (Nat.zero_le _) (fun H locs hP hD hS => ?_)
      have hP : va_P (dC, dI) vwCl [(h0, .inr (1, [.ref a0, .int ((bg_squareFits (r11.1 ||| (2 : Int32)) r11.2.1 r11.2.2.1 r11.2.2.2 (((2 : Int64) * r10.1) + (1 : Int64)) r5.1 (0 : Int64)).2.1), .int ((bg_squareFits (r11.1 ||| (2 : Int32)) r11.2.1 r11.2.2.1 r11.2.2.2 (((2 : Int64) * r10.1) + (1 : Int64)) r5.1 (0 : Int64)).2.2.1), .long ((bg_squareFits (r11.1 ||| (2 : Int32)) r11.2.1 r11.2.2.1 r11.2.2.2 (((2 : Int64) * r10.1) + (1 : Int64)) r5.1 (0 : Int64)).2.2.2.1), .long ((bg_squareFits (r11.1 ||| (2 : Int32)) r11.2.1 r11.2.2.1 r11.2.2.2 (((2 : Int64) * r10.1) + (1 : Int64)) r5.1 (0 : Int64)).2.2.2.2)]))] H := hP
      have hD : va_D A [(h0, .inr (1, [.ref a0, .int ((bg_squareFits (r11.1 ||| (2 : Int32)) r11.2.1 r11.2.2.1 r11.2.2.2 (((2 : Int64) * r10.1) + (1 : Int64)) r5.1 (0 : Int64)).2.1), .int ((bg_squareFits (r11.1 ||| (2 : Int32)) r11.2.1 r11.2.2.1 r11.2.2.2 (((2 : Int64) * r10.1) + (1 : Int64)) r5.1 (0 : Int64)).2.2.1), .long ((bg_squareFits (r11.1 ||| (2 : Int32)) r11.2.1 r11.2.2.1 r11.2.2.2 (((2 : Int64) * r10.1) + (1 : Int64)) r5.1 (0 : Int64)).2.2.2.1), .long ((bg_squareFits (r11.1 ||| (2 : Int32)) r11.2.1 r11.2.2.1 r11.2.2.2 (((2 : Int64) * r10.1) + (1 : Int64)) r5.1 (0 : Int64)).2.2.2.2)]))] := hD
      obtain ⟨r18, e18⟩ : ∃ r, (bg_squareFits (r11.1 ||| (2 : Int32)) r11.2.1 r11.2.2.1 r11.2.2.2 (((2 : Int64) * r10.1) + (1 : Int64)) r5.1 (0 : Int64)) = r := ⟨_, rfl⟩
      rw [e18] at hP hD ⊢
      refine lv_istore (nL := 20) (lv' := [(19, .int r18.1), (17, .long (0 : Int64)), (15, .long r5.1), (14, .int (0 : Int32)), (0, .ref h0), (1, .long x1), (3, .long r5.1), (5, .int r5.2.1), (6, .long (r5.1 >>> ((2 : Int32).toInt64 &&& 63))), (8, .long ((r5.1 &&& (3 : Int64)) <<< ((52 : Int32).toInt64 &&& 63))), (10, .long r10.1), (12, .long r10.2.1)]) hx hb dX1_root_212 hl (by decide) rfl (fun ls hl => ?_)
      refine lv_iload hx hb dX1_root_214 (lv_at hl 0 rfl) ?_
      refine lv_if_eq (tgt := 226) hx hb dX1_root_216 (by decide) (fun h19 => ?_) (fun h19 => ?_)
      · refine lv_lload hx hb dX1_root_226 (lv_at hl 10 rfl) ?_
        refine lv_iload hx hb dX1_root_228 (lv_at hl 7 rfl) ?_
        refine lv_iconst (v := 2) hx hb dX1_root_230 (by decide) ?_
        refine lv_idiv hx hb dX1_root_231 (by decide) ?_
        refine lv_bipush (v := 26) hx hb dX1_root_232 (by decide) ?_
        refine lv_isub hx hb dX1_root_234 ?_
        refine bw_csl (rest := []) ⟨hx, hb, hml, hown, hts⟩ (bd_exact l r10.1 ((r5.2.1 / (2 : Int32)) - (26 : Int32))) (va_cwS 2 hts gX1_root_X1_exact rfl rfl rfl (by decide +kernel) ⟨Nat.le_of_ble_eq_true rfl, Nat.le_of_ble_eq_true rfl⟩) rfl hl.1 rfl (Nat.le_of_ble_eq_true rfl) dX1_root_235 (Nat.zero_le _) (Nat.zero_le _) ?_
        exact W.lret (v := bg_exact r10.1 ((r5.2.1 / (2 : Int32)) - (26 : Int32))) hx hb hr (fun t ht hW => ⟨⟨bg_exact r10.1 ((r5.2.1 / (2 : Int32)) - (26 : Int32)), (r18.2.1, r18.2.2.1, r18.2.2.2.1, r18.2.2.2.2), rfl, by rw [bg_root, e5, bg_root_k1, e10, bg_root_k2, e11, bg_root_k3, if_pos h12, if_neg h16, e18, bg_root_k5, if_pos h19], by rw [ht]; exact hP, va_K.moved hW.alike hK, hD⟩, hS.F ht⟩) hS.2.2 dX1_root_238
      · refine lv_lload hx hb dX1_root_219 (lv_at hl 10 rfl) ?_
        refine lv_lconst (v := 1) hx hb dX1_root_221 (by decide) ?_
        refine lv_ladd hx hb dX1_root_222 ?_
        refine lv_goto (tgt := 228) hx hb dX1_root_223 (by decide) ?_
        refine lv_iload hx hb dX1_root_228 (lv_at hl 7 rfl) ?_
        refine lv_iconst (v := 2) hx hb dX1_root_230 (by decide) ?_
        refine lv_idiv hx hb dX1_root_231 (by decide) ?_
        refine lv_bipush (v := 26) hx hb dX1_root_232 (by decide) ?_
        refine lv_isub hx hb dX1_root_234 ?_
        refine bw_csl (rest := []) ⟨hx, hb, hml, hown, hts⟩ (bd_exact l (r10.1 + (1 : Int64)) ((r5.2.1 / (2 : Int32)) - (26 : Int32))) (va_cwS 2 hts gX1_root_X1_exact rfl rfl rfl (by decide +kernel) ⟨Nat.le_of_ble_eq_true rfl, Nat.le_of_ble_eq_true rfl⟩) rfl hl.1 rfl (Nat.le_of_ble_eq_true rfl) dX1_root_235 (Nat.zero_le _) (Nat.zero_le _) ?_
        exact W.lret (v := bg_exact (r10.1 + (1 : Int64)) ((r5.2.1 / (2 : Int32)) - (26 : Int32))) hx hb hr (fun t ht hW => ⟨⟨bg_exact (r10.1 + (1 : Int64)) ((r5.2.1 / (2 : Int32)) - (26 : Int32)), (r18.2.1, r18.2.2.1, r18.2.2.2.1, r18.2.2.2.2), rfl, by rw [bg_root, e5, bg_root_k1, e10, bg_root_k2, e11, bg_root_k3, if_pos h12, if_neg h16, e18, bg_root_k5, if_neg h19], by rw [ht]; exact hP, va_K.moved hW.alike hK, hD⟩, hS.F ht⟩) hS.2.2 dX1_root_238
    · refine lv_iconst (v := 1) hx hb dX1_root_161 (by decide) ?_
      refine lv_goto (tgt := 166) hx hb dX1_root_162 (by decide) ?_
      refine lv_istore (nL := 20) (lv' := [(14, .int (1 : Int32)), (0, .ref h0), (1, .long x1), (3, .long r5.1), (5, .int r5.2.1), (6, .long (r5.1 >>> ((2 : Int32).toInt64 &&& 63))), (8, .long ((r5.1 &&& (3 : Int64)) <<< ((52 : Int32).toInt64 &&& 63))), (10, .long r10.1), (12, .long r10.2.1)]) hx hb dX1_root_166 hl (by decide) rfl (fun ls hl => ?_)
      refine lv_aload_n hx hb dX1_root_168 rfl (lv_at hl 1 rfl) ?_
      refine lv_iload hx hb dX1_root_169 (lv_at hl 0 rfl) ?_
      refine lv_if_eq (tgt := 181) hx hb dX1_root_171 (by decide) (fun h20 => ?_) (fun h20 => ?_)
      · exact absurd h20 (by decide)
      refine lv_aload_n hx hb dX1_root_174 rfl (lv_at hl 1 rfl) ?_
      refine va_get (D := (dC, dI)) (ci := 1) (v := .int r11.1) (C := RX1) (T := TX1) (N := 5) hx hb hts hin0 hown hK hP 0 rfl rfl 1 (by decide) (hts (.fieldLink RX1 61 "BinaryFunctionsModel" "flag" "I") (by decide +kernel)) (fun _ h9 => h9) rfl dX1_root_175 ?_
      refine lv_goto (tgt := 187) hx hb dX1_root_178 (by decide) ?_
      refine va_put (D := (dC, dI)) (ci := 1) (v := .int r11.1) (ty := .int) (C := RX1) (T := TX1) (N := 5) hx hb hts hin0 tyX1 tyX1_ok nmX1 hown hK hP hD hS 0 rfl rfl 1 (by decide) (hts (.fieldLink RX1 61 "BinaryFunctionsModel" "flag" "I") (by decide +kernel)) (fun _ h9 => h9) rfl (by decide +kernel) rfl rfl (Nat.le_of_ble_eq_true rfl) dX1_root_187 (fun H locs hP hD hS => ?_)
      have hP : va_P (dC, dI) vwCl [(h0, .inr (1, [.ref a0, .int r11.1, .int r11.2.1, .long r11.2.2.1, .long r11.2.2.2]))] H := hP
      have hD : va_D A [(h0, .inr (1, [.ref a0, .int r11.1, .int r11.2.1, .long r11.2.2.1, .long r11.2.2.2]))] := hD
      refine lv_lload_n hx hb dX1_root_190 rfl (lv_at hl 3 rfl) ?_
      refine lv_lstore (nL := 20) (lv' := [(15, .long r5.1), (14, .int (1 : Int32)), (0, .ref h0), (1, .long x1), (3, .long r5.1), (5, .int r5.2.1), (6, .long (r5.1 >>> ((2 : Int32).toInt64 &&& 63))), (8, .long ((r5.1 &&& (3 : Int64)) <<< ((52 : Int32).toInt64 &&& 63))), (10, .long r10.1), (12, .long r10.2.1)]) hx hb dX1_root_191 hl (by decide) rfl (fun ls hl => ?_)
      refine lv_lconst (v := 0) hx hb dX1_root_193 (by decide) ?_
      refine lv_lstore (nL := 20) (lv' := [(17, .long (0 : Int64)), (15, .long r5.1), (14, .int (1 : Int32)), (0, .ref h0), (1, .long x1), (3, .long r5.1), (5, .int r5.2.1), (6, .long (r5.1 >>> ((2 : Int32).toInt64 &&& 63))), (8, .long ((r5.1 &&& (3 : Int64)) <<< ((52 : Int32).toInt64 &&& 63))), (10, .long r10.1), (12, .long r10.2.1)]) hx hb dX1_root_194 hl (by decide) rfl (fun ls hl => ?_)
      refine lv_aload_n hx hb dX1_root_196 rfl (lv_at hl 3 rfl) ?_
      refine lv_ldc2 hx hb hown (hts (.constantLong RX1 65 2) (by decide +kernel)) dX1_root_197 ?_
      refine lv_lload hx hb dX1_root_200 (lv_at hl 9 rfl) ?_
      refine lv_lmul hx hb dX1_root_202 ?_
      refine lv_lconst (v := 1) hx hb dX1_root_203 (by decide) ?_
      refine lv_ladd hx hb dX1_root_204 ?_
      refine lv_lload hx hb dX1_root_205 (lv_at hl 1 rfl) ?_
      refine lv_lload hx hb dX1_root_207 (lv_at hl 0 rfl) ?_
      refine bw_vi1 (rest := []) 0 ⟨hx, hb, hml, hown, hts⟩ (bd_squareFits l dC dI h0 a0 H.size r11.1 r11.2.1 r11.2.2.1 r11.2.2.2 (((2 : Int64) * r10.1) + (1 : Int64)) r5.1 (0 : Int64)) (cwV 3 hts gX1_root_X1_squareFits rfl rfl rfl (by decide +kernel) ⟨Nat.le_of_ble_eq_true rfl, Nat.le_of_ble_eq_true rfl⟩) hK hP hD hS hA rfl rfl rfl hl.1 rfl (Nat.le_of_ble_eq_true rfl) dX1_root_209 (Nat.zero_le _) (Nat.zero_le _) (fun H locs hP hD hS => ?_)
      have hP : va_P (dC, dI) vwCl [(h0, .inr (1, [.ref a0, .int ((bg_squareFits r11.1 r11.2.1 r11.2.2.1 r11.2.2.2 (((2 : Int64) * r10.1) + (1 : Int64)) r5.1 (0 : Int64)).2.1), .int ((bg_squareFits r11.1 r11.2.1 r11.2.2.1 r11.2.2.2 (((2 : Int64) * r10.1) + (1 : Int64)) r5.1 (0 : Int64)).2.2.1), .long ((bg_squareFits r11.1 r11.2.1 r11.2.2.1 r11.2.2.2 (((2 : Int64) * r10.1) + (1 : Int64)) r5.1 (0 : Int64)).2.2.2.1), .long ((bg_squareFits r11.1 r11.2.1 r11.2.2.1 r11.2.2.2 (((2 : Int64) * r10.1) + (1 : Int64)) r5.1 (0 : Int64)).2.2.2.2)]))] H := hP
      have hD : va_D A [(h0, .inr (1, [.ref a0, .int ((bg_squareFits r11.1 r11.2.1 r11.2.2.1 r11.2.2.2 (((2 : Int64) * r10.1) + (1 : Int64)) r5.1 (0 : Int64)).2.1), .int ((bg_squareFits r11.1 r11.2.1 r11.2.2.1 r11.2.2.2 (((2 : Int64) * r10.1) + (1 : Int64)) r5.1 (0 : Int64)).2.2.1), .long ((bg_squareFits r11.1 r11.2.1 r11.2.2.1 r11.2.2.2 (((2 : Int64) * r10.1) + (1 : Int64)) r5.1 (0 : Int64)).2.2.2.1), .long ((bg_squareFits r11.1 r11.2.1 r11.2.2.1 r11.2.2.2 (((2 : Int64) * r10.1) + (1 : Int64)) r5.1 (0 : Int64)).2.2.2.2)]))] := hD
      obtain ⟨r21, e21⟩ : ∃ r, (bg_squareFits r11.1 r11.2.1 r11.2.2.1 r11.2.2.2 (((2 : Int64) * r10.1) + (1 : Int64)) r5.1 (0 : Int64)) = r := ⟨_, rfl⟩
      rw [e21] at hP hD ⊢
      refine lv_istore (nL := 20) (lv' := [(19, .int r21.1), (17, .long (0 : Int64)), (15, .long r5.1), (14, .int (1 : Int32)), (0, .ref h0), (1, .long x1), (3, .long r5.1), (5, .int r5.2.1), (6, .long (r5.1 >>> ((2 : Int32).toInt64 &&& 63))), (8, .long ((r5.1 &&& (3 : Int64)) <<< ((52 : Int32).toInt64 &&& 63))), (10, .long r10.1), (12, .long r10.2.1)]) hx hb dX1_root_212 hl (by decide) rfl (fun ls hl => ?_)
      refine lv_iload hx hb dX1_root_214 (lv_at hl 0 rfl) ?_
      refine lv_if_eq (tgt := 226) hx hb dX1_root_216 (by decide) (fun h22 => ?_) (fun h22 => ?_)
      · refine lv_lload hx hb dX1_root_226 (lv_at hl 10 rfl) ?_
        refine lv_iload hx hb dX1_root_228 (lv_at hl 7 rfl) ?_
        refine lv_iconst (v := 2) hx hb dX1_root_230 (by decide) ?_
        refine lv_idiv hx hb dX1_root_231 (by decide) ?_
        refine lv_bipush (v := 26) hx hb dX1_root_232 (by decide) ?_
        refine lv_isub hx hb dX1_root_234 ?_
        refine bw_csl (rest := []) ⟨hx, hb, hml, hown, hts⟩ (bd_exact l r10.1 ((r5.2.1 / (2 : Int32)) - (26 : Int32))) (va_cwS 2 hts gX1_root_X1_exact rfl rfl rfl (by decide +kernel) ⟨Nat.le_of_ble_eq_true rfl, Nat.le_of_ble_eq_true rfl⟩) rfl hl.1 rfl (Nat.le_of_ble_eq_true rfl) dX1_root_235 (Nat.zero_le _) (Nat.zero_le _) ?_
        exact W.lret (v := bg_exact r10.1 ((r5.2.1 / (2 : Int32)) - (26 : Int32))) hx hb hr (fun t ht hW => ⟨⟨bg_exact r10.1 ((r5.2.1 / (2 : Int32)) - (26 : Int32)), (r21.2.1, r21.2.2.1, r21.2.2.2.1, r21.2.2.2.2), rfl, by rw [bg_root, e5, bg_root_k1, e10, bg_root_k2, e11, bg_root_k3, if_pos h12, if_pos h16, e21, bg_root_k6, if_pos h22], by rw [ht]; exact hP, va_K.moved hW.alike hK, hD⟩, hS.F ht⟩) hS.2.2 dX1_root_238
      · refine lv_lload hx hb dX1_root_219 (lv_at hl 10 rfl) ?_
        refine lv_lconst (v := 1) hx hb dX1_root_221 (by decide) ?_
        refine lv_ladd hx hb dX1_root_222 ?_
        refine lv_goto (tgt := 228) hx hb dX1_root_223 (by decide) ?_
        refine lv_iload hx hb dX1_root_228 (lv_at hl 7 rfl) ?_
        refine lv_iconst (v := 2) hx hb dX1_root_230 (by decide) ?_
        refine lv_idiv hx hb dX1_root_231 (by decide) ?_
        refine lv_bipush (v := 26) hx hb dX1_root_232 (by decide) ?_
        refine lv_isub hx hb dX1_root_234 ?_
        refine bw_csl (rest := []) ⟨hx, hb, hml, hown, hts⟩ (bd_exact l (r10.1 + (1 : Int64)) ((r5.2.1 / (2 : Int32)) - (26 : Int32))) (va_cwS 2 hts gX1_root_X1_exact rfl rfl rfl (by decide +kernel) ⟨Nat.le_of_ble_eq_true rfl, Nat.le_of_ble_eq_true rfl⟩) rfl hl.1 rfl (Nat.le_of_ble_eq_true rfl) dX1_root_235 (Nat.zero_le _) (Nat.zero_le _) ?_
        exact W.lret (v := bg_exact (r10.1 + (1 : Int64)) ((r5.2.1 / (2 : Int32)) - (26 : Int32))) hx hb hr (fun t ht hW => ⟨⟨bg_exact (r10.1 + (1 : Int64)) ((r5.2.1 / (2 : Int32)) - (26 : Int32)), (r21.2.1, r21.2.2.1, r21.2.2.2.1, r21.2.2.2.2), rfl, by rw [bg_root, e5, bg_root_k1, e10, bg_root_k2, e11, bg_root_k3, if_pos h12, if_pos h16, e21, bg_root_k6, if_neg h22], by rw [ht]; exact hP, va_K.moved hW.alike hK, hD⟩, hS.F ht⟩) hS.2.2 dX1_root_238
set_option maxHeartbeats 4000000 in
set_option maxRecDepth 100000 in
theorem bl_rest_1_w {p : Program} {l : Launch} {e : Env} {R : Room} {s : State} {m : MethodId} {args : Array Value} {below : List Frame} {meth : Method} {c : Code} {H : Heap} {locs : List Loc} {Q : State → Prop} (hx : p.tables.exec = Jvm.exec) (hb : c.code = cX1_rest) (hml : c.maxLocals = 21) (hown : s.vm.findClass RX1 = some m.cls) (hts : ∀ w ∈ wsX1_rest, w.before args s = true) (c10 : Int32) (c12 : Int64) {h0 : Nat} {c1 : Int64} {c3 : Int64} {c5 : Int32} {c6 : Int64} {c8 : Int64} {c11 : Int32} : ∀ (n : Nat) (v14 : Int64) (v16 : Int64) (v18 : Int32) (ls : Array Slot) (r : Int64 × Int64 × Int32), lv_has ls 21 [(0, .ref h0), (1, .long c1), (3, .long c3), (5, .int c5), (6, .long c6), (8, .long c8), (10, .int c10), (11, .int c11), (12, .long c12), (14, .long v14), (16, .long v16), (18, .int v18)] → bl_it (bl_rest_1_st c10 c12) n (v14, v16, v18) = some r → (∀ (ls : Array Slot), lv_has ls 21 [(0, .ref h0), (1, .long c1), (3, .long c3), (5, .int c5), (6, .long c6), (8, .long c8), (10, .int c10), (11, .int c11), (12, .long c12), (14, .long r.1), (16, .long r.2.1), (18, .int r.2.2)] → W p l e R s m args below meth c H locs 0 0 Q (F0 m 168 ls [])) → W p l e R s m args below meth c H locs 0 0 Q (F0 m 112 ls []) := by
  intro n
  induction n with
  | zero => intro v14 v16 v18 ls r hl h; cases h
  | succ n ih =>
    intro v14 v16 v18 ls r hl h kk
    refine lv_iload hx hb dX1_rest_112 (lv_at hl 11 rfl) ?_
    refine lv_iload hx hb dX1_rest_114 (lv_at hl 6 rfl) ?_
    refine lv_icmp_ge (tgt := 168) hx hb dX1_rest_116 (by decide) (fun h5 => ?_) (fun h5 => ?_)
    · obtain rfl := bl_stepR (s := (v14, v16, v18)) (show bl_rest_1_b c10 c12 v14 v16 v18 = .inr (v14, v16, v18) by rw [bl_rest_1_b, if_pos h5]) h
      exact kk ls (lv_sub hl [0, 1, 2, 3, 4, 5, 6, 7, 8, 9, 10, 11] rfl)
    · refine lv_lload hx hb dX1_rest_119 (lv_at hl 10 rfl) ?_
      refine lv_iconst (v := 1) hx hb dX1_rest_121 (by decide) ?_
      refine lv_lshl hx hb dX1_rest_122 rfl ?_
      refine lv_lstore (nL := 21) (lv' := [(16, .long (v16 <<< ((1 : Int32).toInt64 &&& 63))), (0, .ref h0), (1, .long c1), (3, .long c3), (5, .int c5), (6, .long c6), (8, .long c8), (10, .int c10), (11, .int c11), (12, .long c12), (14, .long v14), (18, .int v18)]) hx hb dX1_rest_123 hl (by decide) rfl (fun ls hl => ?_)
      refine lv_lload hx hb dX1_rest_125 (lv_at hl 10 rfl) ?_
      refine lv_ldc2 hx hb hown (hts (.constantLong RX1 65 2) (by decide +kernel)) dX1_rest_127 ?_
      refine lv_lmul hx hb dX1_rest_130 ?_
      refine lv_ldc2 hx hb hown (hts (.constantLong RX1 100 8) (by decide +kernel)) dX1_rest_131 ?_
      refine lv_lrem hx hb dX1_rest_134 (by decide) ?_
      refine lv_lstore (nL := 21) (lv' := [(14, .long ((v14 * (2 : Int64)) - (v14 * (2 : Int64)) / (8 : Int64) * (8 : Int64))), (16, .long (v16 <<< ((1 : Int32).toInt64 &&& 63))), (0, .ref h0), (1, .long c1), (3, .long c3), (5, .int c5), (6, .long c6), (8, .long c8), (10, .int c10), (11, .int c11), (12, .long c12), (18, .int v18)]) hx hb dX1_rest_135 hl (by decide) rfl (fun ls hl => ?_)
      refine lv_lload hx hb dX1_rest_137 (lv_at hl 1 rfl) ?_
      refine lv_lload hx hb dX1_rest_139 (lv_at hl 10 rfl) ?_
      refine bw_lc_lt (tgt := 162) hx hb dX1_rest_141 dX1_rest_142 (by decide) (fun h6 => ?_) (fun h6 => ?_)
      · refine lv_iinc (nL := 21) (k := 11) (v := v18 + (1 : Int32)) (lv' := [(18, .int (v18 + (1 : Int32))), (14, .long ((v14 * (2 : Int64)) - (v14 * (2 : Int64)) / (8 : Int64) * (8 : Int64))), (16, .long (v16 <<< ((1 : Int32).toInt64 &&& 63))), (0, .ref h0), (1, .long c1), (3, .long c3), (5, .int c5), (6, .long c6), (8, .long c8), (10, .int c10), (11, .int c11), (12, .long c12)]) hx hb dX1_rest_162 hl rfl rfl (by decide) rfl (fun ls hl => ?_)
        refine lv_goto (tgt := 112) hx hb dX1_rest_165 (by decide) ?_
        exact ih ((v14 * (2 : Int64)) - (v14 * (2 : Int64)) / (8 : Int64) * (8 : Int64)) (v16 <<< ((1 : Int32).toInt64 &&& 63)) (v18 + (1 : Int32)) ls r (lv_sub hl [3, 4, 5, 6, 7, 8, 9, 10, 11, 1, 2, 0] rfl) (bl_stepL (s := (v14, v16, v18)) (show bl_rest_1_b c10 c12 v14 v16 v18 = .inl ((v14 * (2 : Int64)) - (v14 * (2 : Int64)) / (8 : Int64) * (8 : Int64), v16 <<< ((1 : Int32).toInt64 &&& 63), v18 + (1 : Int32)) by rw [bl_rest_1_b, if_neg h5, if_pos h6]) h) kk
      · refine lv_lload hx hb dX1_rest_145 (lv_at hl 1 rfl) ?_
        refine lv_lload hx hb dX1_rest_147 (lv_at hl 10 rfl) ?_
        refine lv_lsub hx hb dX1_rest_149 ?_
        refine lv_lstore (nL := 21) (lv' := [(16, .long ((v16 <<< ((1 : Int32).toInt64 &&& 63)) - c12)), (14, .long ((v14 * (2 : Int64)) - (v14 * (2 : Int64)) / (8 : Int64) * (8 : Int64))), (0, .ref h0), (1, .long c1), (3, .long c3), (5, .int c5), (6, .long c6), (8, .long c8), (10, .int c10), (11, .int c11), (12, .long c12), (18, .int v18)]) hx hb dX1_rest_150 hl (by decide) rfl (fun ls hl => ?_)
        refine lv_lload hx hb dX1_rest_152 (lv_at hl 1 rfl) ?_
        refine lv_lconst (v := 1) hx hb dX1_rest_154 (by decide) ?_
        refine lv_ladd hx hb dX1_rest_155 ?_
        refine lv_ldc2 hx hb hown (hts (.constantLong RX1 100 8) (by decide +kernel)) dX1_rest_156 ?_
        refine lv_lrem hx hb dX1_rest_159 (by decide) ?_
        refine lv_lstore (nL := 21) (lv' := [(14, .long ((((v14 * (2 : Int64)) - (v14 * (2 : Int64)) / (8 : Int64) * (8 : Int64)) + (1 : Int64)) - (((v14 * (2 : Int64)) - (v14 * (2 : Int64)) / (8 : Int64) * (8 : Int64)) + (1 : Int64)) / (8 : Int64) * (8 : Int64))), (16, .long ((v16 <<< ((1 : Int32).toInt64 &&& 63)) - c12)), (0, .ref h0), (1, .long c1), (3, .long c3), (5, .int c5), (6, .long c6), (8, .long c8), (10, .int c10), (11, .int c11), (12, .long c12), (18, .int v18)]) hx hb dX1_rest_160 hl (by decide) rfl (fun ls hl => ?_)
        refine lv_iinc (nL := 21) (k := 11) (v := v18 + (1 : Int32)) (lv' := [(18, .int (v18 + (1 : Int32))), (14, .long ((((v14 * (2 : Int64)) - (v14 * (2 : Int64)) / (8 : Int64) * (8 : Int64)) + (1 : Int64)) - (((v14 * (2 : Int64)) - (v14 * (2 : Int64)) / (8 : Int64) * (8 : Int64)) + (1 : Int64)) / (8 : Int64) * (8 : Int64))), (16, .long ((v16 <<< ((1 : Int32).toInt64 &&& 63)) - c12)), (0, .ref h0), (1, .long c1), (3, .long c3), (5, .int c5), (6, .long c6), (8, .long c8), (10, .int c10), (11, .int c11), (12, .long c12)]) hx hb dX1_rest_162 hl rfl rfl (by decide) rfl (fun ls hl => ?_)
        refine lv_goto (tgt := 112) hx hb dX1_rest_165 (by decide) ?_
        exact ih ((((v14 * (2 : Int64)) - (v14 * (2 : Int64)) / (8 : Int64) * (8 : Int64)) + (1 : Int64)) - (((v14 * (2 : Int64)) - (v14 * (2 : Int64)) / (8 : Int64) * (8 : Int64)) + (1 : Int64)) / (8 : Int64) * (8 : Int64)) ((v16 <<< ((1 : Int32).toInt64 &&& 63)) - c12) (v18 + (1 : Int32)) ls r (lv_sub hl [3, 4, 5, 6, 7, 8, 9, 10, 11, 1, 2, 0] rfl) (bl_stepL (s := (v14, v16, v18)) (show bl_rest_1_b c10 c12 v14 v16 v18 = .inl ((((v14 * (2 : Int64)) - (v14 * (2 : Int64)) / (8 : Int64) * (8 : Int64)) + (1 : Int64)) - (((v14 * (2 : Int64)) - (v14 * (2 : Int64)) / (8 : Int64) * (8 : Int64)) + (1 : Int64)) / (8 : Int64) * (8 : Int64), (v16 <<< ((1 : Int32).toInt64 &&& 63)) - c12, v18 + (1 : Int32)) by rw [bl_rest_1_b, if_neg h5, if_neg h6]) h) kk
set_option maxHeartbeats 4000000 in
set_option maxRecDepth 100000 in
theorem bd_rest (l : Launch) (dC : Nat → ClassId) (dI : Nat → Nat → Nat) (h0 a0 : Nat) (sz : Nat) (f1 : Int32) (f2 : Int32) (f3 : Int64) (f4 : Int64) (x1 : Int64) (x2 : Int64) (x3 : Int32) (hz1 : ¬ (bg_number x2) = 0) (hz2 : ¬ 0 ≤ ((bg_power x1) - (bg_power x2)) → ¬ ((bg_power x1) - (bg_power x2)) < (-62 : Int32) → (bg_number x2) ≤ ((1 : Int64) <<< (((62 : Int32) + ((bg_power x1) - (bg_power x2))).toInt64 &&& 63)) → ¬ ((bg_number x2) <<< ((-((bg_power x1) - (bg_power x2))).toInt64 &&& 63)) = 0) : Met l yX1_rest wsX1_rest ({ frames := 2, cells := 0, slots := 0, locals := 44 }) (va_Pc [.ref h0, .long x1, .long x2, .int x3] (bw_I1 (dC, dI) vwCl sz h0 (.inr (1, [.ref a0, .int f1, .int f2, .long f3, .long f4])))) (va_Ql (fun (r : Int64) (u : Int32 × Int32 × Int64 × Int64) => (r, u) = bg_rest f1 f2 f3 f4 x1 x2 x3) (fun u t => bw_O1 (dC, dI) vwCl (va_A [(h0, .inr (1, [.ref a0, .int f1, .int f2, .long f3, .long f4]))] sz) h0 (.inr (1, [.ref a0, .int u.1, .int u.2.1, .long u.2.2.1, .long u.2.2.2])) t) (va_A [(h0, .inr (1, [.ref a0, .int f1, .int f2, .long f3, .long f4]))] sz)) 0 0 (va_A [(h0, .inr (1, [.ref a0, .int f1, .int f2, .long f3, .long f4]))] sz) := by
  refine Met.ofW (cc := cX1_rest) (maxL := 21) (ret := (some .long)) (by decide) rfl ?_
  intro p e s m args below meth c s₁ B hml hv
  obtain ⟨rfl, hsz, hP, hK, hD0⟩ := hv
  have hx := B.exec
  have hb := B.bytes
  have hr := B.returns
  have hts := atoms_spec (ws := wsX1_rest) B.pre
  have hown : s.vm.findClass RX1 = some m.cls := findClass_of_methodNamed B.named
  have hlocks := B.notSynchronized
  subst hsz
  have hD := hD0.self (sz := s.heap.size)
  generalize hAe : va_A [(h0, .inr (1, [.ref a0, .int f1, .int f2, .long f3, .long f4]))] s.heap.size = A at hD ⊢
  have hA : ∀ q : Nat, s.heap.size ≤ q → A q := fun q h => by rw [← hAe]; exact Or.inr h
  have hS : va_S A s.heap s.heap [] := va_S.rf
  have hP : va_P (dC, dI) vwCl [(h0, .inr (1, [.ref a0, .int f1, .int f2, .long f3, .long f4]))] s.heap := hP
  have hin0 : ∀ w ∈ u_ws RX1 TX1 5, w ∈ wsX1_rest := by decide +kernel
  have hl := lv_entry ([.ref h0, .long x1, .long x2, .int x3]) (n := 21) (Nat.le_of_ble_eq_true rfl)
  rw [lg_entry_eq]
  generalize (lg_sl ([.ref h0, .long x1, .long x2, .int x3]) ++ List.replicate (21 - (lg_sl ([.ref h0, .long x1, .long x2, .int x3])).length) Slot.unset).toArray = ls at hl ⊢
  have hl : lv_has ls 21 [(0, .ref h0), (1, .long x1), (3, .long x2), (5, .int x3)] := hl
  refine lv_lload_n hx hb dX1_rest_0 rfl (lv_at hl 1 rfl) ?_
  refine bw_csl (rest := []) ⟨hx, hb, hml, hown, hts⟩ (bd_number l x1) (va_cwS 1 hts gX1_rest_X1_number rfl rfl rfl (by decide +kernel) ⟨Nat.le_of_ble_eq_true rfl, Nat.le_of_ble_eq_true rfl⟩) rfl hl.1 rfl (Nat.le_of_ble_eq_true rfl) dX1_rest_1 (Nat.zero_le _) (Nat.zero_le _) ?_
  refine lv_lstore (nL := 21) (lv' := [(6, .long (bg_number x1)), (0, .ref h0), (1, .long x1), (3, .long x2), (5, .int x3)]) hx hb dX1_rest_4 hl (by decide) rfl (fun ls hl => ?_)
  refine lv_lload_n hx hb dX1_rest_6 rfl (lv_at hl 3 rfl) ?_
  refine bw_csl (rest := []) ⟨hx, hb, hml, hown, hts⟩ (bd_number l x2) (va_cwS 1 hts gX1_rest_X1_number rfl rfl rfl (by decide +kernel) ⟨Nat.le_of_ble_eq_true rfl, Nat.le_of_ble_eq_true rfl⟩) rfl hl.1 rfl (Nat.le_of_ble_eq_true rfl) dX1_rest_7 (Nat.zero_le _) (Nat.zero_le _) ?_
  refine lv_lstore (nL := 21) (lv' := [(8, .long (bg_number x2)), (6, .long (bg_number x1)), (0, .ref h0), (1, .long x1), (3, .long x2), (5, .int x3)]) hx hb dX1_rest_10 hl (by decide) rfl (fun ls hl => ?_)
  refine lv_lload_n hx hb dX1_rest_12 rfl (lv_at hl 3 rfl) ?_
  refine bw_csi (rest := []) ⟨hx, hb, hml, hown, hts⟩ (bd_power l x1) (va_cwS 1 hts gX1_rest_X1_power rfl rfl rfl (by decide +kernel) ⟨Nat.le_of_ble_eq_true rfl, Nat.le_of_ble_eq_true rfl⟩) rfl hl.1 rfl (Nat.le_of_ble_eq_true rfl) dX1_rest_13 (Nat.zero_le _) (Nat.zero_le _) ?_
  refine lv_lload_n hx hb dX1_rest_16 rfl (lv_at hl 4 rfl) ?_
  refine bw_csi (rest := [.int (bg_power x1)]) ⟨hx, hb, hml, hown, hts⟩ (bd_power l x2) (va_cwS 1 hts gX1_rest_X1_power rfl rfl rfl (by decide +kernel) ⟨Nat.le_of_ble_eq_true rfl, Nat.le_of_ble_eq_true rfl⟩) rfl hl.1 rfl (Nat.le_of_ble_eq_true rfl) dX1_rest_17 (Nat.zero_le _) (Nat.zero_le _) ?_
  refine lv_isub hx hb dX1_rest_20 ?_
  refine lv_istore (nL := 21) (lv' := [(10, .int ((bg_power x1) - (bg_power x2))), (8, .long (bg_number x2)), (6, .long (bg_number x1)), (0, .ref h0), (1, .long x1), (3, .long x2), (5, .int x3)]) hx hb dX1_rest_21 hl (by decide) rfl (fun ls hl => ?_)
  refine lv_iload hx hb dX1_rest_23 (lv_at hl 0 rfl) ?_
  refine lv_if_ge (tgt := 35) hx hb dX1_rest_25 (by decide) (fun h1 => ?_) (fun h1 => ?_)
  · refine lv_lload_n hx hb dX1_rest_35 rfl (lv_at hl 5 rfl) ?_
    refine bw_csi (rest := []) ⟨hx, hb, hml, hown, hts⟩ (bd_power l x2) (va_cwS 1 hts gX1_rest_X1_power rfl rfl rfl (by decide +kernel) ⟨Nat.le_of_ble_eq_true rfl, Nat.le_of_ble_eq_true rfl⟩) rfl hl.1 rfl (Nat.le_of_ble_eq_true rfl) dX1_rest_36 (Nat.zero_le _) (Nat.zero_le _) ?_
    refine lv_istore (nL := 21) (lv' := [(11, .int (bg_power x2)), (10, .int ((bg_power x1) - (bg_power x2))), (8, .long (bg_number x2)), (6, .long (bg_number x1)), (0, .ref h0), (1, .long x1), (3, .long x2), (5, .int x3)]) hx hb dX1_rest_39 hl (by decide) rfl (fun ls hl => ?_)
    refine lv_iload hx hb dX1_rest_41 (lv_at hl 1 rfl) ?_
    refine lv_bipush (v := -62) hx hb dX1_rest_43 (by decide) ?_
    refine lv_icmp_lt (tgt := 66) hx hb dX1_rest_45 (by decide) (fun h2 => ?_) (fun h2 => ?_)
    · refine lv_aload_n hx hb dX1_rest_66 rfl (lv_at hl 4 rfl) ?_
      refine lv_iconst (v := 0) hx hb dX1_rest_67 (by decide) ?_
      refine va_put (D := (dC, dI)) (ci := 1) (v := .int (0 : Int32)) (ty := .int) (C := RX1) (T := TX1) (N := 5) hx hb hts hin0 tyX1 tyX1_ok nmX1 hown hK hP hD hS 0 rfl rfl 2 (by decide) (hts (.fieldLink RX1 97 "BinaryFunctionsModel" "quotient" "I") (by decide +kernel)) (fun _ h9 => h9) rfl (by decide +kernel) rfl rfl (Nat.le_of_ble_eq_true rfl) dX1_rest_68 (fun H locs hP hD hS => ?_)
      have hP : va_P (dC, dI) vwCl [(h0, .inr (1, [.ref a0, .int f1, .int (0 : Int32), .long f3, .long f4]))] H := hP
      have hD : va_D A [(h0, .inr (1, [.ref a0, .int f1, .int (0 : Int32), .long f3, .long f4]))] := hD
      refine lv_lload_n hx hb dX1_rest_71 rfl (lv_at hl 5 rfl) ?_
      exact W.lret (v := x1) hx hb hr (fun t ht hW => ⟨⟨x1, (f1, (0 : Int32), f3, f4), rfl, by rw [bg_rest, if_pos h1, if_pos h2], by rw [ht]; exact hP, va_K.moved hW.alike hK, hD⟩, hS.F ht⟩) hS.2.2 dX1_rest_72
    · refine lv_iload hx hb dX1_rest_48 (lv_at hl 1 rfl) ?_
      refine lv_if_ge (tgt := 73) hx hb dX1_rest_50 (by decide) (fun h3 => ?_) (fun h3 => ?_)
      rotate_left
      · exact absurd h1 h3
      refine lv_iload hx hb dX1_rest_73 (lv_at hl 1 rfl) ?_
      refine lv_if_ge (tgt := 87) hx hb dX1_rest_75 (by decide) (fun h4 => ?_) (fun h4 => ?_)
      rotate_left
      · exact absurd h1 h4
      refine lv_lload hx hb dX1_rest_87 (lv_at hl 2 rfl) ?_
      refine lv_lstore (nL := 21) (lv' := [(12, .long (bg_number x2)), (11, .int (bg_power x2)), (10, .int ((bg_power x1) - (bg_power x2))), (8, .long (bg_number x2)), (6, .long (bg_number x1)), (0, .ref h0), (1, .long x1), (3, .long x2), (5, .int x3)]) hx hb dX1_rest_89 hl (by decide) rfl (fun ls hl => ?_)
      refine lv_lload hx hb dX1_rest_91 (lv_at hl 4 rfl) ?_
      refine lv_lload hx hb dX1_rest_93 (lv_at hl 0 rfl) ?_
      refine lv_ldiv hx hb dX1_rest_95 hz1 ?_
      refine lv_ldc2 hx hb hown (hts (.constantLong RX1 100 8) (by decide +kernel)) dX1_rest_96 ?_
      refine lv_lrem hx hb dX1_rest_99 (by decide) ?_
      refine lv_lstore (nL := 21) (lv' := [(14, .long (((bg_number x1) / (bg_number x2)) - ((bg_number x1) / (bg_number x2)) / (8 : Int64) * (8 : Int64))), (12, .long (bg_number x2)), (11, .int (bg_power x2)), (10, .int ((bg_power x1) - (bg_power x2))), (8, .long (bg_number x2)), (6, .long (bg_number x1)), (0, .ref h0), (1, .long x1), (3, .long x2), (5, .int x3)]) hx hb dX1_rest_100 hl (by decide) rfl (fun ls hl => ?_)
      refine lv_lload hx hb dX1_rest_102 (lv_at hl 5 rfl) ?_
      refine lv_lload hx hb dX1_rest_104 (lv_at hl 1 rfl) ?_
      refine lv_lrem hx hb dX1_rest_106 hz1 ?_
      refine lv_lstore (nL := 21) (lv' := [(16, .long ((bg_number x1) - (bg_number x1) / (bg_number x2) * (bg_number x2))), (14, .long (((bg_number x1) / (bg_number x2)) - ((bg_number x1) / (bg_number x2)) / (8 : Int64) * (8 : Int64))), (12, .long (bg_number x2)), (11, .int (bg_power x2)), (10, .int ((bg_power x1) - (bg_power x2))), (8, .long (bg_number x2)), (6, .long (bg_number x1)), (0, .ref h0), (1, .long x1), (3, .long x2), (5, .int x3)]) hx hb dX1_rest_107 hl (by decide) rfl (fun ls hl => ?_)
      refine lv_iconst (v := 0) hx hb dX1_rest_109 (by decide) ?_
      refine lv_istore (nL := 21) (lv' := [(18, .int (0 : Int32)), (16, .long ((bg_number x1) - (bg_number x1) / (bg_number x2) * (bg_number x2))), (14, .long (((bg_number x1) / (bg_number x2)) - ((bg_number x1) / (bg_number x2)) / (8 : Int64) * (8 : Int64))), (12, .long (bg_number x2)), (11, .int (bg_power x2)), (10, .int ((bg_power x1) - (bg_power x2))), (8, .long (bg_number x2)), (6, .long (bg_number x1)), (0, .ref h0), (1, .long x1), (3, .long x2), (5, .int x3)]) hx hb dX1_rest_110 hl (by decide) rfl (fun ls hl => ?_)
      obtain ⟨n7, e7⟩ := bl_rest_1_ok ((bg_power x1) - (bg_power x2)) (bg_number x2) (((bg_number x1) / (bg_number x2)) - ((bg_number x1) / (bg_number x2)) / (8 : Int64) * (8 : Int64), (bg_number x1) - (bg_number x1) / (bg_number x2) * (bg_number x2), (0 : Int32))
      refine bl_rest_1_w hx hb hml hown hts ((bg_power x1) - (bg_power x2)) (bg_number x2) n7 (((bg_number x1) / (bg_number x2)) - ((bg_number x1) / (bg_number x2)) / (8 : Int64) * (8 : Int64)) ((bg_number x1) - (bg_number x1) / (bg_number x2) * (bg_number x2)) (0 : Int32) ls _ (lv_sub hl [8, 9, 10, 11, 7, 6, 5, 4, 3, 2, 1, 0] rfl) e7 (fun ls hl => ?_)
      have hl : lv_has ls 21 [(0, .ref h0), (1, .long x1), (3, .long x2), (5, .int x3), (6, .long (bg_number x1)), (8, .long (bg_number x2)), (10, .int ((bg_power x1) - (bg_power x2))), (11, .int (bg_power x2)), (12, .long (bg_number x2)), (14, .long ((bl_rest_1 ((bg_power x1) - (bg_power x2)) (bg_number x2) (((bg_number x1) / (bg_number x2)) - ((bg_number x1) / (bg_number x2)) / (8 : Int64) * (8 : Int64), (bg_number x1) - (bg_number x1) / (bg_number x2) * (bg_number x2), (0 : Int32))).1)), (16, .long ((bl_rest_1 ((bg_power x1) - (bg_power x2)) (bg_number x2) (((bg_number x1) / (bg_number x2)) - ((bg_number x1) / (bg_number x2)) / (8 : Int64) * (8 : Int64), (bg_number x1) - (bg_number x1) / (bg_number x2) * (bg_number x2), (0 : Int32))).2.1)), (18, .int ((bl_rest_1 ((bg_power x1) - (bg_power x2)) (bg_number x2) (((bg_number x1) / (bg_number x2)) - ((bg_number x1) / (bg_number x2)) / (8 : Int64) * (8 : Int64), (bg_number x1) - (bg_number x1) / (bg_number x2) * (bg_number x2), (0 : Int32))).2.2))] := hl
      obtain ⟨r8, e8⟩ : ∃ r, (bl_rest_1 ((bg_power x1) - (bg_power x2)) (bg_number x2) (((bg_number x1) / (bg_number x2)) - ((bg_number x1) / (bg_number x2)) / (8 : Int64) * (8 : Int64), (bg_number x1) - (bg_number x1) / (bg_number x2) * (bg_number x2), (0 : Int32))) = r := ⟨_, rfl⟩
      rw [e8] at hl
      refine lv_iload hx hb dX1_rest_168 (lv_at hl 3 rfl) ?_
      refine lv_if_eq (tgt := 210) hx hb dX1_rest_170 (by decide) (fun h9 => ?_) (fun h9 => ?_)
      · refine lv_iconst (v := 0) hx hb dX1_rest_210 (by decide) ?_
        refine lv_istore (nL := 21) (lv' := [(18, .int (0 : Int32)), (0, .ref h0), (1, .long x1), (3, .long x2), (5, .int x3), (6, .long (bg_number x1)), (8, .long (bg_number x2)), (10, .int ((bg_power x1) - (bg_power x2))), (11, .int (bg_power x2)), (12, .long (bg_number x2)), (14, .long r8.1), (16, .long r8.2.1)]) hx hb dX1_rest_211 hl (by decide) rfl (fun ls hl => ?_)
        refine lv_aload_n hx hb dX1_rest_213 rfl (lv_at hl 1 rfl) ?_
        refine lv_iload hx hb dX1_rest_214 (lv_at hl 0 rfl) ?_
        refine lv_if_eq (tgt := 230) hx hb dX1_rest_216 (by decide) (fun h10 => ?_) (fun h10 => ?_)
        rotate_left
        · exact absurd (by decide) h10
        refine lv_lload hx hb dX1_rest_230 (lv_at hl 10 rfl) ?_
        refine lv_l2i hx hb dX1_rest_232 rfl ?_
        refine va_put (D := (dC, dI)) (ci := 1) (v := .int r8.1.toInt32) (ty := .int) (C := RX1) (T := TX1) (N := 5) hx hb hts hin0 tyX1 tyX1_ok nmX1 hown hK hP hD hS 0 rfl rfl 2 (by decide) (hts (.fieldLink RX1 97 "BinaryFunctionsModel" "quotient" "I") (by decide +kernel)) (fun _ h9 => h9) rfl (by decide +kernel) rfl rfl (Nat.le_of_ble_eq_true rfl) dX1_rest_233 (fun H locs hP hD hS => ?_)
        have hP : va_P (dC, dI) vwCl [(h0, .inr (1, [.ref a0, .int f1, .int r8.1.toInt32, .long f3, .long f4]))] H := hP
        have hD : va_D A [(h0, .inr (1, [.ref a0, .int f1, .int r8.1.toInt32, .long f3, .long f4]))] := hD
        refine lv_iload hx hb dX1_rest_236 (lv_at hl 0 rfl) ?_
        refine lv_if_eq (tgt := 249) hx hb dX1_rest_238 (by decide) (fun h11 => ?_) (fun h11 => ?_)
        rotate_left
        · exact absurd (by decide) h11
        refine lv_lload hx hb dX1_rest_249 (lv_at hl 11 rfl) ?_
        refine lv_lstore (nL := 21) (lv' := [(19, .long r8.2.1), (18, .int (0 : Int32)), (0, .ref h0), (1, .long x1), (3, .long x2), (5, .int x3), (6, .long (bg_number x1)), (8, .long (bg_number x2)), (10, .int ((bg_power x1) - (bg_power x2))), (11, .int (bg_power x2)), (12, .long (bg_number x2)), (14, .long r8.1), (16, .long r8.2.1)]) hx hb dX1_rest_251 hl (by decide) rfl (fun ls hl => ?_)
        refine lv_lload hx hb dX1_rest_253 (lv_at hl 0 rfl) ?_
        refine lv_iload hx hb dX1_rest_255 (lv_at hl 9 rfl) ?_
        refine bw_csl (rest := []) ⟨hx, hb, hml, hown, hts⟩ (bd_exact l r8.2.1 (bg_power x2)) (va_cwS 2 hts gX1_rest_X1_exact rfl rfl rfl (by decide +kernel) ⟨Nat.le_of_ble_eq_true rfl, Nat.le_of_ble_eq_true rfl⟩) rfl hl.1 rfl (Nat.le_of_ble_eq_true rfl) dX1_rest_257 (Nat.zero_le _) (Nat.zero_le _) ?_
        refine lv_lload hx hb dX1_rest_260 (lv_at hl 0 rfl) ?_
        refine lv_lconst (v := 0) hx hb dX1_rest_262 (by decide) ?_
        refine bw_lc_ne (tgt := 274) hx hb dX1_rest_263 dX1_rest_264 (by decide) (fun h12 => ?_) (fun h12 => ?_)
        · refine lv_lload_n hx hb dX1_rest_274 rfl (lv_at hl 3 rfl) ?_
          refine bw_csi (rest := [.long (bg_exact r8.2.1 (bg_power x2))]) ⟨hx, hb, hml, hown, hts⟩ (bd_negative l x1) (va_cwS 1 hts gX1_rest_X1_negative rfl rfl rfl (by decide +kernel) ⟨Nat.le_of_ble_eq_true rfl, Nat.le_of_ble_eq_true rfl⟩) rfl hl.1 rfl (Nat.le_of_ble_eq_true rfl) dX1_rest_275 (Nat.zero_le _) (Nat.zero_le _) ?_
          refine lv_iload hx hb dX1_rest_278 (lv_at hl 1 rfl) ?_
          refine lv_icmp_eq (tgt := 287) hx hb dX1_rest_280 (by decide) (fun h13 => ?_) (fun h13 => ?_)
          · refine lv_iconst (v := 0) hx hb dX1_rest_287 (by decide) ?_
            refine bw_csl (rest := []) ⟨hx, hb, hml, hown, hts⟩ (bd_signed l (bg_exact r8.2.1 (bg_power x2)) (0 : Int32)) (va_cwS 2 hts gX1_rest_X1_signed rfl rfl rfl (by decide +kernel) ⟨Nat.le_of_ble_eq_true rfl, Nat.le_of_ble_eq_true rfl⟩) rfl hl.1 rfl (Nat.le_of_ble_eq_true rfl) dX1_rest_288 (Nat.zero_le _) (Nat.zero_le _) ?_
            exact W.lret (v := bg_signed (bg_exact r8.2.1 (bg_power x2)) (0 : Int32)) hx hb hr (fun t ht hW => ⟨⟨bg_signed (bg_exact r8.2.1 (bg_power x2)) (0 : Int32), (f1, r8.1.toInt32, f3, f4), rfl, by rw [bg_rest, if_pos h1, if_neg h2, e8, bg_rest_k1, if_pos h9, if_neg h12, if_pos h13], by rw [ht]; exact hP, va_K.moved hW.alike hK, hD⟩, hS.F ht⟩) hS.2.2 dX1_rest_291
          · refine lv_iconst (v := 1) hx hb dX1_rest_283 (by decide) ?_
            refine lv_goto (tgt := 288) hx hb dX1_rest_284 (by decide) ?_
            refine bw_csl (rest := []) ⟨hx, hb, hml, hown, hts⟩ (bd_signed l (bg_exact r8.2.1 (bg_power x2)) (1 : Int32)) (va_cwS 2 hts gX1_rest_X1_signed rfl rfl rfl (by decide +kernel) ⟨Nat.le_of_ble_eq_true rfl, Nat.le_of_ble_eq_true rfl⟩) rfl hl.1 rfl (Nat.le_of_ble_eq_true rfl) dX1_rest_288 (Nat.zero_le _) (Nat.zero_le _) ?_
            exact W.lret (v := bg_signed (bg_exact r8.2.1 (bg_power x2)) (1 : Int32)) hx hb hr (fun t ht hW => ⟨⟨bg_signed (bg_exact r8.2.1 (bg_power x2)) (1 : Int32), (f1, r8.1.toInt32, f3, f4), rfl, by rw [bg_rest, if_pos h1, if_neg h2, e8, bg_rest_k1, if_pos h9, if_neg h12, if_neg h13], by rw [ht]; exact hP, va_K.moved hW.alike hK, hD⟩, hS.F ht⟩) hS.2.2 dX1_rest_291
        · refine lv_lload_n hx hb dX1_rest_267 rfl (lv_at hl 3 rfl) ?_
          refine bw_csi (rest := [.long (bg_exact r8.2.1 (bg_power x2))]) ⟨hx, hb, hml, hown, hts⟩ (bd_negative l x1) (va_cwS 1 hts gX1_rest_X1_negative rfl rfl rfl (by decide +kernel) ⟨Nat.le_of_ble_eq_true rfl, Nat.le_of_ble_eq_true rfl⟩) rfl hl.1 rfl (Nat.le_of_ble_eq_true rfl) dX1_rest_268 (Nat.zero_le _) (Nat.zero_le _) ?_
          refine lv_goto (tgt := 288) hx hb dX1_rest_271 (by decide) ?_
          refine bw_csl (rest := []) ⟨hx, hb, hml, hown, hts⟩ (bd_signed l (bg_exact r8.2.1 (bg_power x2)) (bg_negative x1)) (va_cwS 2 hts gX1_rest_X1_signed rfl rfl rfl (by decide +kernel) ⟨Nat.le_of_ble_eq_true rfl, Nat.le_of_ble_eq_true rfl⟩) rfl hl.1 rfl (Nat.le_of_ble_eq_true rfl) dX1_rest_288 (Nat.zero_le _) (Nat.zero_le _) ?_
          exact W.lret (v := bg_signed (bg_exact r8.2.1 (bg_power x2)) (bg_negative x1)) hx hb hr (fun t ht hW => ⟨⟨bg_signed (bg_exact r8.2.1 (bg_power x2)) (bg_negative x1), (f1, r8.1.toInt32, f3, f4), rfl, by rw [bg_rest, if_pos h1, if_neg h2, e8, bg_rest_k1, if_pos h9, if_pos h12], by rw [ht]; exact hP, va_K.moved hW.alike hK, hD⟩, hS.F ht⟩) hS.2.2 dX1_rest_291
      · refine lv_lload hx hb dX1_rest_173 (lv_at hl 10 rfl) ?_
        refine lv_lload hx hb dX1_rest_175 (lv_at hl 8 rfl) ?_
        refine lv_lload hx hb dX1_rest_177 (lv_at hl 10 rfl) ?_
        refine lv_lsub hx hb dX1_rest_179 ?_
        refine bw_lc_gt (tgt := 206) hx hb dX1_rest_180 dX1_rest_181 (by decide) (fun h14 => ?_) (fun h14 => ?_)
        · refine lv_iconst (v := 1) hx hb dX1_rest_206 (by decide) ?_
          refine lv_goto (tgt := 211) hx hb dX1_rest_207 (by decide) ?_
          refine lv_istore (nL := 21) (lv' := [(18, .int (1 : Int32)), (0, .ref h0), (1, .long x1), (3, .long x2), (5, .int x3), (6, .long (bg_number x1)), (8, .long (bg_number x2)), (10, .int ((bg_power x1) - (bg_power x2))), (11, .int (bg_power x2)), (12, .long (bg_number x2)), (14, .long r8.1), (16, .long r8.2.1)]) hx hb dX1_rest_211 hl (by decide) rfl (fun ls hl => ?_)
          refine lv_aload_n hx hb dX1_rest_213 rfl (lv_at hl 1 rfl) ?_
          refine lv_iload hx hb dX1_rest_214 (lv_at hl 0 rfl) ?_
          refine lv_if_eq (tgt := 230) hx hb dX1_rest_216 (by decide) (fun h15 => ?_) (fun h15 => ?_)
          · exact absurd h15 (by decide)
          refine lv_lload hx hb dX1_rest_219 (lv_at hl 10 rfl) ?_
          refine lv_lconst (v := 1) hx hb dX1_rest_221 (by decide) ?_
          refine lv_ladd hx hb dX1_rest_222 ?_
          refine lv_ldc2 hx hb hown (hts (.constantLong RX1 100 8) (by decide +kernel)) dX1_rest_223 ?_
          refine lv_lrem hx hb dX1_rest_226 (by decide) ?_
          refine lv_goto (tgt := 232) hx hb dX1_rest_227 (by decide) ?_
          refine lv_l2i hx hb dX1_rest_232 rfl ?_
          refine va_put (D := (dC, dI)) (ci := 1) (v := .int (((r8.1 + (1 : Int64)) - (r8.1 + (1 : Int64)) / (8 : Int64) * (8 : Int64)).toInt32)) (ty := .int) (C := RX1) (T := TX1) (N := 5) hx hb hts hin0 tyX1 tyX1_ok nmX1 hown hK hP hD hS 0 rfl rfl 2 (by decide) (hts (.fieldLink RX1 97 "BinaryFunctionsModel" "quotient" "I") (by decide +kernel)) (fun _ h9 => h9) rfl (by decide +kernel) rfl rfl (Nat.le_of_ble_eq_true rfl) dX1_rest_233 (fun H locs hP hD hS => ?_)
          have hP : va_P (dC, dI) vwCl [(h0, .inr (1, [.ref a0, .int f1, .int (((r8.1 + (1 : Int64)) - (r8.1 + (1 : Int64)) / (8 : Int64) * (8 : Int64)).toInt32), .long f3, .long f4]))] H := hP
          have hD : va_D A [(h0, .inr (1, [.ref a0, .int f1, .int (((r8.1 + (1 : Int64)) - (r8.1 + (1 : Int64)) / (8 : Int64) * (8 : Int64)).toInt32), .long f3, .long f4]))] := hD
          refine lv_iload hx hb dX1_rest_236 (lv_at hl 0 rfl) ?_
          refine lv_if_eq (tgt := 249) hx hb dX1_rest_238 (by decide) (fun h16 => ?_) (fun h16 => ?_)
          · exact absurd h16 (by decide)
          refine lv_lload hx hb dX1_rest_241 (lv_at hl 9 rfl) ?_
          refine lv_lload hx hb dX1_rest_243 (lv_at hl 11 rfl) ?_
          refine lv_lsub hx hb dX1_rest_245 ?_
          refine lv_goto (tgt := 251) hx hb dX1_rest_246 (by decide) ?_
          refine lv_lstore (nL := 21) (lv' := [(19, .long ((bg_number x2) - r8.2.1)), (18, .int (1 : Int32)), (0, .ref h0), (1, .long x1), (3, .long x2), (5, .int x3), (6, .long (bg_number x1)), (8, .long (bg_number x2)), (10, .int ((bg_power x1) - (bg_power x2))), (11, .int (bg_power x2)), (12, .long (bg_number x2)), (14, .long r8.1), (16, .long r8.2.1)]) hx hb dX1_rest_251 hl (by decide) rfl (fun ls hl => ?_)
          refine lv_lload hx hb dX1_rest_253 (lv_at hl 0 rfl) ?_
          refine lv_iload hx hb dX1_rest_255 (lv_at hl 9 rfl) ?_
          refine bw_csl (rest := []) ⟨hx, hb, hml, hown, hts⟩ (bd_exact l ((bg_number x2) - r8.2.1) (bg_power x2)) (va_cwS 2 hts gX1_rest_X1_exact rfl rfl rfl (by decide +kernel) ⟨Nat.le_of_ble_eq_true rfl, Nat.le_of_ble_eq_true rfl⟩) rfl hl.1 rfl (Nat.le_of_ble_eq_true rfl) dX1_rest_257 (Nat.zero_le _) (Nat.zero_le _) ?_
          refine lv_lload hx hb dX1_rest_260 (lv_at hl 0 rfl) ?_
          refine lv_lconst (v := 0) hx hb dX1_rest_262 (by decide) ?_
          refine bw_lc_ne (tgt := 274) hx hb dX1_rest_263 dX1_rest_264 (by decide) (fun h17 => ?_) (fun h17 => ?_)
          · refine lv_lload_n hx hb dX1_rest_274 rfl (lv_at hl 3 rfl) ?_
            refine bw_csi (rest := [.long (bg_exact ((bg_number x2) - r8.2.1) (bg_power x2))]) ⟨hx, hb, hml, hown, hts⟩ (bd_negative l x1) (va_cwS 1 hts gX1_rest_X1_negative rfl rfl rfl (by decide +kernel) ⟨Nat.le_of_ble_eq_true rfl, Nat.le_of_ble_eq_true rfl⟩) rfl hl.1 rfl (Nat.le_of_ble_eq_true rfl) dX1_rest_275 (Nat.zero_le _) (Nat.zero_le _) ?_
            refine lv_iload hx hb dX1_rest_278 (lv_at hl 1 rfl) ?_
            refine lv_icmp_eq (tgt := 287) hx hb dX1_rest_280 (by decide) (fun h18 => ?_) (fun h18 => ?_)
            · refine lv_iconst (v := 0) hx hb dX1_rest_287 (by decide) ?_
              refine bw_csl (rest := []) ⟨hx, hb, hml, hown, hts⟩ (bd_signed l (bg_exact ((bg_number x2) - r8.2.1) (bg_power x2)) (0 : Int32)) (va_cwS 2 hts gX1_rest_X1_signed rfl rfl rfl (by decide +kernel) ⟨Nat.le_of_ble_eq_true rfl, Nat.le_of_ble_eq_true rfl⟩) rfl hl.1 rfl (Nat.le_of_ble_eq_true rfl) dX1_rest_288 (Nat.zero_le _) (Nat.zero_le _) ?_
              exact W.lret (v := bg_signed (bg_exact ((bg_number x2) - r8.2.1) (bg_power x2)) (0 : Int32)) hx hb hr (fun t ht hW => ⟨⟨bg_signed (bg_exact ((bg_number x2) - r8.2.1) (bg_power x2)) (0 : Int32), (f1, ((r8.1 + (1 : Int64)) - (r8.1 + (1 : Int64)) / (8 : Int64) * (8 : Int64)).toInt32, f3, f4), rfl, by rw [bg_rest, if_pos h1, if_neg h2, e8, bg_rest_k1, if_neg h9, if_pos h14, if_neg h17, if_pos h18], by rw [ht]; exact hP, va_K.moved hW.alike hK, hD⟩, hS.F ht⟩) hS.2.2 dX1_rest_291
            · refine lv_iconst (v := 1) hx hb dX1_rest_283 (by decide) ?_
              refine lv_goto (tgt := 288) hx hb dX1_rest_284 (by decide) ?_
              refine bw_csl (rest := []) ⟨hx, hb, hml, hown, hts⟩ (bd_signed l (bg_exact ((bg_number x2) - r8.2.1) (bg_power x2)) (1 : Int32)) (va_cwS 2 hts gX1_rest_X1_signed rfl rfl rfl (by decide +kernel) ⟨Nat.le_of_ble_eq_true rfl, Nat.le_of_ble_eq_true rfl⟩) rfl hl.1 rfl (Nat.le_of_ble_eq_true rfl) dX1_rest_288 (Nat.zero_le _) (Nat.zero_le _) ?_
              exact W.lret (v := bg_signed (bg_exact ((bg_number x2) - r8.2.1) (bg_power x2)) (1 : Int32)) hx hb hr (fun t ht hW => ⟨⟨bg_signed (bg_exact ((bg_number x2) - r8.2.1) (bg_power x2)) (1 : Int32), (f1, ((r8.1 + (1 : Int64)) - (r8.1 + (1 : Int64)) / (8 : Int64) * (8 : Int64)).toInt32, f3, f4), rfl, by rw [bg_rest, if_pos h1, if_neg h2, e8, bg_rest_k1, if_neg h9, if_pos h14, if_neg h17, if_neg h18], by rw [ht]; exact hP, va_K.moved hW.alike hK, hD⟩, hS.F ht⟩) hS.2.2 dX1_rest_291
          · refine lv_lload_n hx hb dX1_rest_267 rfl (lv_at hl 3 rfl) ?_
            refine bw_csi (rest := [.long (bg_exact ((bg_number x2) - r8.2.1) (bg_power x2))]) ⟨hx, hb, hml, hown, hts⟩ (bd_negative l x1) (va_cwS 1 hts gX1_rest_X1_negative rfl rfl rfl (by decide +kernel) ⟨Nat.le_of_ble_eq_true rfl, Nat.le_of_ble_eq_true rfl⟩) rfl hl.1 rfl (Nat.le_of_ble_eq_true rfl) dX1_rest_268 (Nat.zero_le _) (Nat.zero_le _) ?_
            refine lv_goto (tgt := 288) hx hb dX1_rest_271 (by decide) ?_
            refine bw_csl (rest := []) ⟨hx, hb, hml, hown, hts⟩ (bd_signed l (bg_exact ((bg_number x2) - r8.2.1) (bg_power x2)) (bg_negative x1)) (va_cwS 2 hts gX1_rest_X1_signed rfl rfl rfl (by decide +kernel) ⟨Nat.le_of_ble_eq_true rfl, Nat.le_of_ble_eq_true rfl⟩) rfl hl.1 rfl (Nat.le_of_ble_eq_true rfl) dX1_rest_288 (Nat.zero_le _) (Nat.zero_le _) ?_
            exact W.lret (v := bg_signed (bg_exact ((bg_number x2) - r8.2.1) (bg_power x2)) (bg_negative x1)) hx hb hr (fun t ht hW => ⟨⟨bg_signed (bg_exact ((bg_number x2) - r8.2.1) (bg_power x2)) (bg_negative x1), (f1, ((r8.1 + (1 : Int64)) - (r8.1 + (1 : Int64)) / (8 : Int64) * (8 : Int64)).toInt32, f3, f4), rfl, by rw [bg_rest, if_pos h1, if_neg h2, e8, bg_rest_k1, if_neg h9, if_pos h14, if_pos h17], by rw [ht]; exact hP, va_K.moved hW.alike hK, hD⟩, hS.F ht⟩) hS.2.2 dX1_rest_291
        · refine lv_lload hx hb dX1_rest_184 (lv_at hl 10 rfl) ?_
          refine lv_lload hx hb dX1_rest_186 (lv_at hl 8 rfl) ?_
          refine lv_lload hx hb dX1_rest_188 (lv_at hl 10 rfl) ?_
          refine lv_lsub hx hb dX1_rest_190 ?_
          refine bw_lc_ne (tgt := 210) hx hb dX1_rest_191 dX1_rest_192 (by decide) (fun h19 => ?_) (fun h19 => ?_)
          · refine lv_iconst (v := 0) hx hb dX1_rest_210 (by decide) ?_
            refine lv_istore (nL := 21) (lv' := [(18, .int (0 : Int32)), (0, .ref h0), (1, .long x1), (3, .long x2), (5, .int x3), (6, .long (bg_number x1)), (8, .long (bg_number x2)), (10, .int ((bg_power x1) - (bg_power x2))), (11, .int (bg_power x2)), (12, .long (bg_number x2)), (14, .long r8.1), (16, .long r8.2.1)]) hx hb dX1_rest_211 hl (by decide) rfl (fun ls hl => ?_)
            refine lv_aload_n hx hb dX1_rest_213 rfl (lv_at hl 1 rfl) ?_
            refine lv_iload hx hb dX1_rest_214 (lv_at hl 0 rfl) ?_
            refine lv_if_eq (tgt := 230) hx hb dX1_rest_216 (by decide) (fun h20 => ?_) (fun h20 => ?_)
            rotate_left
            · exact absurd (by decide) h20
            refine lv_lload hx hb dX1_rest_230 (lv_at hl 10 rfl) ?_
            refine lv_l2i hx hb dX1_rest_232 rfl ?_
            refine va_put (D := (dC, dI)) (ci := 1) (v := .int r8.1.toInt32) (ty := .int) (C := RX1) (T := TX1) (N := 5) hx hb hts hin0 tyX1 tyX1_ok nmX1 hown hK hP hD hS 0 rfl rfl 2 (by decide) (hts (.fieldLink RX1 97 "BinaryFunctionsModel" "quotient" "I") (by decide +kernel)) (fun _ h9 => h9) rfl (by decide +kernel) rfl rfl (Nat.le_of_ble_eq_true rfl) dX1_rest_233 (fun H locs hP hD hS => ?_)
            have hP : va_P (dC, dI) vwCl [(h0, .inr (1, [.ref a0, .int f1, .int r8.1.toInt32, .long f3, .long f4]))] H := hP
            have hD : va_D A [(h0, .inr (1, [.ref a0, .int f1, .int r8.1.toInt32, .long f3, .long f4]))] := hD
            refine lv_iload hx hb dX1_rest_236 (lv_at hl 0 rfl) ?_
            refine lv_if_eq (tgt := 249) hx hb dX1_rest_238 (by decide) (fun h21 => ?_) (fun h21 => ?_)
            rotate_left
            · exact absurd (by decide) h21
            refine lv_lload hx hb dX1_rest_249 (lv_at hl 11 rfl) ?_
            refine lv_lstore (nL := 21) (lv' := [(19, .long r8.2.1), (18, .int (0 : Int32)), (0, .ref h0), (1, .long x1), (3, .long x2), (5, .int x3), (6, .long (bg_number x1)), (8, .long (bg_number x2)), (10, .int ((bg_power x1) - (bg_power x2))), (11, .int (bg_power x2)), (12, .long (bg_number x2)), (14, .long r8.1), (16, .long r8.2.1)]) hx hb dX1_rest_251 hl (by decide) rfl (fun ls hl => ?_)
            refine lv_lload hx hb dX1_rest_253 (lv_at hl 0 rfl) ?_
            refine lv_iload hx hb dX1_rest_255 (lv_at hl 9 rfl) ?_
            refine bw_csl (rest := []) ⟨hx, hb, hml, hown, hts⟩ (bd_exact l r8.2.1 (bg_power x2)) (va_cwS 2 hts gX1_rest_X1_exact rfl rfl rfl (by decide +kernel) ⟨Nat.le_of_ble_eq_true rfl, Nat.le_of_ble_eq_true rfl⟩) rfl hl.1 rfl (Nat.le_of_ble_eq_true rfl) dX1_rest_257 (Nat.zero_le _) (Nat.zero_le _) ?_
            refine lv_lload hx hb dX1_rest_260 (lv_at hl 0 rfl) ?_
            refine lv_lconst (v := 0) hx hb dX1_rest_262 (by decide) ?_
            refine bw_lc_ne (tgt := 274) hx hb dX1_rest_263 dX1_rest_264 (by decide) (fun h22 => ?_) (fun h22 => ?_)
            · refine lv_lload_n hx hb dX1_rest_274 rfl (lv_at hl 3 rfl) ?_
              refine bw_csi (rest := [.long (bg_exact r8.2.1 (bg_power x2))]) ⟨hx, hb, hml, hown, hts⟩ (bd_negative l x1) (va_cwS 1 hts gX1_rest_X1_negative rfl rfl rfl (by decide +kernel) ⟨Nat.le_of_ble_eq_true rfl, Nat.le_of_ble_eq_true rfl⟩) rfl hl.1 rfl (Nat.le_of_ble_eq_true rfl) dX1_rest_275 (Nat.zero_le _) (Nat.zero_le _) ?_
              refine lv_iload hx hb dX1_rest_278 (lv_at hl 1 rfl) ?_
              refine lv_icmp_eq (tgt := 287) hx hb dX1_rest_280 (by decide) (fun h23 => ?_) (fun h23 => ?_)
              · refine lv_iconst (v := 0) hx hb dX1_rest_287 (by decide) ?_
                refine bw_csl (rest := []) ⟨hx, hb, hml, hown, hts⟩ (bd_signed l (bg_exact r8.2.1 (bg_power x2)) (0 : Int32)) (va_cwS 2 hts gX1_rest_X1_signed rfl rfl rfl (by decide +kernel) ⟨Nat.le_of_ble_eq_true rfl, Nat.le_of_ble_eq_true rfl⟩) rfl hl.1 rfl (Nat.le_of_ble_eq_true rfl) dX1_rest_288 (Nat.zero_le _) (Nat.zero_le _) ?_
                exact W.lret (v := bg_signed (bg_exact r8.2.1 (bg_power x2)) (0 : Int32)) hx hb hr (fun t ht hW => ⟨⟨bg_signed (bg_exact r8.2.1 (bg_power x2)) (0 : Int32), (f1, r8.1.toInt32, f3, f4), rfl, by rw [bg_rest, if_pos h1, if_neg h2, e8, bg_rest_k1, if_neg h9, if_neg h14, if_neg h19, if_neg h22, if_pos h23], by rw [ht]; exact hP, va_K.moved hW.alike hK, hD⟩, hS.F ht⟩) hS.2.2 dX1_rest_291
              · refine lv_iconst (v := 1) hx hb dX1_rest_283 (by decide) ?_
                refine lv_goto (tgt := 288) hx hb dX1_rest_284 (by decide) ?_
                refine bw_csl (rest := []) ⟨hx, hb, hml, hown, hts⟩ (bd_signed l (bg_exact r8.2.1 (bg_power x2)) (1 : Int32)) (va_cwS 2 hts gX1_rest_X1_signed rfl rfl rfl (by decide +kernel) ⟨Nat.le_of_ble_eq_true rfl, Nat.le_of_ble_eq_true rfl⟩) rfl hl.1 rfl (Nat.le_of_ble_eq_true rfl) dX1_rest_288 (Nat.zero_le _) (Nat.zero_le _) ?_
                exact W.lret (v := bg_signed (bg_exact r8.2.1 (bg_power x2)) (1 : Int32)) hx hb hr (fun t ht hW => ⟨⟨bg_signed (bg_exact r8.2.1 (bg_power x2)) (1 : Int32), (f1, r8.1.toInt32, f3, f4), rfl, by rw [bg_rest, if_pos h1, if_neg h2, e8, bg_rest_k1, if_neg h9, if_neg h14, if_neg h19, if_neg h22, if_neg h23], by rw [ht]; exact hP, va_K.moved hW.alike hK, hD⟩, hS.F ht⟩) hS.2.2 dX1_rest_291
            · refine lv_lload_n hx hb dX1_rest_267 rfl (lv_at hl 3 rfl) ?_
              refine bw_csi (rest := [.long (bg_exact r8.2.1 (bg_power x2))]) ⟨hx, hb, hml, hown, hts⟩ (bd_negative l x1) (va_cwS 1 hts gX1_rest_X1_negative rfl rfl rfl (by decide +kernel) ⟨Nat.le_of_ble_eq_true rfl, Nat.le_of_ble_eq_true rfl⟩) rfl hl.1 rfl (Nat.le_of_ble_eq_true rfl) dX1_rest_268 (Nat.zero_le _) (Nat.zero_le _) ?_
              refine lv_goto (tgt := 288) hx hb dX1_rest_271 (by decide) ?_
              refine bw_csl (rest := []) ⟨hx, hb, hml, hown, hts⟩ (bd_signed l (bg_exact r8.2.1 (bg_power x2)) (bg_negative x1)) (va_cwS 2 hts gX1_rest_X1_signed rfl rfl rfl (by decide +kernel) ⟨Nat.le_of_ble_eq_true rfl, Nat.le_of_ble_eq_true rfl⟩) rfl hl.1 rfl (Nat.le_of_ble_eq_true rfl) dX1_rest_288 (Nat.zero_le _) (Nat.zero_le _) ?_
              exact W.lret (v := bg_signed (bg_exact r8.2.1 (bg_power x2)) (bg_negative x1)) hx hb hr (fun t ht hW => ⟨⟨bg_signed (bg_exact r8.2.1 (bg_power x2)) (bg_negative x1), (f1, r8.1.toInt32, f3, f4), rfl, by rw [bg_rest, if_pos h1, if_neg h2, e8, bg_rest_k1, if_neg h9, if_neg h14, if_neg h19, if_pos h22], by rw [ht]; exact hP, va_K.moved hW.alike hK, hD⟩, hS.F ht⟩) hS.2.2 dX1_rest_291
          · refine lv_lload hx hb dX1_rest_195 (lv_at hl 9 rfl) ?_
            refine lv_ldc2 hx hb hown (hts (.constantLong RX1 65 2) (by decide +kernel)) dX1_rest_197 ?_
            refine lv_lrem hx hb dX1_rest_200 (by decide) ?_
            refine lv_lconst (v := 1) hx hb dX1_rest_201 (by decide) ?_
            refine bw_lc_ne (tgt := 210) hx hb dX1_rest_202 dX1_rest_203 (by decide) (fun h24 => ?_) (fun h24 => ?_)
            · refine lv_iconst (v := 0) hx hb dX1_rest_210 (by decide) ?_
              refine lv_istore (nL := 21) (lv' := [(18, .int (0 : Int32)), (0, .ref h0), (1, .long x1), (3, .long x2), (5, .int x3), (6, .long (bg_number x1)), (8, .long (bg_number x2)), (10, .int ((bg_power x1) - (bg_power x2))), (11, .int (bg_power x2)), (12, .long (bg_number x2)), (14, .long r8.1), (16, .long r8.2.1)]) hx hb dX1_rest_211 hl (by decide) rfl (fun ls hl => ?_)
              refine lv_aload_n hx hb dX1_rest_213 rfl (lv_at hl 1 rfl) ?_
              refine lv_iload hx hb dX1_rest_214 (lv_at hl 0 rfl) ?_
              refine lv_if_eq (tgt := 230) hx hb dX1_rest_216 (by decide) (fun h25 => ?_) (fun h25 => ?_)
              rotate_left
              · exact absurd (by decide) h25
              refine lv_lload hx hb dX1_rest_230 (lv_at hl 10 rfl) ?_
              refine lv_l2i hx hb dX1_rest_232 rfl ?_
              refine va_put (D := (dC, dI)) (ci := 1) (v := .int r8.1.toInt32) (ty := .int) (C := RX1) (T := TX1) (N := 5) hx hb hts hin0 tyX1 tyX1_ok nmX1 hown hK hP hD hS 0 rfl rfl 2 (by decide) (hts (.fieldLink RX1 97 "BinaryFunctionsModel" "quotient" "I") (by decide +kernel)) (fun _ h9 => h9) rfl (by decide +kernel) rfl rfl (Nat.le_of_ble_eq_true rfl) dX1_rest_233 (fun H locs hP hD hS => ?_)
              have hP : va_P (dC, dI) vwCl [(h0, .inr (1, [.ref a0, .int f1, .int r8.1.toInt32, .long f3, .long f4]))] H := hP
              have hD : va_D A [(h0, .inr (1, [.ref a0, .int f1, .int r8.1.toInt32, .long f3, .long f4]))] := hD
              refine lv_iload hx hb dX1_rest_236 (lv_at hl 0 rfl) ?_
              refine lv_if_eq (tgt := 249) hx hb dX1_rest_238 (by decide) (fun h26 => ?_) (fun h26 => ?_)
              rotate_left
              · exact absurd (by decide) h26
              refine lv_lload hx hb dX1_rest_249 (lv_at hl 11 rfl) ?_
              refine lv_lstore (nL := 21) (lv' := [(19, .long r8.2.1), (18, .int (0 : Int32)), (0, .ref h0), (1, .long x1), (3, .long x2), (5, .int x3), (6, .long (bg_number x1)), (8, .long (bg_number x2)), (10, .int ((bg_power x1) - (bg_power x2))), (11, .int (bg_power x2)), (12, .long (bg_number x2)), (14, .long r8.1), (16, .long r8.2.1)]) hx hb dX1_rest_251 hl (by decide) rfl (fun ls hl => ?_)
              refine lv_lload hx hb dX1_rest_253 (lv_at hl 0 rfl) ?_
              refine lv_iload hx hb dX1_rest_255 (lv_at hl 9 rfl) ?_
              refine bw_csl (rest := []) ⟨hx, hb, hml, hown, hts⟩ (bd_exact l r8.2.1 (bg_power x2)) (va_cwS 2 hts gX1_rest_X1_exact rfl rfl rfl (by decide +kernel) ⟨Nat.le_of_ble_eq_true rfl, Nat.le_of_ble_eq_true rfl⟩) rfl hl.1 rfl (Nat.le_of_ble_eq_true rfl) dX1_rest_257 (Nat.zero_le _) (Nat.zero_le _) ?_
              refine lv_lload hx hb dX1_rest_260 (lv_at hl 0 rfl) ?_
              refine lv_lconst (v := 0) hx hb dX1_rest_262 (by decide) ?_
              refine bw_lc_ne (tgt := 274) hx hb dX1_rest_263 dX1_rest_264 (by decide) (fun h27 => ?_) (fun h27 => ?_)
              · refine lv_lload_n hx hb dX1_rest_274 rfl (lv_at hl 3 rfl) ?_
                refine bw_csi (rest := [.long (bg_exact r8.2.1 (bg_power x2))]) ⟨hx, hb, hml, hown, hts⟩ (bd_negative l x1) (va_cwS 1 hts gX1_rest_X1_negative rfl rfl rfl (by decide +kernel) ⟨Nat.le_of_ble_eq_true rfl, Nat.le_of_ble_eq_true rfl⟩) rfl hl.1 rfl (Nat.le_of_ble_eq_true rfl) dX1_rest_275 (Nat.zero_le _) (Nat.zero_le _) ?_
                refine lv_iload hx hb dX1_rest_278 (lv_at hl 1 rfl) ?_
                refine lv_icmp_eq (tgt := 287) hx hb dX1_rest_280 (by decide) (fun h28 => ?_) (fun h28 => ?_)
                · refine lv_iconst (v := 0) hx hb dX1_rest_287 (by decide) ?_
                  refine bw_csl (rest := []) ⟨hx, hb, hml, hown, hts⟩ (bd_signed l (bg_exact r8.2.1 (bg_power x2)) (0 : Int32)) (va_cwS 2 hts gX1_rest_X1_signed rfl rfl rfl (by decide +kernel) ⟨Nat.le_of_ble_eq_true rfl, Nat.le_of_ble_eq_true rfl⟩) rfl hl.1 rfl (Nat.le_of_ble_eq_true rfl) dX1_rest_288 (Nat.zero_le _) (Nat.zero_le _) ?_
                  exact W.lret (v := bg_signed (bg_exact r8.2.1 (bg_power x2)) (0 : Int32)) hx hb hr (fun t ht hW => ⟨⟨bg_signed (bg_exact r8.2.1 (bg_power x2)) (0 : Int32), (f1, r8.1.toInt32, f3, f4), rfl, by rw [bg_rest, if_pos h1, if_neg h2, e8, bg_rest_k1, if_neg h9, if_neg h14, if_pos h19, if_neg h24, if_neg h27, if_pos h28], by rw [ht]; exact hP, va_K.moved hW.alike hK, hD⟩, hS.F ht⟩) hS.2.2 dX1_rest_291
                · refine lv_iconst (v := 1) hx hb dX1_rest_283 (by decide) ?_
                  refine lv_goto (tgt := 288) hx hb dX1_rest_284 (by decide) ?_
                  refine bw_csl (rest := []) ⟨hx, hb, hml, hown, hts⟩ (bd_signed l (bg_exact r8.2.1 (bg_power x2)) (1 : Int32)) (va_cwS 2 hts gX1_rest_X1_signed rfl rfl rfl (by decide +kernel) ⟨Nat.le_of_ble_eq_true rfl, Nat.le_of_ble_eq_true rfl⟩) rfl hl.1 rfl (Nat.le_of_ble_eq_true rfl) dX1_rest_288 (Nat.zero_le _) (Nat.zero_le _) ?_
                  exact W.lret (v := bg_signed (bg_exact r8.2.1 (bg_power x2)) (1 : Int32)) hx hb hr (fun t ht hW => ⟨⟨bg_signed (bg_exact r8.2.1 (bg_power x2)) (1 : Int32), (f1, r8.1.toInt32, f3, f4), rfl, by rw [bg_rest, if_pos h1, if_neg h2, e8, bg_rest_k1, if_neg h9, if_neg h14, if_pos h19, if_neg h24, if_neg h27, if_neg h28], by rw [ht]; exact hP, va_K.moved hW.alike hK, hD⟩, hS.F ht⟩) hS.2.2 dX1_rest_291
              · refine lv_lload_n hx hb dX1_rest_267 rfl (lv_at hl 3 rfl) ?_
                refine bw_csi (rest := [.long (bg_exact r8.2.1 (bg_power x2))]) ⟨hx, hb, hml, hown, hts⟩ (bd_negative l x1) (va_cwS 1 hts gX1_rest_X1_negative rfl rfl rfl (by decide +kernel) ⟨Nat.le_of_ble_eq_true rfl, Nat.le_of_ble_eq_true rfl⟩) rfl hl.1 rfl (Nat.le_of_ble_eq_true rfl) dX1_rest_268 (Nat.zero_le _) (Nat.zero_le _) ?_
                refine lv_goto (tgt := 288) hx hb dX1_rest_271 (by decide) ?_
                refine bw_csl (rest := []) ⟨hx, hb, hml, hown, hts⟩ (bd_signed l (bg_exact r8.2.1 (bg_power x2)) (bg_negative x1)) (va_cwS 2 hts gX1_rest_X1_signed rfl rfl rfl (by decide +kernel) ⟨Nat.le_of_ble_eq_true rfl, Nat.le_of_ble_eq_true rfl⟩) rfl hl.1 rfl (Nat.le_of_ble_eq_true rfl) dX1_rest_288 (Nat.zero_le _) (Nat.zero_le _) ?_
                exact W.lret (v := bg_signed (bg_exact r8.2.1 (bg_power x2)) (bg_negative x1)) hx hb hr (fun t ht hW => ⟨⟨bg_signed (bg_exact r8.2.1 (bg_power x2)) (bg_negative x1), (f1, r8.1.toInt32, f3, f4), rfl, by rw [bg_rest, if_pos h1, if_neg h2, e8, bg_rest_k1, if_neg h9, if_neg h14, if_pos h19, if_neg h24, if_pos h27], by rw [ht]; exact hP, va_K.moved hW.alike hK, hD⟩, hS.F ht⟩) hS.2.2 dX1_rest_291
            · refine lv_iconst (v := 1) hx hb dX1_rest_206 (by decide) ?_
              refine lv_goto (tgt := 211) hx hb dX1_rest_207 (by decide) ?_
              refine lv_istore (nL := 21) (lv' := [(18, .int (1 : Int32)), (0, .ref h0), (1, .long x1), (3, .long x2), (5, .int x3), (6, .long (bg_number x1)), (8, .long (bg_number x2)), (10, .int ((bg_power x1) - (bg_power x2))), (11, .int (bg_power x2)), (12, .long (bg_number x2)), (14, .long r8.1), (16, .long r8.2.1)]) hx hb dX1_rest_211 hl (by decide) rfl (fun ls hl => ?_)
              refine lv_aload_n hx hb dX1_rest_213 rfl (lv_at hl 1 rfl) ?_
              refine lv_iload hx hb dX1_rest_214 (lv_at hl 0 rfl) ?_
              refine lv_if_eq (tgt := 230) hx hb dX1_rest_216 (by decide) (fun h29 => ?_) (fun h29 => ?_)
              · exact absurd h29 (by decide)
              refine lv_lload hx hb dX1_rest_219 (lv_at hl 10 rfl) ?_
              refine lv_lconst (v := 1) hx hb dX1_rest_221 (by decide) ?_
              refine lv_ladd hx hb dX1_rest_222 ?_
              refine lv_ldc2 hx hb hown (hts (.constantLong RX1 100 8) (by decide +kernel)) dX1_rest_223 ?_
              refine lv_lrem hx hb dX1_rest_226 (by decide) ?_
              refine lv_goto (tgt := 232) hx hb dX1_rest_227 (by decide) ?_
              refine lv_l2i hx hb dX1_rest_232 rfl ?_
              refine va_put (D := (dC, dI)) (ci := 1) (v := .int (((r8.1 + (1 : Int64)) - (r8.1 + (1 : Int64)) / (8 : Int64) * (8 : Int64)).toInt32)) (ty := .int) (C := RX1) (T := TX1) (N := 5) hx hb hts hin0 tyX1 tyX1_ok nmX1 hown hK hP hD hS 0 rfl rfl 2 (by decide) (hts (.fieldLink RX1 97 "BinaryFunctionsModel" "quotient" "I") (by decide +kernel)) (fun _ h9 => h9) rfl (by decide +kernel) rfl rfl (Nat.le_of_ble_eq_true rfl) dX1_rest_233 (fun H locs hP hD hS => ?_)
              have hP : va_P (dC, dI) vwCl [(h0, .inr (1, [.ref a0, .int f1, .int (((r8.1 + (1 : Int64)) - (r8.1 + (1 : Int64)) / (8 : Int64) * (8 : Int64)).toInt32), .long f3, .long f4]))] H := hP
              have hD : va_D A [(h0, .inr (1, [.ref a0, .int f1, .int (((r8.1 + (1 : Int64)) - (r8.1 + (1 : Int64)) / (8 : Int64) * (8 : Int64)).toInt32), .long f3, .long f4]))] := hD
              refine lv_iload hx hb dX1_rest_236 (lv_at hl 0 rfl) ?_
              refine lv_if_eq (tgt := 249) hx hb dX1_rest_238 (by decide) (fun h30 => ?_) (fun h30 => ?_)
              · exact absurd h30 (by decide)
              refine lv_lload hx hb dX1_rest_241 (lv_at hl 9 rfl) ?_
              refine lv_lload hx hb dX1_rest_243 (lv_at hl 11 rfl) ?_
              refine lv_lsub hx hb dX1_rest_245 ?_
              refine lv_goto (tgt := 251) hx hb dX1_rest_246 (by decide) ?_
              refine lv_lstore (nL := 21) (lv' := [(19, .long ((bg_number x2) - r8.2.1)), (18, .int (1 : Int32)), (0, .ref h0), (1, .long x1), (3, .long x2), (5, .int x3), (6, .long (bg_number x1)), (8, .long (bg_number x2)), (10, .int ((bg_power x1) - (bg_power x2))), (11, .int (bg_power x2)), (12, .long (bg_number x2)), (14, .long r8.1), (16, .long r8.2.1)]) hx hb dX1_rest_251 hl (by decide) rfl (fun ls hl => ?_)
              refine lv_lload hx hb dX1_rest_253 (lv_at hl 0 rfl) ?_
              refine lv_iload hx hb dX1_rest_255 (lv_at hl 9 rfl) ?_
              refine bw_csl (rest := []) ⟨hx, hb, hml, hown, hts⟩ (bd_exact l ((bg_number x2) - r8.2.1) (bg_power x2)) (va_cwS 2 hts gX1_rest_X1_exact rfl rfl rfl (by decide +kernel) ⟨Nat.le_of_ble_eq_true rfl, Nat.le_of_ble_eq_true rfl⟩) rfl hl.1 rfl (Nat.le_of_ble_eq_true rfl) dX1_rest_257 (Nat.zero_le _) (Nat.zero_le _) ?_
              refine lv_lload hx hb dX1_rest_260 (lv_at hl 0 rfl) ?_
              refine lv_lconst (v := 0) hx hb dX1_rest_262 (by decide) ?_
              refine bw_lc_ne (tgt := 274) hx hb dX1_rest_263 dX1_rest_264 (by decide) (fun h31 => ?_) (fun h31 => ?_)
              · refine lv_lload_n hx hb dX1_rest_274 rfl (lv_at hl 3 rfl) ?_
                refine bw_csi (rest := [.long (bg_exact ((bg_number x2) - r8.2.1) (bg_power x2))]) ⟨hx, hb, hml, hown, hts⟩ (bd_negative l x1) (va_cwS 1 hts gX1_rest_X1_negative rfl rfl rfl (by decide +kernel) ⟨Nat.le_of_ble_eq_true rfl, Nat.le_of_ble_eq_true rfl⟩) rfl hl.1 rfl (Nat.le_of_ble_eq_true rfl) dX1_rest_275 (Nat.zero_le _) (Nat.zero_le _) ?_
                refine lv_iload hx hb dX1_rest_278 (lv_at hl 1 rfl) ?_
                refine lv_icmp_eq (tgt := 287) hx hb dX1_rest_280 (by decide) (fun h32 => ?_) (fun h32 => ?_)
                · refine lv_iconst (v := 0) hx hb dX1_rest_287 (by decide) ?_
                  refine bw_csl (rest := []) ⟨hx, hb, hml, hown, hts⟩ (bd_signed l (bg_exact ((bg_number x2) - r8.2.1) (bg_power x2)) (0 : Int32)) (va_cwS 2 hts gX1_rest_X1_signed rfl rfl rfl (by decide +kernel) ⟨Nat.le_of_ble_eq_true rfl, Nat.le_of_ble_eq_true rfl⟩) rfl hl.1 rfl (Nat.le_of_ble_eq_true rfl) dX1_rest_288 (Nat.zero_le _) (Nat.zero_le _) ?_
                  exact W.lret (v := bg_signed (bg_exact ((bg_number x2) - r8.2.1) (bg_power x2)) (0 : Int32)) hx hb hr (fun t ht hW => ⟨⟨bg_signed (bg_exact ((bg_number x2) - r8.2.1) (bg_power x2)) (0 : Int32), (f1, ((r8.1 + (1 : Int64)) - (r8.1 + (1 : Int64)) / (8 : Int64) * (8 : Int64)).toInt32, f3, f4), rfl, by rw [bg_rest, if_pos h1, if_neg h2, e8, bg_rest_k1, if_neg h9, if_neg h14, if_pos h19, if_pos h24, if_neg h31, if_pos h32], by rw [ht]; exact hP, va_K.moved hW.alike hK, hD⟩, hS.F ht⟩) hS.2.2 dX1_rest_291
                · refine lv_iconst (v := 1) hx hb dX1_rest_283 (by decide) ?_
                  refine lv_goto (tgt := 288) hx hb dX1_rest_284 (by decide) ?_
                  refine bw_csl (rest := []) ⟨hx, hb, hml, hown, hts⟩ (bd_signed l (bg_exact ((bg_number x2) - r8.2.1) (bg_power x2)) (1 : Int32)) (va_cwS 2 hts gX1_rest_X1_signed rfl rfl rfl (by decide +kernel) ⟨Nat.le_of_ble_eq_true rfl, Nat.le_of_ble_eq_true rfl⟩) rfl hl.1 rfl (Nat.le_of_ble_eq_true rfl) dX1_rest_288 (Nat.zero_le _) (Nat.zero_le _) ?_
                  exact W.lret (v := bg_signed (bg_exact ((bg_number x2) - r8.2.1) (bg_power x2)) (1 : Int32)) hx hb hr (fun t ht hW => ⟨⟨bg_signed (bg_exact ((bg_number x2) - r8.2.1) (bg_power x2)) (1 : Int32), (f1, ((r8.1 + (1 : Int64)) - (r8.1 + (1 : Int64)) / (8 : Int64) * (8 : Int64)).toInt32, f3, f4), rfl, by rw [bg_rest, if_pos h1, if_neg h2, e8, bg_rest_k1, if_neg h9, if_neg h14, if_pos h19, if_pos h24, if_neg h31, if_neg h32], by rw [ht]; exact hP, va_K.moved hW.alike hK, hD⟩, hS.F ht⟩) hS.2.2 dX1_rest_291
              · refine lv_lload_n hx hb dX1_rest_267 rfl (lv_at hl 3 rfl) ?_
                refine bw_csi (rest := [.long (bg_exact ((bg_number x2) - r8.2.1) (bg_power x2))]) ⟨hx, hb, hml, hown, hts⟩ (bd_negative l x1) (va_cwS 1 hts gX1_rest_X1_negative rfl rfl rfl (by decide +kernel) ⟨Nat.le_of_ble_eq_true rfl, Nat.le_of_ble_eq_true rfl⟩) rfl hl.1 rfl (Nat.le_of_ble_eq_true rfl) dX1_rest_268 (Nat.zero_le _) (Nat.zero_le _) ?_
                refine lv_goto (tgt := 288) hx hb dX1_rest_271 (by decide) ?_
                refine bw_csl (rest := []) ⟨hx, hb, hml, hown, hts⟩ (bd_signed l (bg_exact ((bg_number x2) - r8.2.1) (bg_power x2)) (bg_negative x1)) (va_cwS 2 hts gX1_rest_X1_signed rfl rfl rfl (by decide +kernel) ⟨Nat.le_of_ble_eq_true rfl, Nat.le_of_ble_eq_true rfl⟩) rfl hl.1 rfl (Nat.le_of_ble_eq_true rfl) dX1_rest_288 (Nat.zero_le _) (Nat.zero_le _) ?_
                exact W.lret (v := bg_signed (bg_exact ((bg_number x2) - r8.2.1) (bg_power x2)) (bg_negative x1)) hx hb hr (fun t ht hW => ⟨⟨bg_signed (bg_exact ((bg_number x2) - r8.2.1) (bg_power x2)) (bg_negative x1), (f1, ((r8.1 + (1 : Int64)) - (r8.1 + (1 : Int64)) / (8 : Int64) * (8 : Int64)).toInt32, f3, f4), rfl, by rw [bg_rest, if_pos h1, if_neg h2, e8, bg_rest_k1, if_neg h9, if_neg h14, if_pos h19, if_pos h24, if_pos h31], by rw [ht]; exact hP, va_K.moved hW.alike hK, hD⟩, hS.F ht⟩) hS.2.2 dX1_rest_291
  · refine lv_lload_n hx hb dX1_rest_28 rfl (lv_at hl 4 rfl) ?_
    refine bw_csi (rest := []) ⟨hx, hb, hml, hown, hts⟩ (bd_power l x1) (va_cwS 1 hts gX1_rest_X1_power rfl rfl rfl (by decide +kernel) ⟨Nat.le_of_ble_eq_true rfl, Nat.le_of_ble_eq_true rfl⟩) rfl hl.1 rfl (Nat.le_of_ble_eq_true rfl) dX1_rest_29 (Nat.zero_le _) (Nat.zero_le _) ?_
    refine lv_goto (tgt := 39) hx hb dX1_rest_32 (by decide) ?_
    refine lv_istore (nL := 21) (lv' := [(11, .int (bg_power x1)), (10, .int ((bg_power x1) - (bg_power x2))), (8, .long (bg_number x2)), (6, .long (bg_number x1)), (0, .ref h0), (1, .long x1), (3, .long x2), (5, .int x3)]) hx hb dX1_rest_39 hl (by decide) rfl (fun ls hl => ?_)
    refine lv_iload hx hb dX1_rest_41 (lv_at hl 1 rfl) ?_
    refine lv_bipush (v := -62) hx hb dX1_rest_43 (by decide) ?_
    refine lv_icmp_lt (tgt := 66) hx hb dX1_rest_45 (by decide) (fun h33 => ?_) (fun h33 => ?_)
    · refine lv_aload_n hx hb dX1_rest_66 rfl (lv_at hl 4 rfl) ?_
      refine lv_iconst (v := 0) hx hb dX1_rest_67 (by decide) ?_
      refine va_put (D := (dC, dI)) (ci := 1) (v := .int (0 : Int32)) (ty := .int) (C := RX1) (T := TX1) (N := 5) hx hb hts hin0 tyX1 tyX1_ok nmX1 hown hK hP hD hS 0 rfl rfl 2 (by decide) (hts (.fieldLink RX1 97 "BinaryFunctionsModel" "quotient" "I") (by decide +kernel)) (fun _ h9 => h9) rfl (by decide +kernel) rfl rfl (Nat.le_of_ble_eq_true rfl) dX1_rest_68 (fun H locs hP hD hS => ?_)
      have hP : va_P (dC, dI) vwCl [(h0, .inr (1, [.ref a0, .int f1, .int (0 : Int32), .long f3, .long f4]))] H := hP
      have hD : va_D A [(h0, .inr (1, [.ref a0, .int f1, .int (0 : Int32), .long f3, .long f4]))] := hD
      refine lv_lload_n hx hb dX1_rest_71 rfl (lv_at hl 5 rfl) ?_
      exact W.lret (v := x1) hx hb hr (fun t ht hW => ⟨⟨x1, (f1, (0 : Int32), f3, f4), rfl, by rw [bg_rest, if_neg h1, if_pos h33], by rw [ht]; exact hP, va_K.moved hW.alike hK, hD⟩, hS.F ht⟩) hS.2.2 dX1_rest_72
    · refine lv_iload hx hb dX1_rest_48 (lv_at hl 1 rfl) ?_
      refine lv_if_ge (tgt := 73) hx hb dX1_rest_50 (by decide) (fun h34 => ?_) (fun h34 => ?_)
      · exact absurd h34 h1
      refine lv_lload hx hb dX1_rest_53 (lv_at hl 2 rfl) ?_
      refine lv_lconst (v := 1) hx hb dX1_rest_55 (by decide) ?_
      refine lv_bipush (v := 62) hx hb dX1_rest_56 (by decide) ?_
      refine lv_iload hx hb dX1_rest_58 (lv_at hl 1 rfl) ?_
      refine lv_iadd hx hb dX1_rest_60 ?_
      refine lv_lshl hx hb dX1_rest_61 rfl ?_
      refine bw_lc_le (tgt := 73) hx hb dX1_rest_62 dX1_rest_63 (by decide) (fun h35 => ?_) (fun h35 => ?_)
      · refine lv_iload hx hb dX1_rest_73 (lv_at hl 1 rfl) ?_
        refine lv_if_ge (tgt := 87) hx hb dX1_rest_75 (by decide) (fun h36 => ?_) (fun h36 => ?_)
        · exact absurd h36 h1
        refine lv_lload hx hb dX1_rest_78 (lv_at hl 2 rfl) ?_
        refine lv_iload hx hb dX1_rest_80 (lv_at hl 1 rfl) ?_
        refine lv_ineg hx hb dX1_rest_82 ?_
        refine lv_lshl hx hb dX1_rest_83 rfl ?_
        refine lv_goto (tgt := 89) hx hb dX1_rest_84 (by decide) ?_
        refine lv_lstore (nL := 21) (lv' := [(12, .long ((bg_number x2) <<< ((-((bg_power x1) - (bg_power x2))).toInt64 &&& 63))), (11, .int (bg_power x1)), (10, .int ((bg_power x1) - (bg_power x2))), (8, .long (bg_number x2)), (6, .long (bg_number x1)), (0, .ref h0), (1, .long x1), (3, .long x2), (5, .int x3)]) hx hb dX1_rest_89 hl (by decide) rfl (fun ls hl => ?_)
        refine lv_lload hx hb dX1_rest_91 (lv_at hl 4 rfl) ?_
        refine lv_lload hx hb dX1_rest_93 (lv_at hl 0 rfl) ?_
        refine lv_ldiv hx hb dX1_rest_95 (hz2 h1 h33 h35) ?_
        refine lv_ldc2 hx hb hown (hts (.constantLong RX1 100 8) (by decide +kernel)) dX1_rest_96 ?_
        refine lv_lrem hx hb dX1_rest_99 (by decide) ?_
        refine lv_lstore (nL := 21) (lv' := [(14, .long (((bg_number x1) / ((bg_number x2) <<< ((-((bg_power x1) - (bg_power x2))).toInt64 &&& 63))) - ((bg_number x1) / ((bg_number x2) <<< ((-((bg_power x1) - (bg_power x2))).toInt64 &&& 63))) / (8 : Int64) * (8 : Int64))), (12, .long ((bg_number x2) <<< ((-((bg_power x1) - (bg_power x2))).toInt64 &&& 63))), (11, .int (bg_power x1)), (10, .int ((bg_power x1) - (bg_power x2))), (8, .long (bg_number x2)), (6, .long (bg_number x1)), (0, .ref h0), (1, .long x1), (3, .long x2), (5, .int x3)]) hx hb dX1_rest_100 hl (by decide) rfl (fun ls hl => ?_)
        refine lv_lload hx hb dX1_rest_102 (lv_at hl 5 rfl) ?_
        refine lv_lload hx hb dX1_rest_104 (lv_at hl 1 rfl) ?_
        refine lv_lrem hx hb dX1_rest_106 (hz2 h1 h33 h35) ?_
        refine lv_lstore (nL := 21) (lv' := [(16, .long ((bg_number x1) - (bg_number x1) / ((bg_number x2) <<< ((-((bg_power x1) - (bg_power x2))).toInt64 &&& 63)) * ((bg_number x2) <<< ((-((bg_power x1) - (bg_power x2))).toInt64 &&& 63)))), (14, .long (((bg_number x1) / ((bg_number x2) <<< ((-((bg_power x1) - (bg_power x2))).toInt64 &&& 63))) - ((bg_number x1) / ((bg_number x2) <<< ((-((bg_power x1) - (bg_power x2))).toInt64 &&& 63))) / (8 : Int64) * (8 : Int64))), (12, .long ((bg_number x2) <<< ((-((bg_power x1) - (bg_power x2))).toInt64 &&& 63))), (11, .int (bg_power x1)), (10, .int ((bg_power x1) - (bg_power x2))), (8, .long (bg_number x2)), (6, .long (bg_number x1)), (0, .ref h0), (1, .long x1), (3, .long x2), (5, .int x3)]) hx hb dX1_rest_107 hl (by decide) rfl (fun ls hl => ?_)
        refine lv_iconst (v := 0) hx hb dX1_rest_109 (by decide) ?_
        refine lv_istore (nL := 21) (lv' := [(18, .int (0 : Int32)), (16, .long ((bg_number x1) - (bg_number x1) / ((bg_number x2) <<< ((-((bg_power x1) - (bg_power x2))).toInt64 &&& 63)) * ((bg_number x2) <<< ((-((bg_power x1) - (bg_power x2))).toInt64 &&& 63)))), (14, .long (((bg_number x1) / ((bg_number x2) <<< ((-((bg_power x1) - (bg_power x2))).toInt64 &&& 63))) - ((bg_number x1) / ((bg_number x2) <<< ((-((bg_power x1) - (bg_power x2))).toInt64 &&& 63))) / (8 : Int64) * (8 : Int64))), (12, .long ((bg_number x2) <<< ((-((bg_power x1) - (bg_power x2))).toInt64 &&& 63))), (11, .int (bg_power x1)), (10, .int ((bg_power x1) - (bg_power x2))), (8, .long (bg_number x2)), (6, .long (bg_number x1)), (0, .ref h0), (1, .long x1), (3, .long x2), (5, .int x3)]) hx hb dX1_rest_110 hl (by decide) rfl (fun ls hl => ?_)
        obtain ⟨n37, e37⟩ := bl_rest_1_ok ((bg_power x1) - (bg_power x2)) ((bg_number x2) <<< ((-((bg_power x1) - (bg_power x2))).toInt64 &&& 63)) (((bg_number x1) / ((bg_number x2) <<< ((-((bg_power x1) - (bg_power x2))).toInt64 &&& 63))) - ((bg_number x1) / ((bg_number x2) <<< ((-((bg_power x1) - (bg_power x2))).toInt64 &&& 63))) / (8 : Int64) * (8 : Int64), (bg_number x1) - (bg_number x1) / ((bg_number x2) <<< ((-((bg_power x1) - (bg_power x2))).toInt64 &&& 63)) * ((bg_number x2) <<< ((-((bg_power x1) - (bg_power x2))).toInt64 &&& 63)), (0 : Int32))
        refine bl_rest_1_w hx hb hml hown hts ((bg_power x1) - (bg_power x2)) ((bg_number x2) <<< ((-((bg_power x1) - (bg_power x2))).toInt64 &&& 63)) n37 (((bg_number x1) / ((bg_number x2) <<< ((-((bg_power x1) - (bg_power x2))).toInt64 &&& 63))) - ((bg_number x1) / ((bg_number x2) <<< ((-((bg_power x1) - (bg_power x2))).toInt64 &&& 63))) / (8 : Int64) * (8 : Int64)) ((bg_number x1) - (bg_number x1) / ((bg_number x2) <<< ((-((bg_power x1) - (bg_power x2))).toInt64 &&& 63)) * ((bg_number x2) <<< ((-((bg_power x1) - (bg_power x2))).toInt64 &&& 63))) (0 : Int32) ls _ (lv_sub hl [8, 9, 10, 11, 7, 6, 5, 4, 3, 2, 1, 0] rfl) e37 (fun ls hl => ?_)
        have hl : lv_has ls 21 [(0, .ref h0), (1, .long x1), (3, .long x2), (5, .int x3), (6, .long (bg_number x1)), (8, .long (bg_number x2)), (10, .int ((bg_power x1) - (bg_power x2))), (11, .int (bg_power x1)), (12, .long ((bg_number x2) <<< ((-((bg_power x1) - (bg_power x2))).toInt64 &&& 63))), (14, .long ((bl_rest_1 ((bg_power x1) - (bg_power x2)) ((bg_number x2) <<< ((-((bg_power x1) - (bg_power x2))).toInt64 &&& 63)) (((bg_number x1) / ((bg_number x2) <<< ((-((bg_power x1) - (bg_power x2))).toInt64 &&& 63))) - ((bg_number x1) / ((bg_number x2) <<< ((-((bg_power x1) - (bg_power x2))).toInt64 &&& 63))) / (8 : Int64) * (8 : Int64), (bg_number x1) - (bg_number x1) / ((bg_number x2) <<< ((-((bg_power x1) - (bg_power x2))).toInt64 &&& 63)) * ((bg_number x2) <<< ((-((bg_power x1) - (bg_power x2))).toInt64 &&& 63)), (0 : Int32))).1)), (16, .long ((bl_rest_1 ((bg_power x1) - (bg_power x2)) ((bg_number x2) <<< ((-((bg_power x1) - (bg_power x2))).toInt64 &&& 63)) (((bg_number x1) / ((bg_number x2) <<< ((-((bg_power x1) - (bg_power x2))).toInt64 &&& 63))) - ((bg_number x1) / ((bg_number x2) <<< ((-((bg_power x1) - (bg_power x2))).toInt64 &&& 63))) / (8 : Int64) * (8 : Int64), (bg_number x1) - (bg_number x1) / ((bg_number x2) <<< ((-((bg_power x1) - (bg_power x2))).toInt64 &&& 63)) * ((bg_number x2) <<< ((-((bg_power x1) - (bg_power x2))).toInt64 &&& 63)), (0 : Int32))).2.1)), (18, .int ((bl_rest_1 ((bg_power x1) - (bg_power x2)) ((bg_number x2) <<< ((-((bg_power x1) - (bg_power x2))).toInt64 &&& 63)) (((bg_number x1) / ((bg_number x2) <<< ((-((bg_power x1) - (bg_power x2))).toInt64 &&& 63))) - ((bg_number x1) / ((bg_number x2) <<< ((-((bg_power x1) - (bg_power x2))).toInt64 &&& 63))) / (8 : Int64) * (8 : Int64), (bg_number x1) - (bg_number x1) / ((bg_number x2) <<< ((-((bg_power x1) - (bg_power x2))).toInt64 &&& 63)) * ((bg_number x2) <<< ((-((bg_power x1) - (bg_power x2))).toInt64 &&& 63)), (0 : Int32))).2.2))] := hl
        obtain ⟨r38, e38⟩ : ∃ r, (bl_rest_1 ((bg_power x1) - (bg_power x2)) ((bg_number x2) <<< ((-((bg_power x1) - (bg_power x2))).toInt64 &&& 63)) (((bg_number x1) / ((bg_number x2) <<< ((-((bg_power x1) - (bg_power x2))).toInt64 &&& 63))) - ((bg_number x1) / ((bg_number x2) <<< ((-((bg_power x1) - (bg_power x2))).toInt64 &&& 63))) / (8 : Int64) * (8 : Int64), (bg_number x1) - (bg_number x1) / ((bg_number x2) <<< ((-((bg_power x1) - (bg_power x2))).toInt64 &&& 63)) * ((bg_number x2) <<< ((-((bg_power x1) - (bg_power x2))).toInt64 &&& 63)), (0 : Int32))) = r := ⟨_, rfl⟩
        rw [e38] at hl
        refine lv_iload hx hb dX1_rest_168 (lv_at hl 3 rfl) ?_
        refine lv_if_eq (tgt := 210) hx hb dX1_rest_170 (by decide) (fun h39 => ?_) (fun h39 => ?_)
        · refine lv_iconst (v := 0) hx hb dX1_rest_210 (by decide) ?_
          refine lv_istore (nL := 21) (lv' := [(18, .int (0 : Int32)), (0, .ref h0), (1, .long x1), (3, .long x2), (5, .int x3), (6, .long (bg_number x1)), (8, .long (bg_number x2)), (10, .int ((bg_power x1) - (bg_power x2))), (11, .int (bg_power x1)), (12, .long ((bg_number x2) <<< ((-((bg_power x1) - (bg_power x2))).toInt64 &&& 63))), (14, .long r38.1), (16, .long r38.2.1)]) hx hb dX1_rest_211 hl (by decide) rfl (fun ls hl => ?_)
          refine lv_aload_n hx hb dX1_rest_213 rfl (lv_at hl 1 rfl) ?_
          refine lv_iload hx hb dX1_rest_214 (lv_at hl 0 rfl) ?_
          refine lv_if_eq (tgt := 230) hx hb dX1_rest_216 (by decide) (fun h40 => ?_) (fun h40 => ?_)
          rotate_left
          · exact absurd (by decide) h40
          refine lv_lload hx hb dX1_rest_230 (lv_at hl 10 rfl) ?_
          refine lv_l2i hx hb dX1_rest_232 rfl ?_
          refine va_put (D := (dC, dI)) (ci := 1) (v := .int r38.1.toInt32) (ty := .int) (C := RX1) (T := TX1) (N := 5) hx hb hts hin0 tyX1 tyX1_ok nmX1 hown hK hP hD hS 0 rfl rfl 2 (by decide) (hts (.fieldLink RX1 97 "BinaryFunctionsModel" "quotient" "I") (by decide +kernel)) (fun _ h9 => h9) rfl (by decide +kernel) rfl rfl (Nat.le_of_ble_eq_true rfl) dX1_rest_233 (fun H locs hP hD hS => ?_)
          have hP : va_P (dC, dI) vwCl [(h0, .inr (1, [.ref a0, .int f1, .int r38.1.toInt32, .long f3, .long f4]))] H := hP
          have hD : va_D A [(h0, .inr (1, [.ref a0, .int f1, .int r38.1.toInt32, .long f3, .long f4]))] := hD
          refine lv_iload hx hb dX1_rest_236 (lv_at hl 0 rfl) ?_
          refine lv_if_eq (tgt := 249) hx hb dX1_rest_238 (by decide) (fun h41 => ?_) (fun h41 => ?_)
          rotate_left
          · exact absurd (by decide) h41
          refine lv_lload hx hb dX1_rest_249 (lv_at hl 11 rfl) ?_
          refine lv_lstore (nL := 21) (lv' := [(19, .long r38.2.1), (18, .int (0 : Int32)), (0, .ref h0), (1, .long x1), (3, .long x2), (5, .int x3), (6, .long (bg_number x1)), (8, .long (bg_number x2)), (10, .int ((bg_power x1) - (bg_power x2))), (11, .int (bg_power x1)), (12, .long ((bg_number x2) <<< ((-((bg_power x1) - (bg_power x2))).toInt64 &&& 63))), (14, .long r38.1), (16, .long r38.2.1)]) hx hb dX1_rest_251 hl (by decide) rfl (fun ls hl => ?_)
          refine lv_lload hx hb dX1_rest_253 (lv_at hl 0 rfl) ?_
          refine lv_iload hx hb dX1_rest_255 (lv_at hl 9 rfl) ?_
          refine bw_csl (rest := []) ⟨hx, hb, hml, hown, hts⟩ (bd_exact l r38.2.1 (bg_power x1)) (va_cwS 2 hts gX1_rest_X1_exact rfl rfl rfl (by decide +kernel) ⟨Nat.le_of_ble_eq_true rfl, Nat.le_of_ble_eq_true rfl⟩) rfl hl.1 rfl (Nat.le_of_ble_eq_true rfl) dX1_rest_257 (Nat.zero_le _) (Nat.zero_le _) ?_
          refine lv_lload hx hb dX1_rest_260 (lv_at hl 0 rfl) ?_
          refine lv_lconst (v := 0) hx hb dX1_rest_262 (by decide) ?_
          refine bw_lc_ne (tgt := 274) hx hb dX1_rest_263 dX1_rest_264 (by decide) (fun h42 => ?_) (fun h42 => ?_)
          · refine lv_lload_n hx hb dX1_rest_274 rfl (lv_at hl 3 rfl) ?_
            refine bw_csi (rest := [.long (bg_exact r38.2.1 (bg_power x1))]) ⟨hx, hb, hml, hown, hts⟩ (bd_negative l x1) (va_cwS 1 hts gX1_rest_X1_negative rfl rfl rfl (by decide +kernel) ⟨Nat.le_of_ble_eq_true rfl, Nat.le_of_ble_eq_true rfl⟩) rfl hl.1 rfl (Nat.le_of_ble_eq_true rfl) dX1_rest_275 (Nat.zero_le _) (Nat.zero_le _) ?_
            refine lv_iload hx hb dX1_rest_278 (lv_at hl 1 rfl) ?_
            refine lv_icmp_eq (tgt := 287) hx hb dX1_rest_280 (by decide) (fun h43 => ?_) (fun h43 => ?_)
            · refine lv_iconst (v := 0) hx hb dX1_rest_287 (by decide) ?_
              refine bw_csl (rest := []) ⟨hx, hb, hml, hown, hts⟩ (bd_signed l (bg_exact r38.2.1 (bg_power x1)) (0 : Int32)) (va_cwS 2 hts gX1_rest_X1_signed rfl rfl rfl (by decide +kernel) ⟨Nat.le_of_ble_eq_true rfl, Nat.le_of_ble_eq_true rfl⟩) rfl hl.1 rfl (Nat.le_of_ble_eq_true rfl) dX1_rest_288 (Nat.zero_le _) (Nat.zero_le _) ?_
              exact W.lret (v := bg_signed (bg_exact r38.2.1 (bg_power x1)) (0 : Int32)) hx hb hr (fun t ht hW => ⟨⟨bg_signed (bg_exact r38.2.1 (bg_power x1)) (0 : Int32), (f1, r38.1.toInt32, f3, f4), rfl, by rw [bg_rest, if_neg h1, if_neg h33, if_pos h35, e38, bg_rest_k2, if_pos h39, if_neg h42, if_pos h43], by rw [ht]; exact hP, va_K.moved hW.alike hK, hD⟩, hS.F ht⟩) hS.2.2 dX1_rest_291
            · refine lv_iconst (v := 1) hx hb dX1_rest_283 (by decide) ?_
              refine lv_goto (tgt := 288) hx hb dX1_rest_284 (by decide) ?_
              refine bw_csl (rest := []) ⟨hx, hb, hml, hown, hts⟩ (bd_signed l (bg_exact r38.2.1 (bg_power x1)) (1 : Int32)) (va_cwS 2 hts gX1_rest_X1_signed rfl rfl rfl (by decide +kernel) ⟨Nat.le_of_ble_eq_true rfl, Nat.le_of_ble_eq_true rfl⟩) rfl hl.1 rfl (Nat.le_of_ble_eq_true rfl) dX1_rest_288 (Nat.zero_le _) (Nat.zero_le _) ?_
              exact W.lret (v := bg_signed (bg_exact r38.2.1 (bg_power x1)) (1 : Int32)) hx hb hr (fun t ht hW => ⟨⟨bg_signed (bg_exact r38.2.1 (bg_power x1)) (1 : Int32), (f1, r38.1.toInt32, f3, f4), rfl, by rw [bg_rest, if_neg h1, if_neg h33, if_pos h35, e38, bg_rest_k2, if_pos h39, if_neg h42, if_neg h43], by rw [ht]; exact hP, va_K.moved hW.alike hK, hD⟩, hS.F ht⟩) hS.2.2 dX1_rest_291
          · refine lv_lload_n hx hb dX1_rest_267 rfl (lv_at hl 3 rfl) ?_
            refine bw_csi (rest := [.long (bg_exact r38.2.1 (bg_power x1))]) ⟨hx, hb, hml, hown, hts⟩ (bd_negative l x1) (va_cwS 1 hts gX1_rest_X1_negative rfl rfl rfl (by decide +kernel) ⟨Nat.le_of_ble_eq_true rfl, Nat.le_of_ble_eq_true rfl⟩) rfl hl.1 rfl (Nat.le_of_ble_eq_true rfl) dX1_rest_268 (Nat.zero_le _) (Nat.zero_le _) ?_
            refine lv_goto (tgt := 288) hx hb dX1_rest_271 (by decide) ?_
            refine bw_csl (rest := []) ⟨hx, hb, hml, hown, hts⟩ (bd_signed l (bg_exact r38.2.1 (bg_power x1)) (bg_negative x1)) (va_cwS 2 hts gX1_rest_X1_signed rfl rfl rfl (by decide +kernel) ⟨Nat.le_of_ble_eq_true rfl, Nat.le_of_ble_eq_true rfl⟩) rfl hl.1 rfl (Nat.le_of_ble_eq_true rfl) dX1_rest_288 (Nat.zero_le _) (Nat.zero_le _) ?_
            exact W.lret (v := bg_signed (bg_exact r38.2.1 (bg_power x1)) (bg_negative x1)) hx hb hr (fun t ht hW => ⟨⟨bg_signed (bg_exact r38.2.1 (bg_power x1)) (bg_negative x1), (f1, r38.1.toInt32, f3, f4), rfl, by rw [bg_rest, if_neg h1, if_neg h33, if_pos h35, e38, bg_rest_k2, if_pos h39, if_pos h42], by rw [ht]; exact hP, va_K.moved hW.alike hK, hD⟩, hS.F ht⟩) hS.2.2 dX1_rest_291
        · refine lv_lload hx hb dX1_rest_173 (lv_at hl 10 rfl) ?_
          refine lv_lload hx hb dX1_rest_175 (lv_at hl 8 rfl) ?_
          refine lv_lload hx hb dX1_rest_177 (lv_at hl 10 rfl) ?_
          refine lv_lsub hx hb dX1_rest_179 ?_
          refine bw_lc_gt (tgt := 206) hx hb dX1_rest_180 dX1_rest_181 (by decide) (fun h44 => ?_) (fun h44 => ?_)
          · refine lv_iconst (v := 1) hx hb dX1_rest_206 (by decide) ?_
            refine lv_goto (tgt := 211) hx hb dX1_rest_207 (by decide) ?_
            refine lv_istore (nL := 21) (lv' := [(18, .int (1 : Int32)), (0, .ref h0), (1, .long x1), (3, .long x2), (5, .int x3), (6, .long (bg_number x1)), (8, .long (bg_number x2)), (10, .int ((bg_power x1) - (bg_power x2))), (11, .int (bg_power x1)), (12, .long ((bg_number x2) <<< ((-((bg_power x1) - (bg_power x2))).toInt64 &&& 63))), (14, .long r38.1), (16, .long r38.2.1)]) hx hb dX1_rest_211 hl (by decide) rfl (fun ls hl => ?_)
            refine lv_aload_n hx hb dX1_rest_213 rfl (lv_at hl 1 rfl) ?_
            refine lv_iload hx hb dX1_rest_214 (lv_at hl 0 rfl) ?_
            refine lv_if_eq (tgt := 230) hx hb dX1_rest_216 (by decide) (fun h45 => ?_) (fun h45 => ?_)
            · exact absurd h45 (by decide)
            refine lv_lload hx hb dX1_rest_219 (lv_at hl 10 rfl) ?_
            refine lv_lconst (v := 1) hx hb dX1_rest_221 (by decide) ?_
            refine lv_ladd hx hb dX1_rest_222 ?_
            refine lv_ldc2 hx hb hown (hts (.constantLong RX1 100 8) (by decide +kernel)) dX1_rest_223 ?_
            refine lv_lrem hx hb dX1_rest_226 (by decide) ?_
            refine lv_goto (tgt := 232) hx hb dX1_rest_227 (by decide) ?_
            refine lv_l2i hx hb dX1_rest_232 rfl ?_
            refine va_put (D := (dC, dI)) (ci := 1) (v := .int (((r38.1 + (1 : Int64)) - (r38.1 + (1 : Int64)) / (8 : Int64) * (8 : Int64)).toInt32)) (ty := .int) (C := RX1) (T := TX1) (N := 5) hx hb hts hin0 tyX1 tyX1_ok nmX1 hown hK hP hD hS 0 rfl rfl 2 (by decide) (hts (.fieldLink RX1 97 "BinaryFunctionsModel" "quotient" "I") (by decide +kernel)) (fun _ h9 => h9) rfl (by decide +kernel) rfl rfl (Nat.le_of_ble_eq_true rfl) dX1_rest_233 (fun H locs hP hD hS => ?_)
            have hP : va_P (dC, dI) vwCl [(h0, .inr (1, [.ref a0, .int f1, .int (((r38.1 + (1 : Int64)) - (r38.1 + (1 : Int64)) / (8 : Int64) * (8 : Int64)).toInt32), .long f3, .long f4]))] H := hP
            have hD : va_D A [(h0, .inr (1, [.ref a0, .int f1, .int (((r38.1 + (1 : Int64)) - (r38.1 + (1 : Int64)) / (8 : Int64) * (8 : Int64)).toInt32), .long f3, .long f4]))] := hD
            refine lv_iload hx hb dX1_rest_236 (lv_at hl 0 rfl) ?_
            refine lv_if_eq (tgt := 249) hx hb dX1_rest_238 (by decide) (fun h46 => ?_) (fun h46 => ?_)
            · exact absurd h46 (by decide)
            refine lv_lload hx hb dX1_rest_241 (lv_at hl 9 rfl) ?_
            refine lv_lload hx hb dX1_rest_243 (lv_at hl 11 rfl) ?_
            refine lv_lsub hx hb dX1_rest_245 ?_
            refine lv_goto (tgt := 251) hx hb dX1_rest_246 (by decide) ?_
            refine lv_lstore (nL := 21) (lv' := [(19, .long (((bg_number x2) <<< ((-((bg_power x1) - (bg_power x2))).toInt64 &&& 63)) - r38.2.1)), (18, .int (1 : Int32)), (0, .ref h0), (1, .long x1), (3, .long x2), (5, .int x3), (6, .long (bg_number x1)), (8, .long (bg_number x2)), (10, .int ((bg_power x1) - (bg_power x2))), (11, .int (bg_power x1)), (12, .long ((bg_number x2) <<< ((-((bg_power x1) - (bg_power x2))).toInt64 &&& 63))), (14, .long r38.1), (16, .long r38.2.1)]) hx hb dX1_rest_251 hl (by decide) rfl (fun ls hl => ?_)
            refine lv_lload hx hb dX1_rest_253 (lv_at hl 0 rfl) ?_
            refine lv_iload hx hb dX1_rest_255 (lv_at hl 9 rfl) ?_
            refine bw_csl (rest := []) ⟨hx, hb, hml, hown, hts⟩ (bd_exact l (((bg_number x2) <<< ((-((bg_power x1) - (bg_power x2))).toInt64 &&& 63)) - r38.2.1) (bg_power x1)) (va_cwS 2 hts gX1_rest_X1_exact rfl rfl rfl (by decide +kernel) ⟨Nat.le_of_ble_eq_true rfl, Nat.le_of_ble_eq_true rfl⟩) rfl hl.1 rfl (Nat.le_of_ble_eq_true rfl) dX1_rest_257 (Nat.zero_le _) (Nat.zero_le _) ?_
            refine lv_lload hx hb dX1_rest_260 (lv_at hl 0 rfl) ?_
            refine lv_lconst (v := 0) hx hb dX1_rest_262 (by decide) ?_
            refine bw_lc_ne (tgt := 274) hx hb dX1_rest_263 dX1_rest_264 (by decide) (fun h47 => ?_) (fun h47 => ?_)
            · refine lv_lload_n hx hb dX1_rest_274 rfl (lv_at hl 3 rfl) ?_
              refine bw_csi (rest := [.long (bg_exact (((bg_number x2) <<< ((-((bg_power x1) - (bg_power x2))).toInt64 &&& 63)) - r38.2.1) (bg_power x1))]) ⟨hx, hb, hml, hown, hts⟩ (bd_negative l x1) (va_cwS 1 hts gX1_rest_X1_negative rfl rfl rfl (by decide +kernel) ⟨Nat.le_of_ble_eq_true rfl, Nat.le_of_ble_eq_true rfl⟩) rfl hl.1 rfl (Nat.le_of_ble_eq_true rfl) dX1_rest_275 (Nat.zero_le _) (Nat.zero_le _) ?_
              refine lv_iload hx hb dX1_rest_278 (lv_at hl 1 rfl) ?_
              refine lv_icmp_eq (tgt := 287) hx hb dX1_rest_280 (by decide) (fun h48 => ?_) (fun h48 => ?_)
              · refine lv_iconst (v := 0) hx hb dX1_rest_287 (by decide) ?_
                refine bw_csl (rest := []) ⟨hx, hb, hml, hown, hts⟩ (bd_signed l (bg_exact (((bg_number x2) <<< ((-((bg_power x1) - (bg_power x2))).toInt64 &&& 63)) - r38.2.1) (bg_power x1)) (0 : Int32)) (va_cwS 2 hts gX1_rest_X1_signed rfl rfl rfl (by decide +kernel) ⟨Nat.le_of_ble_eq_true rfl, Nat.le_of_ble_eq_true rfl⟩) rfl hl.1 rfl (Nat.le_of_ble_eq_true rfl) dX1_rest_288 (Nat.zero_le _) (Nat.zero_le _) ?_
                exact W.lret (v := bg_signed (bg_exact (((bg_number x2) <<< ((-((bg_power x1) - (bg_power x2))).toInt64 &&& 63)) - r38.2.1) (bg_power x1)) (0 : Int32)) hx hb hr (fun t ht hW => ⟨⟨bg_signed (bg_exact (((bg_number x2) <<< ((-((bg_power x1) - (bg_power x2))).toInt64 &&& 63)) - r38.2.1) (bg_power x1)) (0 : Int32), (f1, ((r38.1 + (1 : Int64)) - (r38.1 + (1 : Int64)) / (8 : Int64) * (8 : Int64)).toInt32, f3, f4), rfl, by rw [bg_rest, if_neg h1, if_neg h33, if_pos h35, e38, bg_rest_k2, if_neg h39, if_pos h44, if_neg h47, if_pos h48], by rw [ht]; exact hP, va_K.moved hW.alike hK, hD⟩, hS.F ht⟩) hS.2.2 dX1_rest_291
              · refine lv_iconst (v := 1) hx hb dX1_rest_283 (by decide) ?_
                refine lv_goto (tgt := 288) hx hb dX1_rest_284 (by decide) ?_
                refine bw_csl (rest := []) ⟨hx, hb, hml, hown, hts⟩ (bd_signed l (bg_exact (((bg_number x2) <<< ((-((bg_power x1) - (bg_power x2))).toInt64 &&& 63)) - r38.2.1) (bg_power x1)) (1 : Int32)) (va_cwS 2 hts gX1_rest_X1_signed rfl rfl rfl (by decide +kernel) ⟨Nat.le_of_ble_eq_true rfl, Nat.le_of_ble_eq_true rfl⟩) rfl hl.1 rfl (Nat.le_of_ble_eq_true rfl) dX1_rest_288 (Nat.zero_le _) (Nat.zero_le _) ?_
                exact W.lret (v := bg_signed (bg_exact (((bg_number x2) <<< ((-((bg_power x1) - (bg_power x2))).toInt64 &&& 63)) - r38.2.1) (bg_power x1)) (1 : Int32)) hx hb hr (fun t ht hW => ⟨⟨bg_signed (bg_exact (((bg_number x2) <<< ((-((bg_power x1) - (bg_power x2))).toInt64 &&& 63)) - r38.2.1) (bg_power x1)) (1 : Int32), (f1, ((r38.1 + (1 : Int64)) - (r38.1 + (1 : Int64)) / (8 : Int64) * (8 : Int64)).toInt32, f3, f4), rfl, by rw [bg_rest, if_neg h1, if_neg h33, if_pos h35, e38, bg_rest_k2, if_neg h39, if_pos h44, if_neg h47, if_neg h48], by rw [ht]; exact hP, va_K.moved hW.alike hK, hD⟩, hS.F ht⟩) hS.2.2 dX1_rest_291
            · refine lv_lload_n hx hb dX1_rest_267 rfl (lv_at hl 3 rfl) ?_
              refine bw_csi (rest := [.long (bg_exact (((bg_number x2) <<< ((-((bg_power x1) - (bg_power x2))).toInt64 &&& 63)) - r38.2.1) (bg_power x1))]) ⟨hx, hb, hml, hown, hts⟩ (bd_negative l x1) (va_cwS 1 hts gX1_rest_X1_negative rfl rfl rfl (by decide +kernel) ⟨Nat.le_of_ble_eq_true rfl, Nat.le_of_ble_eq_true rfl⟩) rfl hl.1 rfl (Nat.le_of_ble_eq_true rfl) dX1_rest_268 (Nat.zero_le _) (Nat.zero_le _) ?_
              refine lv_goto (tgt := 288) hx hb dX1_rest_271 (by decide) ?_
              refine bw_csl (rest := []) ⟨hx, hb, hml, hown, hts⟩ (bd_signed l (bg_exact (((bg_number x2) <<< ((-((bg_power x1) - (bg_power x2))).toInt64 &&& 63)) - r38.2.1) (bg_power x1)) (bg_negative x1)) (va_cwS 2 hts gX1_rest_X1_signed rfl rfl rfl (by decide +kernel) ⟨Nat.le_of_ble_eq_true rfl, Nat.le_of_ble_eq_true rfl⟩) rfl hl.1 rfl (Nat.le_of_ble_eq_true rfl) dX1_rest_288 (Nat.zero_le _) (Nat.zero_le _) ?_
              exact W.lret (v := bg_signed (bg_exact (((bg_number x2) <<< ((-((bg_power x1) - (bg_power x2))).toInt64 &&& 63)) - r38.2.1) (bg_power x1)) (bg_negative x1)) hx hb hr (fun t ht hW => ⟨⟨bg_signed (bg_exact (((bg_number x2) <<< ((-((bg_power x1) - (bg_power x2))).toInt64 &&& 63)) - r38.2.1) (bg_power x1)) (bg_negative x1), (f1, ((r38.1 + (1 : Int64)) - (r38.1 + (1 : Int64)) / (8 : Int64) * (8 : Int64)).toInt32, f3, f4), rfl, by rw [bg_rest, if_neg h1, if_neg h33, if_pos h35, e38, bg_rest_k2, if_neg h39, if_pos h44, if_pos h47], by rw [ht]; exact hP, va_K.moved hW.alike hK, hD⟩, hS.F ht⟩) hS.2.2 dX1_rest_291
          · refine lv_lload hx hb dX1_rest_184 (lv_at hl 10 rfl) ?_
            refine lv_lload hx hb dX1_rest_186 (lv_at hl 8 rfl) ?_
            refine lv_lload hx hb dX1_rest_188 (lv_at hl 10 rfl) ?_
            refine lv_lsub hx hb dX1_rest_190 ?_
            refine bw_lc_ne (tgt := 210) hx hb dX1_rest_191 dX1_rest_192 (by decide) (fun h49 => ?_) (fun h49 => ?_)
            · refine lv_iconst (v := 0) hx hb dX1_rest_210 (by decide) ?_
              refine lv_istore (nL := 21) (lv' := [(18, .int (0 : Int32)), (0, .ref h0), (1, .long x1), (3, .long x2), (5, .int x3), (6, .long (bg_number x1)), (8, .long (bg_number x2)), (10, .int ((bg_power x1) - (bg_power x2))), (11, .int (bg_power x1)), (12, .long ((bg_number x2) <<< ((-((bg_power x1) - (bg_power x2))).toInt64 &&& 63))), (14, .long r38.1), (16, .long r38.2.1)]) hx hb dX1_rest_211 hl (by decide) rfl (fun ls hl => ?_)
              refine lv_aload_n hx hb dX1_rest_213 rfl (lv_at hl 1 rfl) ?_
              refine lv_iload hx hb dX1_rest_214 (lv_at hl 0 rfl) ?_
              refine lv_if_eq (tgt := 230) hx hb dX1_rest_216 (by decide) (fun h50 => ?_) (fun h50 => ?_)
              rotate_left
              · exact absurd (by decide) h50
              refine lv_lload hx hb dX1_rest_230 (lv_at hl 10 rfl) ?_
              refine lv_l2i hx hb dX1_rest_232 rfl ?_
              refine va_put (D := (dC, dI)) (ci := 1) (v := .int r38.1.toInt32) (ty := .int) (C := RX1) (T := TX1) (N := 5) hx hb hts hin0 tyX1 tyX1_ok nmX1 hown hK hP hD hS 0 rfl rfl 2 (by decide) (hts (.fieldLink RX1 97 "BinaryFunctionsModel" "quotient" "I") (by decide +kernel)) (fun _ h9 => h9) rfl (by decide +kernel) rfl rfl (Nat.le_of_ble_eq_true rfl) dX1_rest_233 (fun H locs hP hD hS => ?_)
              have hP : va_P (dC, dI) vwCl [(h0, .inr (1, [.ref a0, .int f1, .int r38.1.toInt32, .long f3, .long f4]))] H := hP
              have hD : va_D A [(h0, .inr (1, [.ref a0, .int f1, .int r38.1.toInt32, .long f3, .long f4]))] := hD
              refine lv_iload hx hb dX1_rest_236 (lv_at hl 0 rfl) ?_
              refine lv_if_eq (tgt := 249) hx hb dX1_rest_238 (by decide) (fun h51 => ?_) (fun h51 => ?_)
              rotate_left
              · exact absurd (by decide) h51
              refine lv_lload hx hb dX1_rest_249 (lv_at hl 11 rfl) ?_
              refine lv_lstore (nL := 21) (lv' := [(19, .long r38.2.1), (18, .int (0 : Int32)), (0, .ref h0), (1, .long x1), (3, .long x2), (5, .int x3), (6, .long (bg_number x1)), (8, .long (bg_number x2)), (10, .int ((bg_power x1) - (bg_power x2))), (11, .int (bg_power x1)), (12, .long ((bg_number x2) <<< ((-((bg_power x1) - (bg_power x2))).toInt64 &&& 63))), (14, .long r38.1), (16, .long r38.2.1)]) hx hb dX1_rest_251 hl (by decide) rfl (fun ls hl => ?_)
              refine lv_lload hx hb dX1_rest_253 (lv_at hl 0 rfl) ?_
              refine lv_iload hx hb dX1_rest_255 (lv_at hl 9 rfl) ?_
              refine bw_csl (rest := []) ⟨hx, hb, hml, hown, hts⟩ (bd_exact l r38.2.1 (bg_power x1)) (va_cwS 2 hts gX1_rest_X1_exact rfl rfl rfl (by decide +kernel) ⟨Nat.le_of_ble_eq_true rfl, Nat.le_of_ble_eq_true rfl⟩) rfl hl.1 rfl (Nat.le_of_ble_eq_true rfl) dX1_rest_257 (Nat.zero_le _) (Nat.zero_le _) ?_
              refine lv_lload hx hb dX1_rest_260 (lv_at hl 0 rfl) ?_
              refine lv_lconst (v := 0) hx hb dX1_rest_262 (by decide) ?_
              refine bw_lc_ne (tgt := 274) hx hb dX1_rest_263 dX1_rest_264 (by decide) (fun h52 => ?_) (fun h52 => ?_)
              · refine lv_lload_n hx hb dX1_rest_274 rfl (lv_at hl 3 rfl) ?_
                refine bw_csi (rest := [.long (bg_exact r38.2.1 (bg_power x1))]) ⟨hx, hb, hml, hown, hts⟩ (bd_negative l x1) (va_cwS 1 hts gX1_rest_X1_negative rfl rfl rfl (by decide +kernel) ⟨Nat.le_of_ble_eq_true rfl, Nat.le_of_ble_eq_true rfl⟩) rfl hl.1 rfl (Nat.le_of_ble_eq_true rfl) dX1_rest_275 (Nat.zero_le _) (Nat.zero_le _) ?_
                refine lv_iload hx hb dX1_rest_278 (lv_at hl 1 rfl) ?_
                refine lv_icmp_eq (tgt := 287) hx hb dX1_rest_280 (by decide) (fun h53 => ?_) (fun h53 => ?_)
                · refine lv_iconst (v := 0) hx hb dX1_rest_287 (by decide) ?_
                  refine bw_csl (rest := []) ⟨hx, hb, hml, hown, hts⟩ (bd_signed l (bg_exact r38.2.1 (bg_power x1)) (0 : Int32)) (va_cwS 2 hts gX1_rest_X1_signed rfl rfl rfl (by decide +kernel) ⟨Nat.le_of_ble_eq_true rfl, Nat.le_of_ble_eq_true rfl⟩) rfl hl.1 rfl (Nat.le_of_ble_eq_true rfl) dX1_rest_288 (Nat.zero_le _) (Nat.zero_le _) ?_
                  exact W.lret (v := bg_signed (bg_exact r38.2.1 (bg_power x1)) (0 : Int32)) hx hb hr (fun t ht hW => ⟨⟨bg_signed (bg_exact r38.2.1 (bg_power x1)) (0 : Int32), (f1, r38.1.toInt32, f3, f4), rfl, by rw [bg_rest, if_neg h1, if_neg h33, if_pos h35, e38, bg_rest_k2, if_neg h39, if_neg h44, if_neg h49, if_neg h52, if_pos h53], by rw [ht]; exact hP, va_K.moved hW.alike hK, hD⟩, hS.F ht⟩) hS.2.2 dX1_rest_291
                · refine lv_iconst (v := 1) hx hb dX1_rest_283 (by decide) ?_
                  refine lv_goto (tgt := 288) hx hb dX1_rest_284 (by decide) ?_
                  refine bw_csl (rest := []) ⟨hx, hb, hml, hown, hts⟩ (bd_signed l (bg_exact r38.2.1 (bg_power x1)) (1 : Int32)) (va_cwS 2 hts gX1_rest_X1_signed rfl rfl rfl (by decide +kernel) ⟨Nat.le_of_ble_eq_true rfl, Nat.le_of_ble_eq_true rfl⟩) rfl hl.1 rfl (Nat.le_of_ble_eq_true rfl) dX1_rest_288 (Nat.zero_le _) (Nat.zero_le _) ?_
                  exact W.lret (v := bg_signed (bg_exact r38.2.1 (bg_power x1)) (1 : Int32)) hx hb hr (fun t ht hW => ⟨⟨bg_signed (bg_exact r38.2.1 (bg_power x1)) (1 : Int32), (f1, r38.1.toInt32, f3, f4), rfl, by rw [bg_rest, if_neg h1, if_neg h33, if_pos h35, e38, bg_rest_k2, if_neg h39, if_neg h44, if_neg h49, if_neg h52, if_neg h53], by rw [ht]; exact hP, va_K.moved hW.alike hK, hD⟩, hS.F ht⟩) hS.2.2 dX1_rest_291
              · refine lv_lload_n hx hb dX1_rest_267 rfl (lv_at hl 3 rfl) ?_
                refine bw_csi (rest := [.long (bg_exact r38.2.1 (bg_power x1))]) ⟨hx, hb, hml, hown, hts⟩ (bd_negative l x1) (va_cwS 1 hts gX1_rest_X1_negative rfl rfl rfl (by decide +kernel) ⟨Nat.le_of_ble_eq_true rfl, Nat.le_of_ble_eq_true rfl⟩) rfl hl.1 rfl (Nat.le_of_ble_eq_true rfl) dX1_rest_268 (Nat.zero_le _) (Nat.zero_le _) ?_
                refine lv_goto (tgt := 288) hx hb dX1_rest_271 (by decide) ?_
                refine bw_csl (rest := []) ⟨hx, hb, hml, hown, hts⟩ (bd_signed l (bg_exact r38.2.1 (bg_power x1)) (bg_negative x1)) (va_cwS 2 hts gX1_rest_X1_signed rfl rfl rfl (by decide +kernel) ⟨Nat.le_of_ble_eq_true rfl, Nat.le_of_ble_eq_true rfl⟩) rfl hl.1 rfl (Nat.le_of_ble_eq_true rfl) dX1_rest_288 (Nat.zero_le _) (Nat.zero_le _) ?_
                exact W.lret (v := bg_signed (bg_exact r38.2.1 (bg_power x1)) (bg_negative x1)) hx hb hr (fun t ht hW => ⟨⟨bg_signed (bg_exact r38.2.1 (bg_power x1)) (bg_negative x1), (f1, r38.1.toInt32, f3, f4), rfl, by rw [bg_rest, if_neg h1, if_neg h33, if_pos h35, e38, bg_rest_k2, if_neg h39, if_neg h44, if_neg h49, if_pos h52], by rw [ht]; exact hP, va_K.moved hW.alike hK, hD⟩, hS.F ht⟩) hS.2.2 dX1_rest_291
            · refine lv_lload hx hb dX1_rest_195 (lv_at hl 9 rfl) ?_
              refine lv_ldc2 hx hb hown (hts (.constantLong RX1 65 2) (by decide +kernel)) dX1_rest_197 ?_
              refine lv_lrem hx hb dX1_rest_200 (by decide) ?_
              refine lv_lconst (v := 1) hx hb dX1_rest_201 (by decide) ?_
              refine bw_lc_ne (tgt := 210) hx hb dX1_rest_202 dX1_rest_203 (by decide) (fun h54 => ?_) (fun h54 => ?_)
              · refine lv_iconst (v := 0) hx hb dX1_rest_210 (by decide) ?_
                refine lv_istore (nL := 21) (lv' := [(18, .int (0 : Int32)), (0, .ref h0), (1, .long x1), (3, .long x2), (5, .int x3), (6, .long (bg_number x1)), (8, .long (bg_number x2)), (10, .int ((bg_power x1) - (bg_power x2))), (11, .int (bg_power x1)), (12, .long ((bg_number x2) <<< ((-((bg_power x1) - (bg_power x2))).toInt64 &&& 63))), (14, .long r38.1), (16, .long r38.2.1)]) hx hb dX1_rest_211 hl (by decide) rfl (fun ls hl => ?_)
                refine lv_aload_n hx hb dX1_rest_213 rfl (lv_at hl 1 rfl) ?_
                refine lv_iload hx hb dX1_rest_214 (lv_at hl 0 rfl) ?_
                refine lv_if_eq (tgt := 230) hx hb dX1_rest_216 (by decide) (fun h55 => ?_) (fun h55 => ?_)
                rotate_left
                · exact absurd (by decide) h55
                refine lv_lload hx hb dX1_rest_230 (lv_at hl 10 rfl) ?_
                refine lv_l2i hx hb dX1_rest_232 rfl ?_
                refine va_put (D := (dC, dI)) (ci := 1) (v := .int r38.1.toInt32) (ty := .int) (C := RX1) (T := TX1) (N := 5) hx hb hts hin0 tyX1 tyX1_ok nmX1 hown hK hP hD hS 0 rfl rfl 2 (by decide) (hts (.fieldLink RX1 97 "BinaryFunctionsModel" "quotient" "I") (by decide +kernel)) (fun _ h9 => h9) rfl (by decide +kernel) rfl rfl (Nat.le_of_ble_eq_true rfl) dX1_rest_233 (fun H locs hP hD hS => ?_)
                have hP : va_P (dC, dI) vwCl [(h0, .inr (1, [.ref a0, .int f1, .int r38.1.toInt32, .long f3, .long f4]))] H := hP
                have hD : va_D A [(h0, .inr (1, [.ref a0, .int f1, .int r38.1.toInt32, .long f3, .long f4]))] := hD
                refine lv_iload hx hb dX1_rest_236 (lv_at hl 0 rfl) ?_
                refine lv_if_eq (tgt := 249) hx hb dX1_rest_238 (by decide) (fun h56 => ?_) (fun h56 => ?_)
                rotate_left
                · exact absurd (by decide) h56
                refine lv_lload hx hb dX1_rest_249 (lv_at hl 11 rfl) ?_
                refine lv_lstore (nL := 21) (lv' := [(19, .long r38.2.1), (18, .int (0 : Int32)), (0, .ref h0), (1, .long x1), (3, .long x2), (5, .int x3), (6, .long (bg_number x1)), (8, .long (bg_number x2)), (10, .int ((bg_power x1) - (bg_power x2))), (11, .int (bg_power x1)), (12, .long ((bg_number x2) <<< ((-((bg_power x1) - (bg_power x2))).toInt64 &&& 63))), (14, .long r38.1), (16, .long r38.2.1)]) hx hb dX1_rest_251 hl (by decide) rfl (fun ls hl => ?_)
                refine lv_lload hx hb dX1_rest_253 (lv_at hl 0 rfl) ?_
                refine lv_iload hx hb dX1_rest_255 (lv_at hl 9 rfl) ?_
                refine bw_csl (rest := []) ⟨hx, hb, hml, hown, hts⟩ (bd_exact l r38.2.1 (bg_power x1)) (va_cwS 2 hts gX1_rest_X1_exact rfl rfl rfl (by decide +kernel) ⟨Nat.le_of_ble_eq_true rfl, Nat.le_of_ble_eq_true rfl⟩) rfl hl.1 rfl (Nat.le_of_ble_eq_true rfl) dX1_rest_257 (Nat.zero_le _) (Nat.zero_le _) ?_
                refine lv_lload hx hb dX1_rest_260 (lv_at hl 0 rfl) ?_
                refine lv_lconst (v := 0) hx hb dX1_rest_262 (by decide) ?_
                refine bw_lc_ne (tgt := 274) hx hb dX1_rest_263 dX1_rest_264 (by decide) (fun h57 => ?_) (fun h57 => ?_)
                · refine lv_lload_n hx hb dX1_rest_274 rfl (lv_at hl 3 rfl) ?_
                  refine bw_csi (rest := [.long (bg_exact r38.2.1 (bg_power x1))]) ⟨hx, hb, hml, hown, hts⟩ (bd_negative l x1) (va_cwS 1 hts gX1_rest_X1_negative rfl rfl rfl (by decide +kernel) ⟨Nat.le_of_ble_eq_true rfl, Nat.le_of_ble_eq_true rfl⟩) rfl hl.1 rfl (Nat.le_of_ble_eq_true rfl) dX1_rest_275 (Nat.zero_le _) (Nat.zero_le _) ?_
                  refine lv_iload hx hb dX1_rest_278 (lv_at hl 1 rfl) ?_
                  refine lv_icmp_eq (tgt := 287) hx hb dX1_rest_280 (by decide) (fun h58 => ?_) (fun h58 => ?_)
                  · refine lv_iconst (v := 0) hx hb dX1_rest_287 (by decide) ?_
                    refine bw_csl (rest := []) ⟨hx, hb, hml, hown, hts⟩ (bd_signed l (bg_exact r38.2.1 (bg_power x1)) (0 : Int32)) (va_cwS 2 hts gX1_rest_X1_signed rfl rfl rfl (by decide +kernel) ⟨Nat.le_of_ble_eq_true rfl, Nat.le_of_ble_eq_true rfl⟩) rfl hl.1 rfl (Nat.le_of_ble_eq_true rfl) dX1_rest_288 (Nat.zero_le _) (Nat.zero_le _) ?_
                    exact W.lret (v := bg_signed (bg_exact r38.2.1 (bg_power x1)) (0 : Int32)) hx hb hr (fun t ht hW => ⟨⟨bg_signed (bg_exact r38.2.1 (bg_power x1)) (0 : Int32), (f1, r38.1.toInt32, f3, f4), rfl, by rw [bg_rest, if_neg h1, if_neg h33, if_pos h35, e38, bg_rest_k2, if_neg h39, if_neg h44, if_pos h49, if_neg h54, if_neg h57, if_pos h58], by rw [ht]; exact hP, va_K.moved hW.alike hK, hD⟩, hS.F ht⟩) hS.2.2 dX1_rest_291
                  · refine lv_iconst (v := 1) hx hb dX1_rest_283 (by decide) ?_
                    refine lv_goto (tgt := 288) hx hb dX1_rest_284 (by decide) ?_
                    refine bw_csl (rest := []) ⟨hx, hb, hml, hown, hts⟩ (bd_signed l (bg_exact r38.2.1 (bg_power x1)) (1 : Int32)) (va_cwS 2 hts gX1_rest_X1_signed rfl rfl rfl (by decide +kernel) ⟨Nat.le_of_ble_eq_true rfl, Nat.le_of_ble_eq_true rfl⟩) rfl hl.1 rfl (Nat.le_of_ble_eq_true rfl) dX1_rest_288 (Nat.zero_le _) (Nat.zero_le _) ?_
                    exact W.lret (v := bg_signed (bg_exact r38.2.1 (bg_power x1)) (1 : Int32)) hx hb hr (fun t ht hW => ⟨⟨bg_signed (bg_exact r38.2.1 (bg_power x1)) (1 : Int32), (f1, r38.1.toInt32, f3, f4), rfl, by rw [bg_rest, if_neg h1, if_neg h33, if_pos h35, e38, bg_rest_k2, if_neg h39, if_neg h44, if_pos h49, if_neg h54, if_neg h57, if_neg h58], by rw [ht]; exact hP, va_K.moved hW.alike hK, hD⟩, hS.F ht⟩) hS.2.2 dX1_rest_291
                · refine lv_lload_n hx hb dX1_rest_267 rfl (lv_at hl 3 rfl) ?_
                  refine bw_csi (rest := [.long (bg_exact r38.2.1 (bg_power x1))]) ⟨hx, hb, hml, hown, hts⟩ (bd_negative l x1) (va_cwS 1 hts gX1_rest_X1_negative rfl rfl rfl (by decide +kernel) ⟨Nat.le_of_ble_eq_true rfl, Nat.le_of_ble_eq_true rfl⟩) rfl hl.1 rfl (Nat.le_of_ble_eq_true rfl) dX1_rest_268 (Nat.zero_le _) (Nat.zero_le _) ?_
                  refine lv_goto (tgt := 288) hx hb dX1_rest_271 (by decide) ?_
                  refine bw_csl (rest := []) ⟨hx, hb, hml, hown, hts⟩ (bd_signed l (bg_exact r38.2.1 (bg_power x1)) (bg_negative x1)) (va_cwS 2 hts gX1_rest_X1_signed rfl rfl rfl (by decide +kernel) ⟨Nat.le_of_ble_eq_true rfl, Nat.le_of_ble_eq_true rfl⟩) rfl hl.1 rfl (Nat.le_of_ble_eq_true rfl) dX1_rest_288 (Nat.zero_le _) (Nat.zero_le _) ?_
                  exact W.lret (v := bg_signed (bg_exact r38.2.1 (bg_power x1)) (bg_negative x1)) hx hb hr (fun t ht hW => ⟨⟨bg_signed (bg_exact r38.2.1 (bg_power x1)) (bg_negative x1), (f1, r38.1.toInt32, f3, f4), rfl, by rw [bg_rest, if_neg h1, if_neg h33, if_pos h35, e38, bg_rest_k2, if_neg h39, if_neg h44, if_pos h49, if_neg h54, if_pos h57], by rw [ht]; exact hP, va_K.moved hW.alike hK, hD⟩, hS.F ht⟩) hS.2.2 dX1_rest_291
              · refine lv_iconst (v := 1) hx hb dX1_rest_206 (by decide) ?_
                refine lv_goto (tgt := 211) hx hb dX1_rest_207 (by decide) ?_
                refine lv_istore (nL := 21) (lv' := [(18, .int (1 : Int32)), (0, .ref h0), (1, .long x1), (3, .long x2), (5, .int x3), (6, .long (bg_number x1)), (8, .long (bg_number x2)), (10, .int ((bg_power x1) - (bg_power x2))), (11, .int (bg_power x1)), (12, .long ((bg_number x2) <<< ((-((bg_power x1) - (bg_power x2))).toInt64 &&& 63))), (14, .long r38.1), (16, .long r38.2.1)]) hx hb dX1_rest_211 hl (by decide) rfl (fun ls hl => ?_)
                refine lv_aload_n hx hb dX1_rest_213 rfl (lv_at hl 1 rfl) ?_
                refine lv_iload hx hb dX1_rest_214 (lv_at hl 0 rfl) ?_
                refine lv_if_eq (tgt := 230) hx hb dX1_rest_216 (by decide) (fun h59 => ?_) (fun h59 => ?_)
                · exact absurd h59 (by decide)
                refine lv_lload hx hb dX1_rest_219 (lv_at hl 10 rfl) ?_
                refine lv_lconst (v := 1) hx hb dX1_rest_221 (by decide) ?_
                refine lv_ladd hx hb dX1_rest_222 ?_
                refine lv_ldc2 hx hb hown (hts (.constantLong RX1 100 8) (by decide +kernel)) dX1_rest_223 ?_
                refine lv_lrem hx hb dX1_rest_226 (by decide) ?_
                refine lv_goto (tgt := 232) hx hb dX1_rest_227 (by decide) ?_
                refine lv_l2i hx hb dX1_rest_232 rfl ?_
                refine va_put (D := (dC, dI)) (ci := 1) (v := .int (((r38.1 + (1 : Int64)) - (r38.1 + (1 : Int64)) / (8 : Int64) * (8 : Int64)).toInt32)) (ty := .int) (C := RX1) (T := TX1) (N := 5) hx hb hts hin0 tyX1 tyX1_ok nmX1 hown hK hP hD hS 0 rfl rfl 2 (by decide) (hts (.fieldLink RX1 97 "BinaryFunctionsModel" "quotient" "I") (by decide +kernel)) (fun _ h9 => h9) rfl (by decide +kernel) rfl rfl (Nat.le_of_ble_eq_true rfl) dX1_rest_233 (fun H locs hP hD hS => ?_)
                have hP : va_P (dC, dI) vwCl [(h0, .inr (1, [.ref a0, .int f1, .int (((r38.1 + (1 : Int64)) - (r38.1 + (1 : Int64)) / (8 : Int64) * (8 : Int64)).toInt32), .long f3, .long f4]))] H := hP
                have hD : va_D A [(h0, .inr (1, [.ref a0, .int f1, .int (((r38.1 + (1 : Int64)) - (r38.1 + (1 : Int64)) / (8 : Int64) * (8 : Int64)).toInt32), .long f3, .long f4]))] := hD
                refine lv_iload hx hb dX1_rest_236 (lv_at hl 0 rfl) ?_
                refine lv_if_eq (tgt := 249) hx hb dX1_rest_238 (by decide) (fun h60 => ?_) (fun h60 => ?_)
                · exact absurd h60 (by decide)
                refine lv_lload hx hb dX1_rest_241 (lv_at hl 9 rfl) ?_
                refine lv_lload hx hb dX1_rest_243 (lv_at hl 11 rfl) ?_
                refine lv_lsub hx hb dX1_rest_245 ?_
                refine lv_goto (tgt := 251) hx hb dX1_rest_246 (by decide) ?_
                refine lv_lstore (nL := 21) (lv' := [(19, .long (((bg_number x2) <<< ((-((bg_power x1) - (bg_power x2))).toInt64 &&& 63)) - r38.2.1)), (18, .int (1 : Int32)), (0, .ref h0), (1, .long x1), (3, .long x2), (5, .int x3), (6, .long (bg_number x1)), (8, .long (bg_number x2)), (10, .int ((bg_power x1) - (bg_power x2))), (11, .int (bg_power x1)), (12, .long ((bg_number x2) <<< ((-((bg_power x1) - (bg_power x2))).toInt64 &&& 63))), (14, .long r38.1), (16, .long r38.2.1)]) hx hb dX1_rest_251 hl (by decide) rfl (fun ls hl => ?_)
                refine lv_lload hx hb dX1_rest_253 (lv_at hl 0 rfl) ?_
                refine lv_iload hx hb dX1_rest_255 (lv_at hl 9 rfl) ?_
                refine bw_csl (rest := []) ⟨hx, hb, hml, hown, hts⟩ (bd_exact l (((bg_number x2) <<< ((-((bg_power x1) - (bg_power x2))).toInt64 &&& 63)) - r38.2.1) (bg_power x1)) (va_cwS 2 hts gX1_rest_X1_exact rfl rfl rfl (by decide +kernel) ⟨Nat.le_of_ble_eq_true rfl, Nat.le_of_ble_eq_true rfl⟩) rfl hl.1 rfl (Nat.le_of_ble_eq_true rfl) dX1_rest_257 (Nat.zero_le _) (Nat.zero_le _) ?_
                refine lv_lload hx hb dX1_rest_260 (lv_at hl 0 rfl) ?_
                refine lv_lconst (v := 0) hx hb dX1_rest_262 (by decide) ?_
                refine bw_lc_ne (tgt := 274) hx hb dX1_rest_263 dX1_rest_264 (by decide) (fun h61 => ?_) (fun h61 => ?_)
                · refine lv_lload_n hx hb dX1_rest_274 rfl (lv_at hl 3 rfl) ?_
                  refine bw_csi (rest := [.long (bg_exact (((bg_number x2) <<< ((-((bg_power x1) - (bg_power x2))).toInt64 &&& 63)) - r38.2.1) (bg_power x1))]) ⟨hx, hb, hml, hown, hts⟩ (bd_negative l x1) (va_cwS 1 hts gX1_rest_X1_negative rfl rfl rfl (by decide +kernel) ⟨Nat.le_of_ble_eq_true rfl, Nat.le_of_ble_eq_true rfl⟩) rfl hl.1 rfl (Nat.le_of_ble_eq_true rfl) dX1_rest_275 (Nat.zero_le _) (Nat.zero_le _) ?_
                  refine lv_iload hx hb dX1_rest_278 (lv_at hl 1 rfl) ?_
                  refine lv_icmp_eq (tgt := 287) hx hb dX1_rest_280 (by decide) (fun h62 => ?_) (fun h62 => ?_)
                  · refine lv_iconst (v := 0) hx hb dX1_rest_287 (by decide) ?_
                    refine bw_csl (rest := []) ⟨hx, hb, hml, hown, hts⟩ (bd_signed l (bg_exact (((bg_number x2) <<< ((-((bg_power x1) - (bg_power x2))).toInt64 &&& 63)) - r38.2.1) (bg_power x1)) (0 : Int32)) (va_cwS 2 hts gX1_rest_X1_signed rfl rfl rfl (by decide +kernel) ⟨Nat.le_of_ble_eq_true rfl, Nat.le_of_ble_eq_true rfl⟩) rfl hl.1 rfl (Nat.le_of_ble_eq_true rfl) dX1_rest_288 (Nat.zero_le _) (Nat.zero_le _) ?_
                    exact W.lret (v := bg_signed (bg_exact (((bg_number x2) <<< ((-((bg_power x1) - (bg_power x2))).toInt64 &&& 63)) - r38.2.1) (bg_power x1)) (0 : Int32)) hx hb hr (fun t ht hW => ⟨⟨bg_signed (bg_exact (((bg_number x2) <<< ((-((bg_power x1) - (bg_power x2))).toInt64 &&& 63)) - r38.2.1) (bg_power x1)) (0 : Int32), (f1, ((r38.1 + (1 : Int64)) - (r38.1 + (1 : Int64)) / (8 : Int64) * (8 : Int64)).toInt32, f3, f4), rfl, by rw [bg_rest, if_neg h1, if_neg h33, if_pos h35, e38, bg_rest_k2, if_neg h39, if_neg h44, if_pos h49, if_pos h54, if_neg h61, if_pos h62], by rw [ht]; exact hP, va_K.moved hW.alike hK, hD⟩, hS.F ht⟩) hS.2.2 dX1_rest_291
                  · refine lv_iconst (v := 1) hx hb dX1_rest_283 (by decide) ?_
                    refine lv_goto (tgt := 288) hx hb dX1_rest_284 (by decide) ?_
                    refine bw_csl (rest := []) ⟨hx, hb, hml, hown, hts⟩ (bd_signed l (bg_exact (((bg_number x2) <<< ((-((bg_power x1) - (bg_power x2))).toInt64 &&& 63)) - r38.2.1) (bg_power x1)) (1 : Int32)) (va_cwS 2 hts gX1_rest_X1_signed rfl rfl rfl (by decide +kernel) ⟨Nat.le_of_ble_eq_true rfl, Nat.le_of_ble_eq_true rfl⟩) rfl hl.1 rfl (Nat.le_of_ble_eq_true rfl) dX1_rest_288 (Nat.zero_le _) (Nat.zero_le _) ?_
                    exact W.lret (v := bg_signed (bg_exact (((bg_number x2) <<< ((-((bg_power x1) - (bg_power x2))).toInt64 &&& 63)) - r38.2.1) (bg_power x1)) (1 : Int32)) hx hb hr (fun t ht hW => ⟨⟨bg_signed (bg_exact (((bg_number x2) <<< ((-((bg_power x1) - (bg_power x2))).toInt64 &&& 63)) - r38.2.1) (bg_power x1)) (1 : Int32), (f1, ((r38.1 + (1 : Int64)) - (r38.1 + (1 : Int64)) / (8 : Int64) * (8 : Int64)).toInt32, f3, f4), rfl, by rw [bg_rest, if_neg h1, if_neg h33, if_pos h35, e38, bg_rest_k2, if_neg h39, if_neg h44, if_pos h49, if_pos h54, if_neg h61, if_neg h62], by rw [ht]; exact hP, va_K.moved hW.alike hK, hD⟩, hS.F ht⟩) hS.2.2 dX1_rest_291
                · refine lv_lload_n hx hb dX1_rest_267 rfl (lv_at hl 3 rfl) ?_
                  refine bw_csi (rest := [.long (bg_exact (((bg_number x2) <<< ((-((bg_power x1) - (bg_power x2))).toInt64 &&& 63)) - r38.2.1) (bg_power x1))]) ⟨hx, hb, hml, hown, hts⟩ (bd_negative l x1) (va_cwS 1 hts gX1_rest_X1_negative rfl rfl rfl (by decide +kernel) ⟨Nat.le_of_ble_eq_true rfl, Nat.le_of_ble_eq_true rfl⟩) rfl hl.1 rfl (Nat.le_of_ble_eq_true rfl) dX1_rest_268 (Nat.zero_le _) (Nat.zero_le _) ?_
                  refine lv_goto (tgt := 288) hx hb dX1_rest_271 (by decide) ?_
                  refine bw_csl (rest := []) ⟨hx, hb, hml, hown, hts⟩ (bd_signed l (bg_exact (((bg_number x2) <<< ((-((bg_power x1) - (bg_power x2))).toInt64 &&& 63)) - r38.2.1) (bg_power x1)) (bg_negative x1)) (va_cwS 2 hts gX1_rest_X1_signed rfl rfl rfl (by decide +kernel) ⟨Nat.le_of_ble_eq_true rfl, Nat.le_of_ble_eq_true rfl⟩) rfl hl.1 rfl (Nat.le_of_ble_eq_true rfl) dX1_rest_288 (Nat.zero_le _) (Nat.zero_le _) ?_
                  exact W.lret (v := bg_signed (bg_exact (((bg_number x2) <<< ((-((bg_power x1) - (bg_power x2))).toInt64 &&& 63)) - r38.2.1) (bg_power x1)) (bg_negative x1)) hx hb hr (fun t ht hW => ⟨⟨bg_signed (bg_exact (((bg_number x2) <<< ((-((bg_power x1) - (bg_power x2))).toInt64 &&& 63)) - r38.2.1) (bg_power x1)) (bg_negative x1), (f1, ((r38.1 + (1 : Int64)) - (r38.1 + (1 : Int64)) / (8 : Int64) * (8 : Int64)).toInt32, f3, f4), rfl, by rw [bg_rest, if_neg h1, if_neg h33, if_pos h35, e38, bg_rest_k2, if_neg h39, if_neg h44, if_pos h49, if_pos h54, if_pos h61], by rw [ht]; exact hP, va_K.moved hW.alike hK, hD⟩, hS.F ht⟩) hS.2.2 dX1_rest_291
      · refine lv_aload_n hx hb dX1_rest_66 rfl (lv_at hl 4 rfl) ?_
        refine lv_iconst (v := 0) hx hb dX1_rest_67 (by decide) ?_
        refine va_put (D := (dC, dI)) (ci := 1) (v := .int (0 : Int32)) (ty := .int) (C := RX1) (T := TX1) (N := 5) hx hb hts hin0 tyX1 tyX1_ok nmX1 hown hK hP hD hS 0 rfl rfl 2 (by decide) (hts (.fieldLink RX1 97 "BinaryFunctionsModel" "quotient" "I") (by decide +kernel)) (fun _ h9 => h9) rfl (by decide +kernel) rfl rfl (Nat.le_of_ble_eq_true rfl) dX1_rest_68 (fun H locs hP hD hS => ?_)
        have hP : va_P (dC, dI) vwCl [(h0, .inr (1, [.ref a0, .int f1, .int (0 : Int32), .long f3, .long f4]))] H := hP
        have hD : va_D A [(h0, .inr (1, [.ref a0, .int f1, .int (0 : Int32), .long f3, .long f4]))] := hD
        refine lv_lload_n hx hb dX1_rest_71 rfl (lv_at hl 5 rfl) ?_
        exact W.lret (v := x1) hx hb hr (fun t ht hW => ⟨⟨x1, (f1, (0 : Int32), f3, f4), rfl, by rw [bg_rest, if_neg h1, if_neg h33, if_neg h35], by rw [ht]; exact hP, va_K.moved hW.alike hK, hD⟩, hS.F ht⟩) hS.2.2 dX1_rest_72
set_option maxHeartbeats 4000000 in
set_option maxRecDepth 100000 in
theorem bl_rnd_1_w {p : Program} {l : Launch} {e : Env} {R : Room} {s : State} {m : MethodId} {args : Array Value} {below : List Frame} {meth : Method} {c : Code} {H : Heap} {locs : List Loc} {Q : State → Prop} (hx : p.tables.exec = Jvm.exec) (hb : c.code = cX1_rounded) (hml : c.maxLocals = 14) (hown : s.vm.findClass RX1 = some m.cls) (hts : ∀ w ∈ wsX1_rounded, w.before args s = true) {h0 : Nat} {c1 : Int64} {c3 : Int64} : ∀ (n : Nat) (v5 : Int64) (v7 : Int64) (v9 : Int32) (ls : Array Slot) (r : Int64 × Int64 × Int32), lv_has ls 14 [(0, .ref h0), (1, .long c1), (3, .long c3), (5, .long v5), (7, .long v7), (9, .int v9)] → bl_it (bl_rnd_1_st) n (v5, v7, v9) = some r → (∀ (ls : Array Slot), lv_has ls 14 [(0, .ref h0), (1, .long c1), (3, .long c3), (5, .long r.1), (7, .long r.2.1), (9, .int r.2.2)] → W p l e R s m args below meth c H locs 0 0 Q (F0 m 43 ls [])) → W p l e R s m args below meth c H locs 0 0 Q (F0 m 9 ls []) := by
  intro n
  induction n with
  | zero => intro v5 v7 v9 ls r hl h; cases h
  | succ n ih =>
    intro v5 v7 v9 ls r hl h kk
    refine lv_iload hx hb dX1_rounded_9 (lv_at hl 5 rfl) ?_
    refine lv_bipush (v := 60) hx hb dX1_rounded_11 (by decide) ?_
    refine lv_icmp_ge (tgt := 43) hx hb dX1_rounded_13 (by decide) (fun h1 => ?_) (fun h1 => ?_)
    · obtain rfl := bl_stepR (s := (v5, v7, v9)) (show bl_rnd_1_b v5 v7 v9 = .inr (v5, v7, v9) by rw [bl_rnd_1_b, if_pos h1]) h
      exact kk ls (lv_sub hl [0, 1, 2, 3, 4, 5] rfl)
    · refine lv_lload hx hb dX1_rounded_16 (lv_at hl 3 rfl) ?_
      refine lv_ldc2 hx hb hown (hts (.constantLong RX1 25 4503599627370496) (by decide +kernel)) dX1_rounded_18 ?_
      refine bw_lc_ge (tgt := 43) hx hb dX1_rounded_21 dX1_rounded_22 (by decide) (fun h2 => ?_) (fun h2 => ?_)
      · obtain rfl := bl_stepR (s := (v5, v7, v9)) (show bl_rnd_1_b v5 v7 v9 = .inr (v5, v7, v9) by rw [bl_rnd_1_b, if_neg h1, if_pos h2]) h
        exact kk ls (lv_sub hl [0, 1, 2, 3, 4, 5] rfl)
      · refine lv_lload hx hb dX1_rounded_25 (lv_at hl 3 rfl) ?_
        refine lv_iconst (v := 1) hx hb dX1_rounded_27 (by decide) ?_
        refine lv_lshl hx hb dX1_rounded_28 rfl ?_
        refine lv_lstore (nL := 14) (lv' := [(5, .long (v5 <<< ((1 : Int32).toInt64 &&& 63))), (0, .ref h0), (1, .long c1), (3, .long c3), (7, .long v7), (9, .int v9)]) hx hb dX1_rounded_29 hl (by decide) rfl (fun ls hl => ?_)
        refine lv_lload hx hb dX1_rounded_31 (lv_at hl 4 rfl) ?_
        refine lv_lconst (v := 1) hx hb dX1_rounded_33 (by decide) ?_
        refine lv_lsub hx hb dX1_rounded_34 ?_
        refine lv_lstore (nL := 14) (lv' := [(7, .long (v7 - (1 : Int64))), (5, .long (v5 <<< ((1 : Int32).toInt64 &&& 63))), (0, .ref h0), (1, .long c1), (3, .long c3), (9, .int v9)]) hx hb dX1_rounded_35 hl (by decide) rfl (fun ls hl => ?_)
        refine lv_iinc (nL := 14) (k := 5) (v := v9 + (1 : Int32)) (lv' := [(9, .int (v9 + (1 : Int32))), (7, .long (v7 - (1 : Int64))), (5, .long (v5 <<< ((1 : Int32).toInt64 &&& 63))), (0, .ref h0), (1, .long c1), (3, .long c3)]) hx hb dX1_rounded_37 hl rfl rfl (by decide) rfl (fun ls hl => ?_)
        refine lv_goto (tgt := 9) hx hb dX1_rounded_40 (by decide) ?_
        exact ih (v5 <<< ((1 : Int32).toInt64 &&& 63)) (v7 - (1 : Int64)) (v9 + (1 : Int32)) ls r (lv_sub hl [3, 4, 5, 2, 1, 0] rfl) (bl_stepL (s := (v5, v7, v9)) (show bl_rnd_1_b v5 v7 v9 = .inl (v5 <<< ((1 : Int32).toInt64 &&& 63), v7 - (1 : Int64), v9 + (1 : Int32)) by rw [bl_rnd_1_b, if_neg h1, if_neg h2]) h) kk
set_option maxHeartbeats 4000000 in
set_option maxRecDepth 100000 in
theorem bd_rounded (l : Launch) (dC : Nat → ClassId) (dI : Nat → Nat → Nat) (h0 a0 : Nat) (sz : Nat) (f1 : Int32) (f2 : Int32) (f3 : Int64) (f4 : Int64) (x1 : Int64) (x2 : Int64) : Met l yX1_rounded wsX1_rounded ({ frames := 1, cells := 0, slots := 0, locals := 31 }) (va_Pc [.ref h0, .long x1, .long x2] (bw_I1 (dC, dI) vwCl sz h0 (.inr (1, [.ref a0, .int f1, .int f2, .long f3, .long f4])))) (va_Ql (fun (r : Int64) (u : Int32 × Int32 × Int64 × Int64) => (r, u) = bg_rounded f1 f2 f3 f4 x1 x2) (fun u t => bw_O1 (dC, dI) vwCl (va_A [(h0, .inr (1, [.ref a0, .int f1, .int f2, .long f3, .long f4]))] sz) h0 (.inr (1, [.ref a0, .int u.1, .int u.2.1, .long u.2.2.1, .long u.2.2.2])) t) (va_A [(h0, .inr (1, [.ref a0, .int f1, .int f2, .long f3, .long f4]))] sz)) 0 0 (va_A [(h0, .inr (1, [.ref a0, .int f1, .int f2, .long f3, .long f4]))] sz) := by
  refine Met.ofW (cc := cX1_rounded) (maxL := 14) (ret := (some .long)) (by decide) rfl ?_
  intro p e s m args below meth c s₁ B hml hv
  obtain ⟨rfl, hsz, hP, hK, hD0⟩ := hv
  have hx := B.exec
  have hb := B.bytes
  have hr := B.returns
  have hts := atoms_spec (ws := wsX1_rounded) B.pre
  have hown : s.vm.findClass RX1 = some m.cls := findClass_of_methodNamed B.named
  have hlocks := B.notSynchronized
  subst hsz
  have hD := hD0.self (sz := s.heap.size)
  generalize hAe : va_A [(h0, .inr (1, [.ref a0, .int f1, .int f2, .long f3, .long f4]))] s.heap.size = A at hD ⊢
  have hA : ∀ q : Nat, s.heap.size ≤ q → A q := fun q h => by rw [← hAe]; exact Or.inr h
  have hS : va_S A s.heap s.heap [] := va_S.rf
  have hP : va_P (dC, dI) vwCl [(h0, .inr (1, [.ref a0, .int f1, .int f2, .long f3, .long f4]))] s.heap := hP
  have hin0 : ∀ w ∈ u_ws RX1 TX1 5, w ∈ wsX1_rounded := by decide +kernel
  have hl := lv_entry ([.ref h0, .long x1, .long x2]) (n := 14) (Nat.le_of_ble_eq_true rfl)
  rw [lg_entry_eq]
  generalize (lg_sl ([.ref h0, .long x1, .long x2]) ++ List.replicate (14 - (lg_sl ([.ref h0, .long x1, .long x2])).length) Slot.unset).toArray = ls at hl ⊢
  have hl : lv_has ls 14 [(0, .ref h0), (1, .long x1), (3, .long x2)] := hl
  refine lv_lload_n hx hb dX1_rounded_0 rfl (lv_at hl 1 rfl) ?_
  refine lv_lstore (nL := 14) (lv' := [(5, .long x1), (0, .ref h0), (1, .long x1), (3, .long x2)]) hx hb dX1_rounded_1 hl (by decide) rfl (fun ls hl => ?_)
  refine lv_lload_n hx hb dX1_rounded_3 rfl (lv_at hl 3 rfl) ?_
  refine lv_lstore (nL := 14) (lv' := [(7, .long x2), (5, .long x1), (0, .ref h0), (1, .long x1), (3, .long x2)]) hx hb dX1_rounded_4 hl (by decide) rfl (fun ls hl => ?_)
  refine lv_iconst (v := 0) hx hb dX1_rounded_6 (by decide) ?_
  refine lv_istore (nL := 14) (lv' := [(9, .int (0 : Int32)), (7, .long x2), (5, .long x1), (0, .ref h0), (1, .long x1), (3, .long x2)]) hx hb dX1_rounded_7 hl (by decide) rfl (fun ls hl => ?_)
  obtain ⟨n3, e3⟩ := bl_rnd_1_ok (x1, x2, (0 : Int32))
  refine bl_rnd_1_w hx hb hml hown hts n3 x1 x2 (0 : Int32) ls _ (lv_sub hl [3, 4, 5, 2, 1, 0] rfl) e3 (fun ls hl => ?_)
  have hl : lv_has ls 14 [(0, .ref h0), (1, .long x1), (3, .long x2), (5, .long ((bl_rnd_1 (x1, x2, (0 : Int32))).1)), (7, .long ((bl_rnd_1 (x1, x2, (0 : Int32))).2.1)), (9, .int ((bl_rnd_1 (x1, x2, (0 : Int32))).2.2))] := hl
  obtain ⟨r4, e4⟩ : ∃ r, (bl_rnd_1 (x1, x2, (0 : Int32))) = r := ⟨_, rfl⟩
  rw [e4] at hl
  refine lv_lload hx hb dX1_rounded_43 (lv_at hl 4 rfl) ?_
  refine lv_ldc2 hx hb hown (hts (.constantLong RX1 109 971) (by decide +kernel)) dX1_rounded_45 ?_
  refine bw_lc_le (tgt := 67) hx hb dX1_rounded_48 dX1_rounded_49 (by decide) (fun h5 => ?_) (fun h5 => ?_)
  · refine lv_lload hx hb dX1_rounded_67 (lv_at hl 4 rfl) ?_
    refine lv_ldc2 hx hb hown (hts (.constantLong RX1 111 (-1074)) (by decide +kernel)) dX1_rounded_69 ?_
    refine bw_lc_lt (tgt := 85) hx hb dX1_rounded_72 dX1_rounded_73 (by decide) (fun h6 => ?_) (fun h6 => ?_)
    · refine lv_ldc2 hx hb hown (hts (.constantLong RX1 111 (-1074)) (by decide +kernel)) dX1_rounded_85 ?_
      refine lv_lload hx hb dX1_rounded_88 (lv_at hl 4 rfl) ?_
      refine lv_lsub hx hb dX1_rounded_90 ?_
      refine lv_lstore (nL := 14) (lv' := [(9, .long ((-1074 : Int64) - r4.2.1)), (0, .ref h0), (1, .long x1), (3, .long x2), (5, .long r4.1), (7, .long r4.2.1)]) hx hb dX1_rounded_91 hl (by decide) rfl (fun ls hl => ?_)
      refine lv_lload hx hb dX1_rounded_93 (lv_at hl 0 rfl) ?_
      refine lv_ldc2 hx hb hown (hts (.constantLong RX1 113 54) (by decide +kernel)) dX1_rounded_95 ?_
      refine bw_lc_le (tgt := 106) hx hb dX1_rounded_98 dX1_rounded_99 (by decide) (fun h7 => ?_) (fun h7 => ?_)
      · refine lv_lload hx hb dX1_rounded_106 (lv_at hl 4 rfl) ?_
        refine lv_lload hx hb dX1_rounded_108 (lv_at hl 0 rfl) ?_
        refine lv_l2i hx hb dX1_rounded_110 rfl ?_
        refine lv_iconst (v := 1) hx hb dX1_rounded_111 (by decide) ?_
        refine lv_iconst (v := 0) hx hb dX1_rounded_112 (by decide) ?_
        refine bw_csl (rest := []) ⟨hx, hb, hml, hown, hts⟩ (bd_cut l r4.1 (((-1074 : Int64) - r4.2.1).toInt32) (1 : Int32) (0 : Int32)) (va_cwS 4 hts gX1_rounded_X1_cut rfl rfl rfl (by decide +kernel) ⟨Nat.le_of_ble_eq_true rfl, Nat.le_of_ble_eq_true rfl⟩) rfl hl.1 rfl (Nat.le_of_ble_eq_true rfl) dX1_rounded_113 (Nat.zero_le _) (Nat.zero_le _) ?_
        refine lv_lstore (nL := 14) (lv' := [(11, .long (bg_cut r4.1 (((-1074 : Int64) - r4.2.1).toInt32) (1 : Int32) (0 : Int32))), (9, .long ((-1074 : Int64) - r4.2.1)), (0, .ref h0), (1, .long x1), (3, .long x2), (5, .long r4.1), (7, .long r4.2.1)]) hx hb dX1_rounded_116 hl (by decide) rfl (fun ls hl => ?_)
        refine lv_lload hx hb dX1_rounded_118 (lv_at hl 1 rfl) ?_
        refine lv_ldc2 hx hb hown (hts (.constantLong RX1 113 54) (by decide +kernel)) dX1_rounded_120 ?_
        refine bw_lc_gt (tgt := 143) hx hb dX1_rounded_123 dX1_rounded_124 (by decide) (fun h8 => ?_) (fun h8 => ?_)
        · refine lv_iconst (v := 0) hx hb dX1_rounded_143 (by decide) ?_
          refine lv_istore (nL := 14) (lv' := [(13, .int (0 : Int32)), (11, .long (bg_cut r4.1 (((-1074 : Int64) - r4.2.1).toInt32) (1 : Int32) (0 : Int32))), (9, .long ((-1074 : Int64) - r4.2.1)), (0, .ref h0), (1, .long x1), (3, .long x2), (5, .long r4.1), (7, .long r4.2.1)]) hx hb dX1_rounded_144 hl (by decide) rfl (fun ls hl => ?_)
          refine lv_iload hx hb dX1_rounded_146 (lv_at hl 0 rfl) ?_
          refine lv_if_ne (tgt := 188) hx hb dX1_rounded_148 (by decide) (fun h9 => ?_) (fun h9 => ?_)
          · exact absurd (by decide) h9
          refine lv_aload_n hx hb dX1_rounded_151 rfl (lv_at hl 3 rfl) ?_
          refine lv_aload_n hx hb dX1_rounded_152 rfl (lv_at hl 3 rfl) ?_
          refine va_get (D := (dC, dI)) (ci := 1) (v := .int f1) (C := RX1) (T := TX1) (N := 5) hx hb hts hin0 hown hK hP 0 rfl rfl 1 (by decide) (hts (.fieldLink RX1 61 "BinaryFunctionsModel" "flag" "I") (by decide +kernel)) (fun _ h9 => h9) rfl dX1_rounded_153 ?_
          refine lv_iconst (v := 2) hx hb dX1_rounded_156 (by decide) ?_
          refine lv_ior hx hb dX1_rounded_157 ?_
          refine va_put (D := (dC, dI)) (ci := 1) (v := .int (f1 ||| (2 : Int32))) (ty := .int) (C := RX1) (T := TX1) (N := 5) hx hb hts hin0 tyX1 tyX1_ok nmX1 hown hK hP hD hS 0 rfl rfl 1 (by decide) (hts (.fieldLink RX1 61 "BinaryFunctionsModel" "flag" "I") (by decide +kernel)) (fun _ h9 => h9) rfl (by decide +kernel) rfl rfl (Nat.le_of_ble_eq_true rfl) dX1_rounded_158 (fun H locs hP hD hS => ?_)
          have hP : va_P (dC, dI) vwCl [(h0, .inr (1, [.ref a0, .int (f1 ||| (2 : Int32)), .int f2, .long f3, .long f4]))] H := hP
          have hD : va_D A [(h0, .inr (1, [.ref a0, .int (f1 ||| (2 : Int32)), .int f2, .long f3, .long f4]))] := hD
          refine lv_aload_n hx hb dX1_rounded_161 rfl (lv_at hl 3 rfl) ?_
          refine lv_lload hx hb dX1_rounded_162 (lv_at hl 1 rfl) ?_
          refine lv_ldc2 hx hb hown (hts (.constantLong RX1 25 4503599627370496) (by decide +kernel)) dX1_rounded_164 ?_
          refine bw_lc_ge (tgt := 181) hx hb dX1_rounded_167 dX1_rounded_168 (by decide) (fun h10 => ?_) (fun h10 => ?_)
          · refine lv_aload_n hx hb dX1_rounded_181 rfl (lv_at hl 3 rfl) ?_
            refine va_get (D := (dC, dI)) (ci := 1) (v := .int (f1 ||| (2 : Int32))) (C := RX1) (T := TX1) (N := 5) hx hb hts hin0 hown hK hP 0 rfl rfl 1 (by decide) (hts (.fieldLink RX1 61 "BinaryFunctionsModel" "flag" "I") (by decide +kernel)) (fun _ h9 => h9) rfl dX1_rounded_182 ?_
            refine va_put (D := (dC, dI)) (ci := 1) (v := .int (f1 ||| (2 : Int32))) (ty := .int) (C := RX1) (T := TX1) (N := 5) hx hb hts hin0 tyX1 tyX1_ok nmX1 hown hK hP hD hS 0 rfl rfl 1 (by decide) (hts (.fieldLink RX1 61 "BinaryFunctionsModel" "flag" "I") (by decide +kernel)) (fun _ h9 => h9) rfl (by decide +kernel) rfl rfl (Nat.le_of_ble_eq_true rfl) dX1_rounded_185 (fun H locs hP hD hS => ?_)
            have hP : va_P (dC, dI) vwCl [(h0, .inr (1, [.ref a0, .int (f1 ||| (2 : Int32)), .int f2, .long f3, .long f4]))] H := hP
            have hD : va_D A [(h0, .inr (1, [.ref a0, .int (f1 ||| (2 : Int32)), .int f2, .long f3, .long f4]))] := hD
            refine lv_lload hx hb dX1_rounded_188 (lv_at hl 1 rfl) ?_
            exact W.lret (v := bg_cut r4.1 (((-1074 : Int64) - r4.2.1).toInt32) (1 : Int32) (0 : Int32)) hx hb hr (fun t ht hW => ⟨⟨bg_cut r4.1 (((-1074 : Int64) - r4.2.1).toInt32) (1 : Int32) (0 : Int32), (f1 ||| (2 : Int32), f2, f3, f4), rfl, by rw [bg_rounded, e4, bg_rounded_k1, if_pos h5, if_pos h6, if_pos h7, if_pos h8, if_pos h10], by rw [ht]; exact hP, va_K.moved hW.alike hK, hD⟩, hS.F ht⟩) hS.2.2 dX1_rounded_190
          · refine lv_aload_n hx hb dX1_rounded_171 rfl (lv_at hl 3 rfl) ?_
            refine va_get (D := (dC, dI)) (ci := 1) (v := .int (f1 ||| (2 : Int32))) (C := RX1) (T := TX1) (N := 5) hx hb hts hin0 hown hK hP 0 rfl rfl 1 (by decide) (hts (.fieldLink RX1 61 "BinaryFunctionsModel" "flag" "I") (by decide +kernel)) (fun _ h9 => h9) rfl dX1_rounded_172 ?_
            refine lv_bipush (v := 8) hx hb dX1_rounded_175 (by decide) ?_
            refine lv_ior hx hb dX1_rounded_177 ?_
            refine lv_goto (tgt := 185) hx hb dX1_rounded_178 (by decide) ?_
            refine va_put (D := (dC, dI)) (ci := 1) (v := .int ((f1 ||| (2 : Int32)) ||| (8 : Int32))) (ty := .int) (C := RX1) (T := TX1) (N := 5) hx hb hts hin0 tyX1 tyX1_ok nmX1 hown hK hP hD hS 0 rfl rfl 1 (by decide) (hts (.fieldLink RX1 61 "BinaryFunctionsModel" "flag" "I") (by decide +kernel)) (fun _ h9 => h9) rfl (by decide +kernel) rfl rfl (Nat.le_of_ble_eq_true rfl) dX1_rounded_185 (fun H locs hP hD hS => ?_)
            have hP : va_P (dC, dI) vwCl [(h0, .inr (1, [.ref a0, .int ((f1 ||| (2 : Int32)) ||| (8 : Int32)), .int f2, .long f3, .long f4]))] H := hP
            have hD : va_D A [(h0, .inr (1, [.ref a0, .int ((f1 ||| (2 : Int32)) ||| (8 : Int32)), .int f2, .long f3, .long f4]))] := hD
            refine lv_lload hx hb dX1_rounded_188 (lv_at hl 1 rfl) ?_
            exact W.lret (v := bg_cut r4.1 (((-1074 : Int64) - r4.2.1).toInt32) (1 : Int32) (0 : Int32)) hx hb hr (fun t ht hW => ⟨⟨bg_cut r4.1 (((-1074 : Int64) - r4.2.1).toInt32) (1 : Int32) (0 : Int32), ((f1 ||| (2 : Int32)) ||| (8 : Int32), f2, f3, f4), rfl, by rw [bg_rounded, e4, bg_rounded_k1, if_pos h5, if_pos h6, if_pos h7, if_pos h8, if_neg h10], by rw [ht]; exact hP, va_K.moved hW.alike hK, hD⟩, hS.F ht⟩) hS.2.2 dX1_rounded_190
        · refine lv_lload hx hb dX1_rounded_127 (lv_at hl 0 rfl) ?_
          refine lv_lload hx hb dX1_rounded_129 (lv_at hl 1 rfl) ?_
          refine lv_l2i hx hb dX1_rounded_131 rfl ?_
          refine lv_lshl hx hb dX1_rounded_132 rfl ?_
          refine lv_lload hx hb dX1_rounded_133 (lv_at hl 5 rfl) ?_
          refine bw_lc_ne (tgt := 143) hx hb dX1_rounded_135 dX1_rounded_136 (by decide) (fun h11 => ?_) (fun h11 => ?_)
          · refine lv_iconst (v := 0) hx hb dX1_rounded_143 (by decide) ?_
            refine lv_istore (nL := 14) (lv' := [(13, .int (0 : Int32)), (11, .long (bg_cut r4.1 (((-1074 : Int64) - r4.2.1).toInt32) (1 : Int32) (0 : Int32))), (9, .long ((-1074 : Int64) - r4.2.1)), (0, .ref h0), (1, .long x1), (3, .long x2), (5, .long r4.1), (7, .long r4.2.1)]) hx hb dX1_rounded_144 hl (by decide) rfl (fun ls hl => ?_)
            refine lv_iload hx hb dX1_rounded_146 (lv_at hl 0 rfl) ?_
            refine lv_if_ne (tgt := 188) hx hb dX1_rounded_148 (by decide) (fun h12 => ?_) (fun h12 => ?_)
            · exact absurd (by decide) h12
            refine lv_aload_n hx hb dX1_rounded_151 rfl (lv_at hl 3 rfl) ?_
            refine lv_aload_n hx hb dX1_rounded_152 rfl (lv_at hl 3 rfl) ?_
            refine va_get (D := (dC, dI)) (ci := 1) (v := .int f1) (C := RX1) (T := TX1) (N := 5) hx hb hts hin0 hown hK hP 0 rfl rfl 1 (by decide) (hts (.fieldLink RX1 61 "BinaryFunctionsModel" "flag" "I") (by decide +kernel)) (fun _ h9 => h9) rfl dX1_rounded_153 ?_
            refine lv_iconst (v := 2) hx hb dX1_rounded_156 (by decide) ?_
            refine lv_ior hx hb dX1_rounded_157 ?_
            refine va_put (D := (dC, dI)) (ci := 1) (v := .int (f1 ||| (2 : Int32))) (ty := .int) (C := RX1) (T := TX1) (N := 5) hx hb hts hin0 tyX1 tyX1_ok nmX1 hown hK hP hD hS 0 rfl rfl 1 (by decide) (hts (.fieldLink RX1 61 "BinaryFunctionsModel" "flag" "I") (by decide +kernel)) (fun _ h9 => h9) rfl (by decide +kernel) rfl rfl (Nat.le_of_ble_eq_true rfl) dX1_rounded_158 (fun H locs hP hD hS => ?_)
            have hP : va_P (dC, dI) vwCl [(h0, .inr (1, [.ref a0, .int (f1 ||| (2 : Int32)), .int f2, .long f3, .long f4]))] H := hP
            have hD : va_D A [(h0, .inr (1, [.ref a0, .int (f1 ||| (2 : Int32)), .int f2, .long f3, .long f4]))] := hD
            refine lv_aload_n hx hb dX1_rounded_161 rfl (lv_at hl 3 rfl) ?_
            refine lv_lload hx hb dX1_rounded_162 (lv_at hl 1 rfl) ?_
            refine lv_ldc2 hx hb hown (hts (.constantLong RX1 25 4503599627370496) (by decide +kernel)) dX1_rounded_164 ?_
            refine bw_lc_ge (tgt := 181) hx hb dX1_rounded_167 dX1_rounded_168 (by decide) (fun h13 => ?_) (fun h13 => ?_)
            · refine lv_aload_n hx hb dX1_rounded_181 rfl (lv_at hl 3 rfl) ?_
              refine va_get (D := (dC, dI)) (ci := 1) (v := .int (f1 ||| (2 : Int32))) (C := RX1) (T := TX1) (N := 5) hx hb hts hin0 hown hK hP 0 rfl rfl 1 (by decide) (hts (.fieldLink RX1 61 "BinaryFunctionsModel" "flag" "I") (by decide +kernel)) (fun _ h9 => h9) rfl dX1_rounded_182 ?_
              refine va_put (D := (dC, dI)) (ci := 1) (v := .int (f1 ||| (2 : Int32))) (ty := .int) (C := RX1) (T := TX1) (N := 5) hx hb hts hin0 tyX1 tyX1_ok nmX1 hown hK hP hD hS 0 rfl rfl 1 (by decide) (hts (.fieldLink RX1 61 "BinaryFunctionsModel" "flag" "I") (by decide +kernel)) (fun _ h9 => h9) rfl (by decide +kernel) rfl rfl (Nat.le_of_ble_eq_true rfl) dX1_rounded_185 (fun H locs hP hD hS => ?_)
              have hP : va_P (dC, dI) vwCl [(h0, .inr (1, [.ref a0, .int (f1 ||| (2 : Int32)), .int f2, .long f3, .long f4]))] H := hP
              have hD : va_D A [(h0, .inr (1, [.ref a0, .int (f1 ||| (2 : Int32)), .int f2, .long f3, .long f4]))] := hD
              refine lv_lload hx hb dX1_rounded_188 (lv_at hl 1 rfl) ?_
              exact W.lret (v := bg_cut r4.1 (((-1074 : Int64) - r4.2.1).toInt32) (1 : Int32) (0 : Int32)) hx hb hr (fun t ht hW => ⟨⟨bg_cut r4.1 (((-1074 : Int64) - r4.2.1).toInt32) (1 : Int32) (0 : Int32), (f1 ||| (2 : Int32), f2, f3, f4), rfl, by rw [bg_rounded, e4, bg_rounded_k1, if_pos h5, if_pos h6, if_pos h7, if_neg h8, if_neg h11, if_pos h13], by rw [ht]; exact hP, va_K.moved hW.alike hK, hD⟩, hS.F ht⟩) hS.2.2 dX1_rounded_190
            · refine lv_aload_n hx hb dX1_rounded_171 rfl (lv_at hl 3 rfl) ?_
              refine va_get (D := (dC, dI)) (ci := 1) (v := .int (f1 ||| (2 : Int32))) (C := RX1) (T := TX1) (N := 5) hx hb hts hin0 hown hK hP 0 rfl rfl 1 (by decide) (hts (.fieldLink RX1 61 "BinaryFunctionsModel" "flag" "I") (by decide +kernel)) (fun _ h9 => h9) rfl dX1_rounded_172 ?_
              refine lv_bipush (v := 8) hx hb dX1_rounded_175 (by decide) ?_
              refine lv_ior hx hb dX1_rounded_177 ?_
              refine lv_goto (tgt := 185) hx hb dX1_rounded_178 (by decide) ?_
              refine va_put (D := (dC, dI)) (ci := 1) (v := .int ((f1 ||| (2 : Int32)) ||| (8 : Int32))) (ty := .int) (C := RX1) (T := TX1) (N := 5) hx hb hts hin0 tyX1 tyX1_ok nmX1 hown hK hP hD hS 0 rfl rfl 1 (by decide) (hts (.fieldLink RX1 61 "BinaryFunctionsModel" "flag" "I") (by decide +kernel)) (fun _ h9 => h9) rfl (by decide +kernel) rfl rfl (Nat.le_of_ble_eq_true rfl) dX1_rounded_185 (fun H locs hP hD hS => ?_)
              have hP : va_P (dC, dI) vwCl [(h0, .inr (1, [.ref a0, .int ((f1 ||| (2 : Int32)) ||| (8 : Int32)), .int f2, .long f3, .long f4]))] H := hP
              have hD : va_D A [(h0, .inr (1, [.ref a0, .int ((f1 ||| (2 : Int32)) ||| (8 : Int32)), .int f2, .long f3, .long f4]))] := hD
              refine lv_lload hx hb dX1_rounded_188 (lv_at hl 1 rfl) ?_
              exact W.lret (v := bg_cut r4.1 (((-1074 : Int64) - r4.2.1).toInt32) (1 : Int32) (0 : Int32)) hx hb hr (fun t ht hW => ⟨⟨bg_cut r4.1 (((-1074 : Int64) - r4.2.1).toInt32) (1 : Int32) (0 : Int32), ((f1 ||| (2 : Int32)) ||| (8 : Int32), f2, f3, f4), rfl, by rw [bg_rounded, e4, bg_rounded_k1, if_pos h5, if_pos h6, if_pos h7, if_neg h8, if_neg h11, if_neg h13], by rw [ht]; exact hP, va_K.moved hW.alike hK, hD⟩, hS.F ht⟩) hS.2.2 dX1_rounded_190
          · refine lv_iconst (v := 1) hx hb dX1_rounded_139 (by decide) ?_
            refine lv_goto (tgt := 144) hx hb dX1_rounded_140 (by decide) ?_
            refine lv_istore (nL := 14) (lv' := [(13, .int (1 : Int32)), (11, .long (bg_cut r4.1 (((-1074 : Int64) - r4.2.1).toInt32) (1 : Int32) (0 : Int32))), (9, .long ((-1074 : Int64) - r4.2.1)), (0, .ref h0), (1, .long x1), (3, .long x2), (5, .long r4.1), (7, .long r4.2.1)]) hx hb dX1_rounded_144 hl (by decide) rfl (fun ls hl => ?_)
            refine lv_iload hx hb dX1_rounded_146 (lv_at hl 0 rfl) ?_
            refine lv_if_ne (tgt := 188) hx hb dX1_rounded_148 (by decide) (fun h14 => ?_) (fun h14 => ?_)
            rotate_left
            · exact absurd h14 (by decide)
            refine lv_lload hx hb dX1_rounded_188 (lv_at hl 1 rfl) ?_
            exact W.lret (v := bg_cut r4.1 (((-1074 : Int64) - r4.2.1).toInt32) (1 : Int32) (0 : Int32)) hx hb hr (fun t ht hW => ⟨⟨bg_cut r4.1 (((-1074 : Int64) - r4.2.1).toInt32) (1 : Int32) (0 : Int32), (f1, f2, f3, f4), rfl, by rw [bg_rounded, e4, bg_rounded_k1, if_pos h5, if_pos h6, if_pos h7, if_neg h8, if_pos h11], by rw [ht]; exact hP, va_K.moved hW.alike hK, hD⟩, hS.F ht⟩) hS.2.2 dX1_rounded_190
      · refine lv_lconst (v := 0) hx hb dX1_rounded_102 (by decide) ?_
        refine lv_goto (tgt := 116) hx hb dX1_rounded_103 (by decide) ?_
        refine lv_lstore (nL := 14) (lv' := [(11, .long (0 : Int64)), (9, .long ((-1074 : Int64) - r4.2.1)), (0, .ref h0), (1, .long x1), (3, .long x2), (5, .long r4.1), (7, .long r4.2.1)]) hx hb dX1_rounded_116 hl (by decide) rfl (fun ls hl => ?_)
        refine lv_lload hx hb dX1_rounded_118 (lv_at hl 1 rfl) ?_
        refine lv_ldc2 hx hb hown (hts (.constantLong RX1 113 54) (by decide +kernel)) dX1_rounded_120 ?_
        refine bw_lc_gt (tgt := 143) hx hb dX1_rounded_123 dX1_rounded_124 (by decide) (fun h15 => ?_) (fun h15 => ?_)
        · refine lv_iconst (v := 0) hx hb dX1_rounded_143 (by decide) ?_
          refine lv_istore (nL := 14) (lv' := [(13, .int (0 : Int32)), (11, .long (0 : Int64)), (9, .long ((-1074 : Int64) - r4.2.1)), (0, .ref h0), (1, .long x1), (3, .long x2), (5, .long r4.1), (7, .long r4.2.1)]) hx hb dX1_rounded_144 hl (by decide) rfl (fun ls hl => ?_)
          refine lv_iload hx hb dX1_rounded_146 (lv_at hl 0 rfl) ?_
          refine lv_if_ne (tgt := 188) hx hb dX1_rounded_148 (by decide) (fun h16 => ?_) (fun h16 => ?_)
          · exact absurd (by decide) h16
          refine lv_aload_n hx hb dX1_rounded_151 rfl (lv_at hl 3 rfl) ?_
          refine lv_aload_n hx hb dX1_rounded_152 rfl (lv_at hl 3 rfl) ?_
          refine va_get (D := (dC, dI)) (ci := 1) (v := .int f1) (C := RX1) (T := TX1) (N := 5) hx hb hts hin0 hown hK hP 0 rfl rfl 1 (by decide) (hts (.fieldLink RX1 61 "BinaryFunctionsModel" "flag" "I") (by decide +kernel)) (fun _ h9 => h9) rfl dX1_rounded_153 ?_
          refine lv_iconst (v := 2) hx hb dX1_rounded_156 (by decide) ?_
          refine lv_ior hx hb dX1_rounded_157 ?_
          refine va_put (D := (dC, dI)) (ci := 1) (v := .int (f1 ||| (2 : Int32))) (ty := .int) (C := RX1) (T := TX1) (N := 5) hx hb hts hin0 tyX1 tyX1_ok nmX1 hown hK hP hD hS 0 rfl rfl 1 (by decide) (hts (.fieldLink RX1 61 "BinaryFunctionsModel" "flag" "I") (by decide +kernel)) (fun _ h9 => h9) rfl (by decide +kernel) rfl rfl (Nat.le_of_ble_eq_true rfl) dX1_rounded_158 (fun H locs hP hD hS => ?_)
          have hP : va_P (dC, dI) vwCl [(h0, .inr (1, [.ref a0, .int (f1 ||| (2 : Int32)), .int f2, .long f3, .long f4]))] H := hP
          have hD : va_D A [(h0, .inr (1, [.ref a0, .int (f1 ||| (2 : Int32)), .int f2, .long f3, .long f4]))] := hD
          refine lv_aload_n hx hb dX1_rounded_161 rfl (lv_at hl 3 rfl) ?_
          refine lv_lload hx hb dX1_rounded_162 (lv_at hl 1 rfl) ?_
          refine lv_ldc2 hx hb hown (hts (.constantLong RX1 25 4503599627370496) (by decide +kernel)) dX1_rounded_164 ?_
          refine bw_lc_ge (tgt := 181) hx hb dX1_rounded_167 dX1_rounded_168 (by decide) (fun h17 => ?_) (fun h17 => ?_)
          · exact absurd h17 (by decide)
          refine lv_aload_n hx hb dX1_rounded_171 rfl (lv_at hl 3 rfl) ?_
          refine va_get (D := (dC, dI)) (ci := 1) (v := .int (f1 ||| (2 : Int32))) (C := RX1) (T := TX1) (N := 5) hx hb hts hin0 hown hK hP 0 rfl rfl 1 (by decide) (hts (.fieldLink RX1 61 "BinaryFunctionsModel" "flag" "I") (by decide +kernel)) (fun _ h9 => h9) rfl dX1_rounded_172 ?_
          refine lv_bipush (v := 8) hx hb dX1_rounded_175 (by decide) ?_
          refine lv_ior hx hb dX1_rounded_177 ?_
          refine lv_goto (tgt := 185) hx hb dX1_rounded_178 (by decide) ?_
          refine va_put (D := (dC, dI)) (ci := 1) (v := .int ((f1 ||| (2 : Int32)) ||| (8 : Int32))) (ty := .int) (C := RX1) (T := TX1) (N := 5) hx hb hts hin0 tyX1 tyX1_ok nmX1 hown hK hP hD hS 0 rfl rfl 1 (by decide) (hts (.fieldLink RX1 61 "BinaryFunctionsModel" "flag" "I") (by decide +kernel)) (fun _ h9 => h9) rfl (by decide +kernel) rfl rfl (Nat.le_of_ble_eq_true rfl) dX1_rounded_185 (fun H locs hP hD hS => ?_)
          have hP : va_P (dC, dI) vwCl [(h0, .inr (1, [.ref a0, .int ((f1 ||| (2 : Int32)) ||| (8 : Int32)), .int f2, .long f3, .long f4]))] H := hP
          have hD : va_D A [(h0, .inr (1, [.ref a0, .int ((f1 ||| (2 : Int32)) ||| (8 : Int32)), .int f2, .long f3, .long f4]))] := hD
          refine lv_lload hx hb dX1_rounded_188 (lv_at hl 1 rfl) ?_
          exact W.lret (v := (0 : Int64)) hx hb hr (fun t ht hW => ⟨⟨(0 : Int64), ((f1 ||| (2 : Int32)) ||| (8 : Int32), f2, f3, f4), rfl, by rw [bg_rounded, e4, bg_rounded_k1, if_pos h5, if_pos h6, if_neg h7, if_pos h15], by rw [ht]; exact hP, va_K.moved hW.alike hK, hD⟩, hS.F ht⟩) hS.2.2 dX1_rounded_190
        · refine lv_lload hx hb dX1_rounded_127 (lv_at hl 0 rfl) ?_
          refine lv_lload hx hb dX1_rounded_129 (lv_at hl 1 rfl) ?_
          refine lv_l2i hx hb dX1_rounded_131 rfl ?_
          refine lv_lshl hx hb dX1_rounded_132 rfl ?_
          refine lv_lload hx hb dX1_rounded_133 (lv_at hl 5 rfl) ?_
          refine bw_lc_ne (tgt := 143) hx hb dX1_rounded_135 dX1_rounded_136 (by decide) (fun h18 => ?_) (fun h18 => ?_)
          · refine lv_iconst (v := 0) hx hb dX1_rounded_143 (by decide) ?_
            refine lv_istore (nL := 14) (lv' := [(13, .int (0 : Int32)), (11, .long (0 : Int64)), (9, .long ((-1074 : Int64) - r4.2.1)), (0, .ref h0), (1, .long x1), (3, .long x2), (5, .long r4.1), (7, .long r4.2.1)]) hx hb dX1_rounded_144 hl (by decide) rfl (fun ls hl => ?_)
            refine lv_iload hx hb dX1_rounded_146 (lv_at hl 0 rfl) ?_
            refine lv_if_ne (tgt := 188) hx hb dX1_rounded_148 (by decide) (fun h19 => ?_) (fun h19 => ?_)
            · exact absurd (by decide) h19
            refine lv_aload_n hx hb dX1_rounded_151 rfl (lv_at hl 3 rfl) ?_
            refine lv_aload_n hx hb dX1_rounded_152 rfl (lv_at hl 3 rfl) ?_
            refine va_get (D := (dC, dI)) (ci := 1) (v := .int f1) (C := RX1) (T := TX1) (N := 5) hx hb hts hin0 hown hK hP 0 rfl rfl 1 (by decide) (hts (.fieldLink RX1 61 "BinaryFunctionsModel" "flag" "I") (by decide +kernel)) (fun _ h9 => h9) rfl dX1_rounded_153 ?_
            refine lv_iconst (v := 2) hx hb dX1_rounded_156 (by decide) ?_
            refine lv_ior hx hb dX1_rounded_157 ?_
            refine va_put (D := (dC, dI)) (ci := 1) (v := .int (f1 ||| (2 : Int32))) (ty := .int) (C := RX1) (T := TX1) (N := 5) hx hb hts hin0 tyX1 tyX1_ok nmX1 hown hK hP hD hS 0 rfl rfl 1 (by decide) (hts (.fieldLink RX1 61 "BinaryFunctionsModel" "flag" "I") (by decide +kernel)) (fun _ h9 => h9) rfl (by decide +kernel) rfl rfl (Nat.le_of_ble_eq_true rfl) dX1_rounded_158 (fun H locs hP hD hS => ?_)
            have hP : va_P (dC, dI) vwCl [(h0, .inr (1, [.ref a0, .int (f1 ||| (2 : Int32)), .int f2, .long f3, .long f4]))] H := hP
            have hD : va_D A [(h0, .inr (1, [.ref a0, .int (f1 ||| (2 : Int32)), .int f2, .long f3, .long f4]))] := hD
            refine lv_aload_n hx hb dX1_rounded_161 rfl (lv_at hl 3 rfl) ?_
            refine lv_lload hx hb dX1_rounded_162 (lv_at hl 1 rfl) ?_
            refine lv_ldc2 hx hb hown (hts (.constantLong RX1 25 4503599627370496) (by decide +kernel)) dX1_rounded_164 ?_
            refine bw_lc_ge (tgt := 181) hx hb dX1_rounded_167 dX1_rounded_168 (by decide) (fun h20 => ?_) (fun h20 => ?_)
            · exact absurd h20 (by decide)
            refine lv_aload_n hx hb dX1_rounded_171 rfl (lv_at hl 3 rfl) ?_
            refine va_get (D := (dC, dI)) (ci := 1) (v := .int (f1 ||| (2 : Int32))) (C := RX1) (T := TX1) (N := 5) hx hb hts hin0 hown hK hP 0 rfl rfl 1 (by decide) (hts (.fieldLink RX1 61 "BinaryFunctionsModel" "flag" "I") (by decide +kernel)) (fun _ h9 => h9) rfl dX1_rounded_172 ?_
            refine lv_bipush (v := 8) hx hb dX1_rounded_175 (by decide) ?_
            refine lv_ior hx hb dX1_rounded_177 ?_
            refine lv_goto (tgt := 185) hx hb dX1_rounded_178 (by decide) ?_
            refine va_put (D := (dC, dI)) (ci := 1) (v := .int ((f1 ||| (2 : Int32)) ||| (8 : Int32))) (ty := .int) (C := RX1) (T := TX1) (N := 5) hx hb hts hin0 tyX1 tyX1_ok nmX1 hown hK hP hD hS 0 rfl rfl 1 (by decide) (hts (.fieldLink RX1 61 "BinaryFunctionsModel" "flag" "I") (by decide +kernel)) (fun _ h9 => h9) rfl (by decide +kernel) rfl rfl (Nat.le_of_ble_eq_true rfl) dX1_rounded_185 (fun H locs hP hD hS => ?_)
            have hP : va_P (dC, dI) vwCl [(h0, .inr (1, [.ref a0, .int ((f1 ||| (2 : Int32)) ||| (8 : Int32)), .int f2, .long f3, .long f4]))] H := hP
            have hD : va_D A [(h0, .inr (1, [.ref a0, .int ((f1 ||| (2 : Int32)) ||| (8 : Int32)), .int f2, .long f3, .long f4]))] := hD
            refine lv_lload hx hb dX1_rounded_188 (lv_at hl 1 rfl) ?_
            exact W.lret (v := (0 : Int64)) hx hb hr (fun t ht hW => ⟨⟨(0 : Int64), ((f1 ||| (2 : Int32)) ||| (8 : Int32), f2, f3, f4), rfl, by rw [bg_rounded, e4, bg_rounded_k1, if_pos h5, if_pos h6, if_neg h7, if_neg h15, if_neg h18], by rw [ht]; exact hP, va_K.moved hW.alike hK, hD⟩, hS.F ht⟩) hS.2.2 dX1_rounded_190
          · refine lv_iconst (v := 1) hx hb dX1_rounded_139 (by decide) ?_
            refine lv_goto (tgt := 144) hx hb dX1_rounded_140 (by decide) ?_
            refine lv_istore (nL := 14) (lv' := [(13, .int (1 : Int32)), (11, .long (0 : Int64)), (9, .long ((-1074 : Int64) - r4.2.1)), (0, .ref h0), (1, .long x1), (3, .long x2), (5, .long r4.1), (7, .long r4.2.1)]) hx hb dX1_rounded_144 hl (by decide) rfl (fun ls hl => ?_)
            refine lv_iload hx hb dX1_rounded_146 (lv_at hl 0 rfl) ?_
            refine lv_if_ne (tgt := 188) hx hb dX1_rounded_148 (by decide) (fun h21 => ?_) (fun h21 => ?_)
            rotate_left
            · exact absurd h21 (by decide)
            refine lv_lload hx hb dX1_rounded_188 (lv_at hl 1 rfl) ?_
            exact W.lret (v := (0 : Int64)) hx hb hr (fun t ht hW => ⟨⟨(0 : Int64), (f1, f2, f3, f4), rfl, by rw [bg_rounded, e4, bg_rounded_k1, if_pos h5, if_pos h6, if_neg h7, if_neg h15, if_pos h18], by rw [ht]; exact hP, va_K.moved hW.alike hK, hD⟩, hS.F ht⟩) hS.2.2 dX1_rounded_190
    · refine lv_lload hx hb dX1_rounded_76 (lv_at hl 3 rfl) ?_
      refine lv_lload hx hb dX1_rounded_78 (lv_at hl 4 rfl) ?_
      refine lv_l2i hx hb dX1_rounded_80 rfl ?_
      refine bw_csl (rest := []) ⟨hx, hb, hml, hown, hts⟩ (bd_exact l r4.1 r4.2.1.toInt32) (va_cwS 2 hts gX1_rounded_X1_exact rfl rfl rfl (by decide +kernel) ⟨Nat.le_of_ble_eq_true rfl, Nat.le_of_ble_eq_true rfl⟩) rfl hl.1 rfl (Nat.le_of_ble_eq_true rfl) dX1_rounded_81 (Nat.zero_le _) (Nat.zero_le _) ?_
      exact W.lret (v := bg_exact r4.1 r4.2.1.toInt32) hx hb hr (fun t ht hW => ⟨⟨bg_exact r4.1 r4.2.1.toInt32, (f1, f2, f3, f4), rfl, by rw [bg_rounded, e4, bg_rounded_k1, if_pos h5, if_neg h6], by rw [ht]; exact hP, va_K.moved hW.alike hK, hD⟩, hS.F ht⟩) hS.2.2 dX1_rounded_84
  · refine lv_aload_n hx hb dX1_rounded_52 rfl (lv_at hl 0 rfl) ?_
    refine lv_aload_n hx hb dX1_rounded_53 rfl (lv_at hl 0 rfl) ?_
    refine va_get (D := (dC, dI)) (ci := 1) (v := .int f1) (C := RX1) (T := TX1) (N := 5) hx hb hts hin0 hown hK hP 0 rfl rfl 1 (by decide) (hts (.fieldLink RX1 61 "BinaryFunctionsModel" "flag" "I") (by decide +kernel)) (fun _ h9 => h9) rfl dX1_rounded_54 ?_
    refine lv_bipush (v := 6) hx hb dX1_rounded_57 (by decide) ?_
    refine lv_ior hx hb dX1_rounded_59 ?_
    refine va_put (D := (dC, dI)) (ci := 1) (v := .int (f1 ||| (6 : Int32))) (ty := .int) (C := RX1) (T := TX1) (N := 5) hx hb hts hin0 tyX1 tyX1_ok nmX1 hown hK hP hD hS 0 rfl rfl 1 (by decide) (hts (.fieldLink RX1 61 "BinaryFunctionsModel" "flag" "I") (by decide +kernel)) (fun _ h9 => h9) rfl (by decide +kernel) rfl rfl (Nat.le_of_ble_eq_true rfl) dX1_rounded_60 (fun H locs hP hD hS => ?_)
    have hP : va_P (dC, dI) vwCl [(h0, .inr (1, [.ref a0, .int (f1 ||| (6 : Int32)), .int f2, .long f3, .long f4]))] H := hP
    have hD : va_D A [(h0, .inr (1, [.ref a0, .int (f1 ||| (6 : Int32)), .int f2, .long f3, .long f4]))] := hD
    refine lv_ldc2 hx hb hown (hts (.constantLong RX1 21 9218868437227405312) (by decide +kernel)) dX1_rounded_63 ?_
    exact W.lret (v := (9218868437227405312 : Int64)) hx hb hr (fun t ht hW => ⟨⟨(9218868437227405312 : Int64), (f1 ||| (6 : Int32), f2, f3, f4), rfl, by rw [bg_rounded, e4, bg_rounded_k1, if_neg h5], by rw [ht]; exact hP, va_K.moved hW.alike hK, hD⟩, hS.F ht⟩) hS.2.2 dX1_rounded_66
