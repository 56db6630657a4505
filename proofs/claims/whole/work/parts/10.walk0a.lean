/-! walks: the class, static methods -/
set_option maxHeartbeats 4000000 in
set_option maxRecDepth 100000 in
theorem bc_isRegister (l : Launch) (x1 : Int32) : Met l yX0_isRegister wsX0_isRegister ({ frames := 0, cells := 0, slots := 0, locals := 0 }) (va_Pc [.int x1] (fun _ => True)) (vp_Si (fun r => r = bf_isRegister x1)) 0 0 (fun _ => False) := by
  refine Met.ofW (cc := cX0_isRegister) (maxL := 1) (ret := (some .boolean)) (by decide) rfl ?_
  intro p e s m args below meth c s₁ B hml hv
  obtain ⟨rfl, -⟩ := hv
  have hx := B.exec
  have hb := B.bytes
  have hr := B.returns
  have hts := atoms_spec (ws := wsX0_isRegister) B.pre
  have hown : s.vm.findClass RX0 = some m.cls := findClass_of_methodNamed B.named
  have hlocks := B.notSynchronized
  have hl := lv_entry ([.int x1]) (n := 1) (Nat.le_of_ble_eq_true rfl)
  rw [lg_entry_eq]
  generalize (lg_sl ([.int x1]) ++ List.replicate (1 - (lg_sl ([.int x1])).length) Slot.unset).toArray = ls at hl ⊢
  have hl : lv_has ls 1 [(0, .int x1)] := hl
  refine lv_iload_n hx hb dX0_isRegister_0 rfl (lv_at hl 0 rfl) ?_
  refine lv_if_lt (tgt := 14) hx hb dX0_isRegister_1 (by decide) (fun h1 => ?_) (fun h1 => ?_)
  · refine lv_iconst (v := 0) hx hb dX0_isRegister_14 (by decide) ?_
    exact W.zret (v := (0 : Int32)) hx hb hr rfl (fun t ht hW => ⟨(0 : Int32), rfl, by rw [bf_isRegister, if_pos h1], ht⟩) (fun q h => absurd h List.not_mem_nil) dX0_isRegister_15
  · refine lv_iload_n hx hb dX0_isRegister_4 rfl (lv_at hl 0 rfl) ?_
    refine lv_bipush (v := 8) hx hb dX0_isRegister_5 (by decide) ?_
    refine lv_icmp_ge (tgt := 14) hx hb dX0_isRegister_7 (by decide) (fun h2 => ?_) (fun h2 => ?_)
    · refine lv_iconst (v := 0) hx hb dX0_isRegister_14 (by decide) ?_
      exact W.zret (v := (0 : Int32)) hx hb hr rfl (fun t ht hW => ⟨(0 : Int32), rfl, by rw [bf_isRegister, if_neg h1, if_pos h2], ht⟩) (fun q h => absurd h List.not_mem_nil) dX0_isRegister_15
    · refine lv_iconst (v := 1) hx hb dX0_isRegister_10 (by decide) ?_
      refine lv_goto (tgt := 15) hx hb dX0_isRegister_11 (by decide) ?_
      exact W.zret (v := (1 : Int32)) hx hb hr rfl (fun t ht hW => ⟨(1 : Int32), rfl, by rw [bf_isRegister, if_neg h1, if_neg h2], ht⟩) (fun q h => absurd h List.not_mem_nil) dX0_isRegister_15
set_option maxHeartbeats 4000000 in
set_option maxRecDepth 100000 in
theorem bc_isZero (l : Launch) (x1 : Int64) : Met l yX0_isZero wsX0_isZero ({ frames := 0, cells := 0, slots := 0, locals := 0 }) (va_Pc [.long x1] (fun _ => True)) (vp_Si (fun r => r = bf_isZero x1)) 0 0 (fun _ => False) := by
  refine Met.ofW (cc := cX0_isZero) (maxL := 2) (ret := (some .boolean)) (by decide) rfl ?_
  intro p e s m args below meth c s₁ B hml hv
  obtain ⟨rfl, -⟩ := hv
  have hx := B.exec
  have hb := B.bytes
  have hr := B.returns
  have hts := atoms_spec (ws := wsX0_isZero) B.pre
  have hown : s.vm.findClass RX0 = some m.cls := findClass_of_methodNamed B.named
  have hlocks := B.notSynchronized
  have hl := lv_entry ([.long x1]) (n := 2) (Nat.le_of_ble_eq_true rfl)
  rw [lg_entry_eq]
  generalize (lg_sl ([.long x1]) ++ List.replicate (2 - (lg_sl ([.long x1])).length) Slot.unset).toArray = ls at hl ⊢
  have hl : lv_has ls 2 [(0, .long x1)] := hl
  refine lv_lload_n hx hb dX0_isZero_0 rfl (lv_at hl 0 rfl) ?_
  refine lv_ldc2 hx hb hown (hts (.constantLong RX0 65 9223372036854775807) (by decide +kernel)) dX0_isZero_1 ?_
  refine lv_land hx hb dX0_isZero_4 ?_
  refine lv_lconst (v := 0) hx hb dX0_isZero_5 (by decide) ?_
  refine bw_lc_ne (tgt := 14) hx hb dX0_isZero_6 dX0_isZero_7 (by decide) (fun h1 => ?_) (fun h1 => ?_)
  · refine lv_iconst (v := 0) hx hb dX0_isZero_14 (by decide) ?_
    exact W.zret (v := (0 : Int32)) hx hb hr rfl (fun t ht hW => ⟨(0 : Int32), rfl, by rw [bf_isZero, if_neg h1], ht⟩) (fun q h => absurd h List.not_mem_nil) dX0_isZero_15
  · refine lv_iconst (v := 1) hx hb dX0_isZero_10 (by decide) ?_
    refine lv_goto (tgt := 15) hx hb dX0_isZero_11 (by decide) ?_
    exact W.zret (v := (1 : Int32)) hx hb hr rfl (fun t ht hW => ⟨(1 : Int32), rfl, by rw [bf_isZero, if_pos h1], ht⟩) (fun q h => absurd h List.not_mem_nil) dX0_isZero_15
set_option maxHeartbeats 4000000 in
set_option maxRecDepth 100000 in
theorem bc_isInfinity (l : Launch) (x1 : Int64) : Met l yX0_isInfinity wsX0_isInfinity ({ frames := 0, cells := 0, slots := 0, locals := 0 }) (va_Pc [.long x1] (fun _ => True)) (vp_Si (fun r => r = bf_isInfinity x1)) 0 0 (fun _ => False) := by
  refine Met.ofW (cc := cX0_isInfinity) (maxL := 2) (ret := (some .boolean)) (by decide) rfl ?_
  intro p e s m args below meth c s₁ B hml hv
  obtain ⟨rfl, -⟩ := hv
  have hx := B.exec
  have hb := B.bytes
  have hr := B.returns
  have hts := atoms_spec (ws := wsX0_isInfinity) B.pre
  have hown : s.vm.findClass RX0 = some m.cls := findClass_of_methodNamed B.named
  have hlocks := B.notSynchronized
  have hl := lv_entry ([.long x1]) (n := 2) (Nat.le_of_ble_eq_true rfl)
  rw [lg_entry_eq]
  generalize (lg_sl ([.long x1]) ++ List.replicate (2 - (lg_sl ([.long x1])).length) Slot.unset).toArray = ls at hl ⊢
  have hl : lv_has ls 2 [(0, .long x1)] := hl
  refine lv_lload_n hx hb dX0_isInfinity_0 rfl (lv_at hl 0 rfl) ?_
  refine lv_ldc2 hx hb hown (hts (.constantLong RX0 65 9223372036854775807) (by decide +kernel)) dX0_isInfinity_1 ?_
  refine lv_land hx hb dX0_isInfinity_4 ?_
  refine lv_ldc2 hx hb hown (hts (.constantLong RX0 67 9218868437227405312) (by decide +kernel)) dX0_isInfinity_5 ?_
  refine bw_lc_ne (tgt := 16) hx hb dX0_isInfinity_8 dX0_isInfinity_9 (by decide) (fun h1 => ?_) (fun h1 => ?_)
  · refine lv_iconst (v := 0) hx hb dX0_isInfinity_16 (by decide) ?_
    exact W.zret (v := (0 : Int32)) hx hb hr rfl (fun t ht hW => ⟨(0 : Int32), rfl, by rw [bf_isInfinity, if_neg h1], ht⟩) (fun q h => absurd h List.not_mem_nil) dX0_isInfinity_17
  · refine lv_iconst (v := 1) hx hb dX0_isInfinity_12 (by decide) ?_
    refine lv_goto (tgt := 17) hx hb dX0_isInfinity_13 (by decide) ?_
    exact W.zret (v := (1 : Int32)) hx hb hr rfl (fun t ht hW => ⟨(1 : Int32), rfl, by rw [bf_isInfinity, if_pos h1], ht⟩) (fun q h => absurd h List.not_mem_nil) dX0_isInfinity_17
set_option maxHeartbeats 4000000 in
set_option maxRecDepth 100000 in
theorem bc_isNan (l : Launch) (x1 : Int64) : Met l yX0_isNan wsX0_isNan ({ frames := 0, cells := 0, slots := 0, locals := 0 }) (va_Pc [.long x1] (fun _ => True)) (vp_Si (fun r => r = bf_isNan x1)) 0 0 (fun _ => False) := by
  refine Met.ofW (cc := cX0_isNan) (maxL := 2) (ret := (some .boolean)) (by decide) rfl ?_
  intro p e s m args below meth c s₁ B hml hv
  obtain ⟨rfl, -⟩ := hv
  have hx := B.exec
  have hb := B.bytes
  have hr := B.returns
  have hts := atoms_spec (ws := wsX0_isNan) B.pre
  have hown : s.vm.findClass RX0 = some m.cls := findClass_of_methodNamed B.named
  have hlocks := B.notSynchronized
  have hl := lv_entry ([.long x1]) (n := 2) (Nat.le_of_ble_eq_true rfl)
  rw [lg_entry_eq]
  generalize (lg_sl ([.long x1]) ++ List.replicate (2 - (lg_sl ([.long x1])).length) Slot.unset).toArray = ls at hl ⊢
  have hl : lv_has ls 2 [(0, .long x1)] := hl
  refine lv_lload_n hx hb dX0_isNan_0 rfl (lv_at hl 0 rfl) ?_
  refine lv_ldc2 hx hb hown (hts (.constantLong RX0 65 9223372036854775807) (by decide +kernel)) dX0_isNan_1 ?_
  refine lv_land hx hb dX0_isNan_4 ?_
  refine lv_ldc2 hx hb hown (hts (.constantLong RX0 67 9218868437227405312) (by decide +kernel)) dX0_isNan_5 ?_
  refine bw_lc_le (tgt := 16) hx hb dX0_isNan_8 dX0_isNan_9 (by decide) (fun h1 => ?_) (fun h1 => ?_)
  · refine lv_iconst (v := 0) hx hb dX0_isNan_16 (by decide) ?_
    exact W.zret (v := (0 : Int32)) hx hb hr rfl (fun t ht hW => ⟨(0 : Int32), rfl, by rw [bf_isNan, if_pos h1], ht⟩) (fun q h => absurd h List.not_mem_nil) dX0_isNan_17
  · refine lv_iconst (v := 1) hx hb dX0_isNan_12 (by decide) ?_
    refine lv_goto (tgt := 17) hx hb dX0_isNan_13 (by decide) ?_
    exact W.zret (v := (1 : Int32)) hx hb hr rfl (fun t ht hW => ⟨(1 : Int32), rfl, by rw [bf_isNan, if_neg h1], ht⟩) (fun q h => absurd h List.not_mem_nil) dX0_isNan_17
set_option maxHeartbeats 4000000 in
set_option maxRecDepth 100000 in
theorem bc_signOf (l : Launch) (x1 : Int64) : Met l yX0_signOf wsX0_signOf ({ frames := 0, cells := 0, slots := 0, locals := 0 }) (va_Pc [.long x1] (fun _ => True)) (vp_Sl (fun r => r = bf_signOf x1)) 0 0 (fun _ => False) := by
  refine Met.ofW (cc := cX0_signOf) (maxL := 2) (ret := (some .long)) (by decide) rfl ?_
  intro p e s m args below meth c s₁ B hml hv
  obtain ⟨rfl, -⟩ := hv
  have hx := B.exec
  have hb := B.bytes
  have hr := B.returns
  have hts := atoms_spec (ws := wsX0_signOf) B.pre
  have hown : s.vm.findClass RX0 = some m.cls := findClass_of_methodNamed B.named
  have hlocks := B.notSynchronized
  have hl := lv_entry ([.long x1]) (n := 2) (Nat.le_of_ble_eq_true rfl)
  rw [lg_entry_eq]
  generalize (lg_sl ([.long x1]) ++ List.replicate (2 - (lg_sl ([.long x1])).length) Slot.unset).toArray = ls at hl ⊢
  have hl : lv_has ls 2 [(0, .long x1)] := hl
  refine lv_lload_n hx hb dX0_signOf_0 rfl (lv_at hl 0 rfl) ?_
  refine lv_ldc2 hx hb hown (hts (.constantLong RX0 69 (-9223372036854775808)) (by decide +kernel)) dX0_signOf_1 ?_
  refine lv_land hx hb dX0_signOf_4 ?_
  exact W.lret (v := x1 &&& (-9223372036854775808 : Int64)) hx hb hr (fun t ht hW => ⟨x1 &&& (-9223372036854775808 : Int64), rfl, by rw [bf_signOf], ht⟩) (fun q h => absurd h List.not_mem_nil) dX0_signOf_5
set_option maxHeartbeats 4000000 in
set_option maxRecDepth 100000 in
theorem bc_sortOfAmount (l : Launch) (x1 : Int64) : Met l yX0_sortOfAmount wsX0_sortOfAmount ({ frames := 1, cells := 0, slots := 0, locals := 21 }) (va_Pc [.long x1] (fun _ => True)) (vp_Si (fun r => r = bf_sortOfAmount x1)) 0 0 (fun _ => False) := by
  refine Met.ofW (cc := cX0_sortOfAmount) (maxL := 2) (ret := (some .int)) (by decide) rfl ?_
  intro p e s m args below meth c s₁ B hml hv
  obtain ⟨rfl, -⟩ := hv
  have hx := B.exec
  have hb := B.bytes
  have hr := B.returns
  have hts := atoms_spec (ws := wsX0_sortOfAmount) B.pre
  have hown : s.vm.findClass RX0 = some m.cls := findClass_of_methodNamed B.named
  have hlocks := B.notSynchronized
  have hl := lv_entry ([.long x1]) (n := 2) (Nat.le_of_ble_eq_true rfl)
  rw [lg_entry_eq]
  generalize (lg_sl ([.long x1]) ++ List.replicate (2 - (lg_sl ([.long x1])).length) Slot.unset).toArray = ls at hl ⊢
  have hl : lv_has ls 2 [(0, .long x1)] := hl
  refine lv_lload_n hx hb dX0_sortOfAmount_0 rfl (lv_at hl 0 rfl) ?_
  refine bw_csi (rest := []) ⟨hx, hb, hml, hown, hts⟩ (bc_isZero l x1) (va_cwS 1 hts gX0_sortOfAmount_X0_isZero rfl rfl rfl (by decide +kernel) ⟨Nat.le_of_ble_eq_true rfl, Nat.le_of_ble_eq_true rfl⟩) rfl hl.1 rfl (Nat.le_of_ble_eq_true rfl) dX0_sortOfAmount_1 (Nat.zero_le _) (Nat.zero_le _) ?_
  refine lv_if_eq (tgt := 9) hx hb dX0_sortOfAmount_4 (by decide) (fun h1 => ?_) (fun h1 => ?_)
  · refine lv_lload_n hx hb dX0_sortOfAmount_9 rfl (lv_at hl 0 rfl) ?_
    refine bw_csi (rest := []) ⟨hx, hb, hml, hown, hts⟩ (bc_isInfinity l x1) (va_cwS 1 hts gX0_sortOfAmount_X0_isInfinity rfl rfl rfl (by decide +kernel) ⟨Nat.le_of_ble_eq_true rfl, Nat.le_of_ble_eq_true rfl⟩) rfl hl.1 rfl (Nat.le_of_ble_eq_true rfl) dX0_sortOfAmount_10 (Nat.zero_le _) (Nat.zero_le _) ?_
    refine lv_if_eq (tgt := 18) hx hb dX0_sortOfAmount_13 (by decide) (fun h2 => ?_) (fun h2 => ?_)
    · refine lv_lload_n hx hb dX0_sortOfAmount_18 rfl (lv_at hl 0 rfl) ?_
      refine bw_csi (rest := []) ⟨hx, hb, hml, hown, hts⟩ (bc_isNan l x1) (va_cwS 1 hts gX0_sortOfAmount_X0_isNan rfl rfl rfl (by decide +kernel) ⟨Nat.le_of_ble_eq_true rfl, Nat.le_of_ble_eq_true rfl⟩) rfl hl.1 rfl (Nat.le_of_ble_eq_true rfl) dX0_sortOfAmount_19 (Nat.zero_le _) (Nat.zero_le _) ?_
      refine lv_if_eq (tgt := 27) hx hb dX0_sortOfAmount_22 (by decide) (fun h3 => ?_) (fun h3 => ?_)
      · refine lv_lload_n hx hb dX0_sortOfAmount_27 rfl (lv_at hl 0 rfl) ?_
        refine lv_ldc2 hx hb hown (hts (.constantLong RX0 65 9223372036854775807) (by decide +kernel)) dX0_sortOfAmount_28 ?_
        refine lv_land hx hb dX0_sortOfAmount_31 ?_
        refine lv_ldc2 hx hb hown (hts (.constantLong RX0 71 4503599627370496) (by decide +kernel)) dX0_sortOfAmount_32 ?_
        refine bw_lc_ge (tgt := 43) hx hb dX0_sortOfAmount_35 dX0_sortOfAmount_36 (by decide) (fun h4 => ?_) (fun h4 => ?_)
        · refine lv_iconst (v := 2) hx hb dX0_sortOfAmount_43 (by decide) ?_
          exact W.iret (v := (2 : Int32)) hx hb hr (fun t ht hW => ⟨(2 : Int32), rfl, by rw [bf_sortOfAmount, if_pos h1, if_pos h2, if_pos h3, if_pos h4], ht⟩) (fun q h => absurd h List.not_mem_nil) dX0_sortOfAmount_44
        · refine lv_iconst (v := 1) hx hb dX0_sortOfAmount_39 (by decide) ?_
          refine lv_goto (tgt := 44) hx hb dX0_sortOfAmount_40 (by decide) ?_
          exact W.iret (v := (1 : Int32)) hx hb hr (fun t ht hW => ⟨(1 : Int32), rfl, by rw [bf_sortOfAmount, if_pos h1, if_pos h2, if_pos h3, if_neg h4], ht⟩) (fun q h => absurd h List.not_mem_nil) dX0_sortOfAmount_44
      · refine lv_iconst (v := 4) hx hb dX0_sortOfAmount_25 (by decide) ?_
        exact W.iret (v := (4 : Int32)) hx hb hr (fun t ht hW => ⟨(4 : Int32), rfl, by rw [bf_sortOfAmount, if_pos h1, if_pos h2, if_neg h3], ht⟩) (fun q h => absurd h List.not_mem_nil) dX0_sortOfAmount_26
    · refine lv_iconst (v := 3) hx hb dX0_sortOfAmount_16 (by decide) ?_
      exact W.iret (v := (3 : Int32)) hx hb hr (fun t ht hW => ⟨(3 : Int32), rfl, by rw [bf_sortOfAmount, if_pos h1, if_neg h2], ht⟩) (fun q h => absurd h List.not_mem_nil) dX0_sortOfAmount_17
  · refine lv_iconst (v := 0) hx hb dX0_sortOfAmount_7 (by decide) ?_
    exact W.iret (v := (0 : Int32)) hx hb hr (fun t ht hW => ⟨(0 : Int32), rfl, by rw [bf_sortOfAmount, if_neg h1], ht⟩) (fun q h => absurd h List.not_mem_nil) dX0_sortOfAmount_8
set_option maxHeartbeats 4000000 in
set_option maxRecDepth 100000 in
theorem bc_fieldE (l : Launch) (x1 : Int64) : Met l yX0_fieldE wsX0_fieldE ({ frames := 0, cells := 0, slots := 0, locals := 0 }) (va_Pc [.long x1] (fun _ => True)) (vp_Si (fun r => r = bf_fieldE x1)) 0 0 (fun _ => False) := by
  refine Met.ofW (cc := cX0_fieldE) (maxL := 2) (ret := (some .int)) (by decide) rfl ?_
  intro p e s m args below meth c s₁ B hml hv
  obtain ⟨rfl, -⟩ := hv
  have hx := B.exec
  have hb := B.bytes
  have hr := B.returns
  have hts := atoms_spec (ws := wsX0_fieldE) B.pre
  have hown : s.vm.findClass RX0 = some m.cls := findClass_of_methodNamed B.named
  have hlocks := B.notSynchronized
  have hl := lv_entry ([.long x1]) (n := 2) (Nat.le_of_ble_eq_true rfl)
  rw [lg_entry_eq]
  generalize (lg_sl ([.long x1]) ++ List.replicate (2 - (lg_sl ([.long x1])).length) Slot.unset).toArray = ls at hl ⊢
  have hl : lv_has ls 2 [(0, .long x1)] := hl
  refine lv_lload_n hx hb dX0_fieldE_0 rfl (lv_at hl 0 rfl) ?_
  refine lv_ldc2 hx hb hown (hts (.constantLong RX0 65 9223372036854775807) (by decide +kernel)) dX0_fieldE_1 ?_
  refine lv_land hx hb dX0_fieldE_4 ?_
  refine lv_bipush (v := 52) hx hb dX0_fieldE_5 (by decide) ?_
  refine lv_lshr hx hb dX0_fieldE_7 rfl ?_
  refine lv_l2i hx hb dX0_fieldE_8 rfl ?_
  exact W.iret (v := ((x1 &&& (9223372036854775807 : Int64)) >>> ((52 : Int32).toInt64 &&& 63)).toInt32) hx hb hr (fun t ht hW => ⟨((x1 &&& (9223372036854775807 : Int64)) >>> ((52 : Int32).toInt64 &&& 63)).toInt32, rfl, by rw [bf_fieldE], ht⟩) (fun q h => absurd h List.not_mem_nil) dX0_fieldE_9
set_option maxHeartbeats 4000000 in
set_option maxRecDepth 100000 in
theorem bc_significand (l : Launch) (x1 : Int64) : Met l yX0_significand wsX0_significand ({ frames := 1, cells := 0, slots := 0, locals := 21 }) (va_Pc [.long x1] (fun _ => True)) (vp_Sl (fun r => r = bf_significand x1)) 0 0 (fun _ => False) := by
  refine Met.ofW (cc := cX0_significand) (maxL := 4) (ret := (some .long)) (by decide) rfl ?_
  intro p e s m args below meth c s₁ B hml hv
  obtain ⟨rfl, -⟩ := hv
  have hx := B.exec
  have hb := B.bytes
  have hr := B.returns
  have hts := atoms_spec (ws := wsX0_significand) B.pre
  have hown : s.vm.findClass RX0 = some m.cls := findClass_of_methodNamed B.named
  have hlocks := B.notSynchronized
  have hl := lv_entry ([.long x1]) (n := 4) (Nat.le_of_ble_eq_true rfl)
  rw [lg_entry_eq]
  generalize (lg_sl ([.long x1]) ++ List.replicate (4 - (lg_sl ([.long x1])).length) Slot.unset).toArray = ls at hl ⊢
  have hl : lv_has ls 4 [(0, .long x1)] := hl
  refine lv_lload_n hx hb dX0_significand_0 rfl (lv_at hl 0 rfl) ?_
  refine lv_ldc2 hx hb hown (hts (.constantLong RX0 73 4503599627370495) (by decide +kernel)) dX0_significand_1 ?_
  refine lv_land hx hb dX0_significand_4 ?_
  refine lv_lstore_n (nL := 4) (lv' := [(2, .long (x1 &&& (4503599627370495 : Int64))), (0, .long x1)]) hx hb dX0_significand_5 rfl hl (by decide) rfl (fun ls hl => ?_)
  refine lv_lload_n hx hb dX0_significand_6 rfl (lv_at hl 1 rfl) ?_
  refine bw_csi (rest := []) ⟨hx, hb, hml, hown, hts⟩ (bc_fieldE l x1) (va_cwS 1 hts gX0_significand_X0_fieldE rfl rfl rfl (by decide +kernel) ⟨Nat.le_of_ble_eq_true rfl, Nat.le_of_ble_eq_true rfl⟩) rfl hl.1 rfl (Nat.le_of_ble_eq_true rfl) dX0_significand_7 (Nat.zero_le _) (Nat.zero_le _) ?_
  refine lv_if_ne (tgt := 17) hx hb dX0_significand_10 (by decide) (fun h1 => ?_) (fun h1 => ?_)
  · refine lv_ldc2 hx hb hown (hts (.constantLong RX0 71 4503599627370496) (by decide +kernel)) dX0_significand_17 ?_
    refine lv_lload_n hx hb dX0_significand_20 rfl (lv_at hl 0 rfl) ?_
    refine lv_ladd hx hb dX0_significand_21 ?_
    exact W.lret (v := (4503599627370496 : Int64) + (x1 &&& (4503599627370495 : Int64))) hx hb hr (fun t ht hW => ⟨(4503599627370496 : Int64) + (x1 &&& (4503599627370495 : Int64)), rfl, by rw [bf_significand, if_neg h1], ht⟩) (fun q h => absurd h List.not_mem_nil) dX0_significand_22
  · refine lv_lload_n hx hb dX0_significand_13 rfl (lv_at hl 0 rfl) ?_
    refine lv_goto (tgt := 22) hx hb dX0_significand_14 (by decide) ?_
    exact W.lret (v := x1 &&& (4503599627370495 : Int64)) hx hb hr (fun t ht hW => ⟨x1 &&& (4503599627370495 : Int64), rfl, by rw [bf_significand, if_pos h1], ht⟩) (fun q h => absurd h List.not_mem_nil) dX0_significand_22
set_option maxHeartbeats 4000000 in
set_option maxRecDepth 100000 in
theorem bc_power (l : Launch) (x1 : Int64) : Met l yX0_power wsX0_power ({ frames := 1, cells := 0, slots := 0, locals := 21 }) (va_Pc [.long x1] (fun _ => True)) (vp_Si (fun r => r = bf_power x1)) 0 0 (fun _ => False) := by
  refine Met.ofW (cc := cX0_power) (maxL := 2) (ret := (some .int)) (by decide) rfl ?_
  intro p e s m args below meth c s₁ B hml hv
  obtain ⟨rfl, -⟩ := hv
  have hx := B.exec
  have hb := B.bytes
  have hr := B.returns
  have hts := atoms_spec (ws := wsX0_power) B.pre
  have hown : s.vm.findClass RX0 = some m.cls := findClass_of_methodNamed B.named
  have hlocks := B.notSynchronized
  have hl := lv_entry ([.long x1]) (n := 2) (Nat.le_of_ble_eq_true rfl)
  rw [lg_entry_eq]
  generalize (lg_sl ([.long x1]) ++ List.replicate (2 - (lg_sl ([.long x1])).length) Slot.unset).toArray = ls at hl ⊢
  have hl : lv_has ls 2 [(0, .long x1)] := hl
  refine lv_lload_n hx hb dX0_power_0 rfl (lv_at hl 0 rfl) ?_
  refine bw_csi (rest := []) ⟨hx, hb, hml, hown, hts⟩ (bc_fieldE l x1) (va_cwS 1 hts gX0_power_X0_fieldE rfl rfl rfl (by decide +kernel) ⟨Nat.le_of_ble_eq_true rfl, Nat.le_of_ble_eq_true rfl⟩) rfl hl.1 rfl (Nat.le_of_ble_eq_true rfl) dX0_power_1 (Nat.zero_le _) (Nat.zero_le _) ?_
  refine lv_iconst (v := 1) hx hb dX0_power_4 (by decide) ?_
  refine va_mmax (rest := []) hx hb (hml.trans hl.1.symm) hown (hts (.methodLink RX0 78 Lib.Math.max.name) (by decide +kernel)) (hts (.static Lib.Math.max.name) (by decide +kernel)) (hts (.initialized "java/lang/Math") (by decide +kernel)) (hts (.code Lib.Math.max.name Lib.Math.max.code 2 (some .int)) (by decide +kernel)) (Nat.le_of_ble_eq_true rfl) (Nat.le_of_ble_eq_true rfl) (Nat.zero_le _) (Nat.zero_le _) dX0_power_5 ?_
  refine lv_iconst (v := 1) hx hb dX0_power_8 (by decide) ?_
  refine lv_isub hx hb dX0_power_9 ?_
  refine lv_sipush (v := -1074) hx hb dX0_power_10 (by decide) ?_
  refine lv_iadd hx hb dX0_power_13 ?_
  exact W.iret (v := ((if (bf_fieldE x1) < (1 : Int32) then (1 : Int32) else (bf_fieldE x1)) - (1 : Int32)) + (-1074 : Int32)) hx hb hr (fun t ht hW => ⟨((if (bf_fieldE x1) < (1 : Int32) then (1 : Int32) else (bf_fieldE x1)) - (1 : Int32)) + (-1074 : Int32), rfl, by rw [bf_power], ht⟩) (fun q h => absurd h List.not_mem_nil) dX0_power_14
set_option maxHeartbeats 4000000 in
set_option maxRecDepth 100000 in
theorem be_nlzI (l : Launch) (x1 : Int32) : Met l yJ6_numberOfLeadingZeros_0f7a4 wsJ6_numberOfLeadingZeros_0f7a4 ({ frames := 0, cells := 0, slots := 0, locals := 0 }) (va_Pc [.int x1] (fun _ => True)) (vp_Si (fun r => r = bj_nlzI x1)) 0 0 (fun _ => False) := by
  refine Met.ofW (cc := cJ6_numberOfLeadingZeros_0f7a4) (maxL := 2) (ret := (some .int)) (by decide) rfl ?_
  intro p e s m args below meth c s₁ B hml hv
  obtain ⟨rfl, -⟩ := hv
  have hx := B.exec
  have hb := B.bytes
  have hr := B.returns
  have hts := atoms_spec (ws := wsJ6_numberOfLeadingZeros_0f7a4) B.pre
  have hown : s.vm.findClass RJ6 = some m.cls := findClass_of_methodNamed B.named
  have hlocks := B.notSynchronized
  have hl := lv_entry ([.int x1]) (n := 2) (Nat.le_of_ble_eq_true rfl)
  rw [lg_entry_eq]
  generalize (lg_sl ([.int x1]) ++ List.replicate (2 - (lg_sl ([.int x1])).length) Slot.unset).toArray = ls at hl ⊢
  have hl : lv_has ls 2 [(0, .int x1)] := hl
  refine lv_iload_n hx hb dJ6_numberOfLeadingZeros_0f7a4_0 rfl (lv_at hl 0 rfl) ?_
  refine lv_if_gt (tgt := 15) hx hb dJ6_numberOfLeadingZeros_0f7a4_1 (by decide) (fun h1 => ?_) (fun h1 => ?_)
  · refine lv_bipush (v := 31) hx hb dJ6_numberOfLeadingZeros_0f7a4_15 (by decide) ?_
    refine lv_istore_n (nL := 2) (lv' := [(1, .int (31 : Int32)), (0, .int x1)]) hx hb dJ6_numberOfLeadingZeros_0f7a4_17 rfl hl (by decide) rfl (fun ls hl => ?_)
    refine lv_iload_n hx hb dJ6_numberOfLeadingZeros_0f7a4_18 rfl (lv_at hl 1 rfl) ?_
    refine lv_ldcw hx hb hown (hts (.constant RJ6 264 65536) (by decide +kernel)) dJ6_numberOfLeadingZeros_0f7a4_19 ?_
    refine lv_icmp_lt (tgt := 33) hx hb dJ6_numberOfLeadingZeros_0f7a4_22 (by decide) (fun h2 => ?_) (fun h2 => ?_)
    · refine lv_iload_n hx hb dJ6_numberOfLeadingZeros_0f7a4_33 rfl (lv_at hl 1 rfl) ?_
      refine lv_sipush (v := 256) hx hb dJ6_numberOfLeadingZeros_0f7a4_34 (by decide) ?_
      refine lv_icmp_lt (tgt := 48) hx hb dJ6_numberOfLeadingZeros_0f7a4_37 (by decide) (fun h3 => ?_) (fun h3 => ?_)
      · refine lv_iload_n hx hb dJ6_numberOfLeadingZeros_0f7a4_48 rfl (lv_at hl 1 rfl) ?_
        refine lv_bipush (v := 16) hx hb dJ6_numberOfLeadingZeros_0f7a4_49 (by decide) ?_
        refine lv_icmp_lt (tgt := 61) hx hb dJ6_numberOfLeadingZeros_0f7a4_51 (by decide) (fun h4 => ?_) (fun h4 => ?_)
        · refine lv_iload_n hx hb dJ6_numberOfLeadingZeros_0f7a4_61 rfl (lv_at hl 1 rfl) ?_
          refine lv_iconst (v := 4) hx hb dJ6_numberOfLeadingZeros_0f7a4_62 (by decide) ?_
          refine lv_icmp_lt (tgt := 73) hx hb dJ6_numberOfLeadingZeros_0f7a4_63 (by decide) (fun h5 => ?_) (fun h5 => ?_)
          · refine lv_iload_n hx hb dJ6_numberOfLeadingZeros_0f7a4_73 rfl (lv_at hl 0 rfl) ?_
            refine lv_iload_n hx hb dJ6_numberOfLeadingZeros_0f7a4_74 rfl (lv_at hl 1 rfl) ?_
            refine lv_iconst (v := 1) hx hb dJ6_numberOfLeadingZeros_0f7a4_75 (by decide) ?_
            refine lv_iushr hx hb dJ6_numberOfLeadingZeros_0f7a4_76 rfl ?_
            refine lv_isub hx hb dJ6_numberOfLeadingZeros_0f7a4_77 ?_
            exact W.iret (v := (31 : Int32) - ((x1.toUInt32 >>> ((1 : Int32).toUInt32 &&& Int32.toUInt32 31)).toInt32)) hx hb hr (fun t ht hW => ⟨(31 : Int32) - ((x1.toUInt32 >>> ((1 : Int32).toUInt32 &&& Int32.toUInt32 31)).toInt32), rfl, by rw [bj_nlzI, if_pos h1, if_pos h2, if_pos h3, if_pos h4, if_pos h5], ht⟩) (fun q h => absurd h List.not_mem_nil) dJ6_numberOfLeadingZeros_0f7a4_78
          · refine lv_iinc (nL := 2) (k := 0) (v := (31 : Int32) + (-2 : Int32)) (lv' := [(1, .int ((31 : Int32) + (-2 : Int32))), (0, .int x1)]) hx hb dJ6_numberOfLeadingZeros_0f7a4_66 hl rfl rfl (by decide) rfl (fun ls hl => ?_)
            refine lv_iload_n hx hb dJ6_numberOfLeadingZeros_0f7a4_69 rfl (lv_at hl 1 rfl) ?_
            refine lv_iconst (v := 2) hx hb dJ6_numberOfLeadingZeros_0f7a4_70 (by decide) ?_
            refine lv_iushr hx hb dJ6_numberOfLeadingZeros_0f7a4_71 rfl ?_
            refine lv_istore_n (nL := 2) (lv' := [(0, .int ((x1.toUInt32 >>> ((2 : Int32).toUInt32 &&& Int32.toUInt32 31)).toInt32)), (1, .int ((31 : Int32) + (-2 : Int32)))]) hx hb dJ6_numberOfLeadingZeros_0f7a4_72 rfl hl (by decide) rfl (fun ls hl => ?_)
            refine lv_iload_n hx hb dJ6_numberOfLeadingZeros_0f7a4_73 rfl (lv_at hl 1 rfl) ?_
            refine lv_iload_n hx hb dJ6_numberOfLeadingZeros_0f7a4_74 rfl (lv_at hl 0 rfl) ?_
            refine lv_iconst (v := 1) hx hb dJ6_numberOfLeadingZeros_0f7a4_75 (by decide) ?_
            refine lv_iushr hx hb dJ6_numberOfLeadingZeros_0f7a4_76 rfl ?_
            refine lv_isub hx hb dJ6_numberOfLeadingZeros_0f7a4_77 ?_
            exact W.iret (v := ((31 : Int32) + (-2 : Int32)) - ((((x1.toUInt32 >>> ((2 : Int32).toUInt32 &&& Int32.toUInt32 31)).toInt32).toUInt32 >>> ((1 : Int32).toUInt32 &&& Int32.toUInt32 31)).toInt32)) hx hb hr (fun t ht hW => ⟨((31 : Int32) + (-2 : Int32)) - ((((x1.toUInt32 >>> ((2 : Int32).toUInt32 &&& Int32.toUInt32 31)).toInt32).toUInt32 >>> ((1 : Int32).toUInt32 &&& Int32.toUInt32 31)).toInt32), rfl, by rw [bj_nlzI, if_pos h1, if_pos h2, if_pos h3, if_pos h4, if_neg h5], ht⟩) (fun q h => absurd h List.not_mem_nil) dJ6_numberOfLeadingZeros_0f7a4_78
        · refine lv_iinc (nL := 2) (k := 0) (v := (31 : Int32) + (-4 : Int32)) (lv' := [(1, .int ((31 : Int32) + (-4 : Int32))), (0, .int x1)]) hx hb dJ6_numberOfLeadingZeros_0f7a4_54 hl rfl rfl (by decide) rfl (fun ls hl => ?_)
          refine lv_iload_n hx hb dJ6_numberOfLeadingZeros_0f7a4_57 rfl (lv_at hl 1 rfl) ?_
          refine lv_iconst (v := 4) hx hb dJ6_numberOfLeadingZeros_0f7a4_58 (by decide) ?_
          refine lv_iushr hx hb dJ6_numberOfLeadingZeros_0f7a4_59 rfl ?_
          refine lv_istore_n (nL := 2) (lv' := [(0, .int ((x1.toUInt32 >>> ((4 : Int32).toUInt32 &&& Int32.toUInt32 31)).toInt32)), (1, .int ((31 : Int32) + (-4 : Int32)))]) hx hb dJ6_numberOfLeadingZeros_0f7a4_60 rfl hl (by decide) rfl (fun ls hl => ?_)
          refine lv_iload_n hx hb dJ6_numberOfLeadingZeros_0f7a4_61 rfl (lv_at hl 0 rfl) ?_
          refine lv_iconst (v := 4) hx hb dJ6_numberOfLeadingZeros_0f7a4_62 (by decide) ?_
          refine lv_icmp_lt (tgt := 73) hx hb dJ6_numberOfLeadingZeros_0f7a4_63 (by decide) (fun h6 => ?_) (fun h6 => ?_)
          · refine lv_iload_n hx hb dJ6_numberOfLeadingZeros_0f7a4_73 rfl (lv_at hl 1 rfl) ?_
            refine lv_iload_n hx hb dJ6_numberOfLeadingZeros_0f7a4_74 rfl (lv_at hl 0 rfl) ?_
            refine lv_iconst (v := 1) hx hb dJ6_numberOfLeadingZeros_0f7a4_75 (by decide) ?_
            refine lv_iushr hx hb dJ6_numberOfLeadingZeros_0f7a4_76 rfl ?_
            refine lv_isub hx hb dJ6_numberOfLeadingZeros_0f7a4_77 ?_
            exact W.iret (v := ((31 : Int32) + (-4 : Int32)) - ((((x1.toUInt32 >>> ((4 : Int32).toUInt32 &&& Int32.toUInt32 31)).toInt32).toUInt32 >>> ((1 : Int32).toUInt32 &&& Int32.toUInt32 31)).toInt32)) hx hb hr (fun t ht hW => ⟨((31 : Int32) + (-4 : Int32)) - ((((x1.toUInt32 >>> ((4 : Int32).toUInt32 &&& Int32.toUInt32 31)).toInt32).toUInt32 >>> ((1 : Int32).toUInt32 &&& Int32.toUInt32 31)).toInt32), rfl, by rw [bj_nlzI, if_pos h1, if_pos h2, if_pos h3, if_neg h4, if_pos h6], ht⟩) (fun q h => absurd h List.not_mem_nil) dJ6_numberOfLeadingZeros_0f7a4_78
          · refine lv_iinc (nL := 2) (k := 1) (v := ((31 : Int32) + (-4 : Int32)) + (-2 : Int32)) (lv' := [(1, .int (((31 : Int32) + (-4 : Int32)) + (-2 : Int32))), (0, .int ((x1.toUInt32 >>> ((4 : Int32).toUInt32 &&& Int32.toUInt32 31)).toInt32))]) hx hb dJ6_numberOfLeadingZeros_0f7a4_66 hl rfl rfl (by decide) rfl (fun ls hl => ?_)
            refine lv_iload_n hx hb dJ6_numberOfLeadingZeros_0f7a4_69 rfl (lv_at hl 1 rfl) ?_
            refine lv_iconst (v := 2) hx hb dJ6_numberOfLeadingZeros_0f7a4_70 (by decide) ?_
            refine lv_iushr hx hb dJ6_numberOfLeadingZeros_0f7a4_71 rfl ?_
            refine lv_istore_n (nL := 2) (lv' := [(0, .int ((((x1.toUInt32 >>> ((4 : Int32).toUInt32 &&& Int32.toUInt32 31)).toInt32).toUInt32 >>> ((2 : Int32).toUInt32 &&& Int32.toUInt32 31)).toInt32)), (1, .int (((31 : Int32) + (-4 : Int32)) + (-2 : Int32)))]) hx hb dJ6_numberOfLeadingZeros_0f7a4_72 rfl hl (by decide) rfl (fun ls hl => ?_)
            refine lv_iload_n hx hb dJ6_numberOfLeadingZeros_0f7a4_73 rfl (lv_at hl 1 rfl) ?_
            refine lv_iload_n hx hb dJ6_numberOfLeadingZeros_0f7a4_74 rfl (lv_at hl 0 rfl) ?_
            refine lv_iconst (v := 1) hx hb dJ6_numberOfLeadingZeros_0f7a4_75 (by decide) ?_
            refine lv_iushr hx hb dJ6_numberOfLeadingZeros_0f7a4_76 rfl ?_
            refine lv_isub hx hb dJ6_numberOfLeadingZeros_0f7a4_77 ?_
            exact W.iret (v := (((31 : Int32) + (-4 : Int32)) + (-2 : Int32)) - ((((((x1.toUInt32 >>> ((4 : Int32).toUInt32 &&& Int32.toUInt32 31)).toInt32).toUInt32 >>> ((2 : Int32).toUInt32 &&& Int32.toUInt32 31)).toInt32).toUInt32 >>> ((1 : Int32).toUInt32 &&& Int32.toUInt32 31)).toInt32)) hx hb hr (fun t ht hW => ⟨(((31 : Int32) + (-4 : Int32)) + (-2 : Int32)) - ((((((x1.toUInt32 >>> ((4 : Int32).toUInt32 &&& Int32.toUInt32 31)).toInt32).toUInt32 >>> ((2 : Int32).toUInt32 &&& Int32.toUInt32 31)).toInt32).toUInt32 >>> ((1 : Int32).toUInt32 &&& Int32.toUInt32 31)).toInt32), rfl, by rw [bj_nlzI, if_pos h1, if_pos h2, if_pos h3, if_neg h4, if_neg h6], ht⟩) (fun q h => absurd h List.not_mem_nil) dJ6_numberOfLeadingZeros_0f7a4_78
      · refine lv_iinc (nL := 2) (k := 0) (v := (31 : Int32) + (-8 : Int32)) (lv' := [(1, .int ((31 : Int32) + (-8 : Int32))), (0, .int x1)]) hx hb dJ6_numberOfLeadingZeros_0f7a4_40 hl rfl rfl (by decide) rfl (fun ls hl => ?_)
        refine lv_iload_n hx hb dJ6_numberOfLeadingZeros_0f7a4_43 rfl (lv_at hl 1 rfl) ?_
        refine lv_bipush (v := 8) hx hb dJ6_numberOfLeadingZeros_0f7a4_44 (by decide) ?_
        refine lv_iushr hx hb dJ6_numberOfLeadingZeros_0f7a4_46 rfl ?_
        refine lv_istore_n (nL := 2) (lv' := [(0, .int ((x1.toUInt32 >>> ((8 : Int32).toUInt32 &&& Int32.toUInt32 31)).toInt32)), (1, .int ((31 : Int32) + (-8 : Int32)))]) hx hb dJ6_numberOfLeadingZeros_0f7a4_47 rfl hl (by decide) rfl (fun ls hl => ?_)
        refine lv_iload_n hx hb dJ6_numberOfLeadingZeros_0f7a4_48 rfl (lv_at hl 0 rfl) ?_
        refine lv_bipush (v := 16) hx hb dJ6_numberOfLeadingZeros_0f7a4_49 (by decide) ?_
        refine lv_icmp_lt (tgt := 61) hx hb dJ6_numberOfLeadingZeros_0f7a4_51 (by decide) (fun h7 => ?_) (fun h7 => ?_)
        · refine lv_iload_n hx hb dJ6_numberOfLeadingZeros_0f7a4_61 rfl (lv_at hl 0 rfl) ?_
          refine lv_iconst (v := 4) hx hb dJ6_numberOfLeadingZeros_0f7a4_62 (by decide) ?_
          refine lv_icmp_lt (tgt := 73) hx hb dJ6_numberOfLeadingZeros_0f7a4_63 (by decide) (fun h8 => ?_) (fun h8 => ?_)
          · refine lv_iload_n hx hb dJ6_numberOfLeadingZeros_0f7a4_73 rfl (lv_at hl 1 rfl) ?_
            refine lv_iload_n hx hb dJ6_numberOfLeadingZeros_0f7a4_74 rfl (lv_at hl 0 rfl) ?_
            refine lv_iconst (v := 1) hx hb dJ6_numberOfLeadingZeros_0f7a4_75 (by decide) ?_
            refine lv_iushr hx hb dJ6_numberOfLeadingZeros_0f7a4_76 rfl ?_
            refine lv_isub hx hb dJ6_numberOfLeadingZeros_0f7a4_77 ?_
            exact W.iret (v := ((31 : Int32) + (-8 : Int32)) - ((((x1.toUInt32 >>> ((8 : Int32).toUInt32 &&& Int32.toUInt32 31)).toInt32).toUInt32 >>> ((1 : Int32).toUInt32 &&& Int32.toUInt32 31)).toInt32)) hx hb hr (fun t ht hW => ⟨((31 : Int32) + (-8 : Int32)) - ((((x1.toUInt32 >>> ((8 : Int32).toUInt32 &&& Int32.toUInt32 31)).toInt32).toUInt32 >>> ((1 : Int32).toUInt32 &&& Int32.toUInt32 31)).toInt32), rfl, by rw [bj_nlzI, if_pos h1, if_pos h2, if_neg h3, if_pos h7, if_pos h8], ht⟩) (fun q h => absurd h List.not_mem_nil) dJ6_numberOfLeadingZeros_0f7a4_78
          · refine lv_iinc (nL := 2) (k := 1) (v := ((31 : Int32) + (-8 : Int32)) + (-2 : Int32)) (lv' := [(1, .int (((31 : Int32) + (-8 : Int32)) + (-2 : Int32))), (0, .int ((x1.toUInt32 >>> ((8 : Int32).toUInt32 &&& Int32.toUInt32 31)).toInt32))]) hx hb dJ6_numberOfLeadingZeros_0f7a4_66 hl rfl rfl (by decide) rfl (fun ls hl => ?_)
            refine lv_iload_n hx hb dJ6_numberOfLeadingZeros_0f7a4_69 rfl (lv_at hl 1 rfl) ?_
            refine lv_iconst (v := 2) hx hb dJ6_numberOfLeadingZeros_0f7a4_70 (by decide) ?_
            refine lv_iushr hx hb dJ6_numberOfLeadingZeros_0f7a4_71 rfl ?_
            refine lv_istore_n (nL := 2) (lv' := [(0, .int ((((x1.toUInt32 >>> ((8 : Int32).toUInt32 &&& Int32.toUInt32 31)).toInt32).toUInt32 >>> ((2 : Int32).toUInt32 &&& Int32.toUInt32 31)).toInt32)), (1, .int (((31 : Int32) + (-8 : Int32)) + (-2 : Int32)))]) hx hb dJ6_numberOfLeadingZeros_0f7a4_72 rfl hl (by decide) rfl (fun ls hl => ?_)
            refine lv_iload_n hx hb dJ6_numberOfLeadingZeros_0f7a4_73 rfl (lv_at hl 1 rfl) ?_
            refine lv_iload_n hx hb dJ6_numberOfLeadingZeros_0f7a4_74 rfl (lv_at hl 0 rfl) ?_
            refine lv_iconst (v := 1) hx hb dJ6_numberOfLeadingZeros_0f7a4_75 (by decide) ?_
            refine lv_iushr hx hb dJ6_numberOfLeadingZeros_0f7a4_76 rfl ?_
            refine lv_isub hx hb dJ6_numberOfLeadingZeros_0f7a4_77 ?_
            exact W.iret (v := (((31 : Int32) + (-8 : Int32)) + (-2 : Int32)) - ((((((x1.toUInt32 >>> ((8 : Int32).toUInt32 &&& Int32.toUInt32 31)).toInt32).toUInt32 >>> ((2 : Int32).toUInt32 &&& Int32.toUInt32 31)).toInt32).toUInt32 >>> ((1 : Int32).toUInt32 &&& Int32.toUInt32 31)).toInt32)) hx hb hr (fun t ht hW => ⟨(((31 : Int32) + (-8 : Int32)) + (-2 : Int32)) - ((((((x1.toUInt32 >>> ((8 : Int32).toUInt32 &&& Int32.toUInt32 31)).toInt32).toUInt32 >>> ((2 : Int32).toUInt32 &&& Int32.toUInt32 31)).toInt32).toUInt32 >>> ((1 : Int32).toUInt32 &&& Int32.toUInt32 31)).toInt32), rfl, by rw [bj_nlzI, if_pos h1, if_pos h2, if_neg h3, if_pos h7, if_neg h8], ht⟩) (fun q h => absurd h List.not_mem_nil) dJ6_numberOfLeadingZeros_0f7a4_78
        · refine lv_iinc (nL := 2) (k := 1) (v := ((31 : Int32) + (-8 : Int32)) + (-4 : Int32)) (lv' := [(1, .int (((31 : Int32) + (-8 : Int32)) + (-4 : Int32))), (0, .int ((x1.toUInt32 >>> ((8 : Int32).toUInt32 &&& Int32.toUInt32 31)).toInt32))]) hx hb dJ6_numberOfLeadingZeros_0f7a4_54 hl rfl rfl (by decide) rfl (fun ls hl => ?_)
          refine lv_iload_n hx hb dJ6_numberOfLeadingZeros_0f7a4_57 rfl (lv_at hl 1 rfl) ?_
          refine lv_iconst (v := 4) hx hb dJ6_numberOfLeadingZeros_0f7a4_58 (by decide) ?_
          refine lv_iushr hx hb dJ6_numberOfLeadingZeros_0f7a4_59 rfl ?_
          refine lv_istore_n (nL := 2) (lv' := [(0, .int ((((x1.toUInt32 >>> ((8 : Int32).toUInt32 &&& Int32.toUInt32 31)).toInt32).toUInt32 >>> ((4 : Int32).toUInt32 &&& Int32.toUInt32 31)).toInt32)), (1, .int (((31 : Int32) + (-8 : Int32)) + (-4 : Int32)))]) hx hb dJ6_numberOfLeadingZeros_0f7a4_60 rfl hl (by decide) rfl (fun ls hl => ?_)
          refine lv_iload_n hx hb dJ6_numberOfLeadingZeros_0f7a4_61 rfl (lv_at hl 0 rfl) ?_
          refine lv_iconst (v := 4) hx hb dJ6_numberOfLeadingZeros_0f7a4_62 (by decide) ?_
          refine lv_icmp_lt (tgt := 73) hx hb dJ6_numberOfLeadingZeros_0f7a4_63 (by decide) (fun h9 => ?_) (fun h9 => ?_)
          · refine lv_iload_n hx hb dJ6_numberOfLeadingZeros_0f7a4_73 rfl (lv_at hl 1 rfl) ?_
            refine lv_iload_n hx hb dJ6_numberOfLeadingZeros_0f7a4_74 rfl (lv_at hl 0 rfl) ?_
            refine lv_iconst (v := 1) hx hb dJ6_numberOfLeadingZeros_0f7a4_75 (by decide) ?_
            refine lv_iushr hx hb dJ6_numberOfLeadingZeros_0f7a4_76 rfl ?_
            refine lv_isub hx hb dJ6_numberOfLeadingZeros_0f7a4_77 ?_
            exact W.iret (v := (((31 : Int32) + (-8 : Int32)) + (-4 : Int32)) - ((((((x1.toUInt32 >>> ((8 : Int32).toUInt32 &&& Int32.toUInt32 31)).toInt32).toUInt32 >>> ((4 : Int32).toUInt32 &&& Int32.toUInt32 31)).toInt32).toUInt32 >>> ((1 : Int32).toUInt32 &&& Int32.toUInt32 31)).toInt32)) hx hb hr (fun t ht hW => ⟨(((31 : Int32) + (-8 : Int32)) + (-4 : Int32)) - ((((((x1.toUInt32 >>> ((8 : Int32).toUInt32 &&& Int32.toUInt32 31)).toInt32).toUInt32 >>> ((4 : Int32).toUInt32 &&& Int32.toUInt32 31)).toInt32).toUInt32 >>> ((1 : Int32).toUInt32 &&& Int32.toUInt32 31)).toInt32), rfl, by rw [bj_nlzI, if_pos h1, if_pos h2, if_neg h3, if_neg h7, if_pos h9], ht⟩) (fun q h => absurd h List.not_mem_nil) dJ6_numberOfLeadingZeros_0f7a4_78
          · refine lv_iinc (nL := 2) (k := 1) (v := (((31 : Int32) + (-8 : Int32)) + (-4 : Int32)) + (-2 : Int32)) (lv' := [(1, .int ((((31 : Int32) + (-8 : Int32)) + (-4 : Int32)) + (-2 : Int32))), (0, .int ((((x1.toUInt32 >>> ((8 : Int32).toUInt32 &&& Int32.toUInt32 31)).toInt32).toUInt32 >>> ((4 : Int32).toUInt32 &&& Int32.toUInt32 31)).toInt32))]) hx hb dJ6_numberOfLeadingZeros_0f7a4_66 hl rfl rfl (by decide) rfl (fun ls hl => ?_)
            refine lv_iload_n hx hb dJ6_numberOfLeadingZeros_0f7a4_69 rfl (lv_at hl 1 rfl) ?_
            refine lv_iconst (v := 2) hx hb dJ6_numberOfLeadingZeros_0f7a4_70 (by decide) ?_
            refine lv_iushr hx hb dJ6_numberOfLeadingZeros_0f7a4_71 rfl ?_
            refine lv_istore_n (nL := 2) (lv' := [(0, .int ((((((x1.toUInt32 >>> ((8 : Int32).toUInt32 &&& Int32.toUInt32 31)).toInt32).toUInt32 >>> ((4 : Int32).toUInt32 &&& Int32.toUInt32 31)).toInt32).toUInt32 >>> ((2 : Int32).toUInt32 &&& Int32.toUInt32 31)).toInt32)), (1, .int ((((31 : Int32) + (-8 : Int32)) + (-4 : Int32)) + (-2 : Int32)))]) hx hb dJ6_numberOfLeadingZeros_0f7a4_72 rfl hl (by decide) rfl (fun ls hl => ?_)
            refine lv_iload_n hx hb dJ6_numberOfLeadingZeros_0f7a4_73 rfl (lv_at hl 1 rfl) ?_
            refine lv_iload_n hx hb dJ6_numberOfLeadingZeros_0f7a4_74 rfl (lv_at hl 0 rfl) ?_
            refine lv_iconst (v := 1) hx hb dJ6_numberOfLeadingZeros_0f7a4_75 (by decide) ?_
            refine lv_iushr hx hb dJ6_numberOfLeadingZeros_0f7a4_76 rfl ?_
            refine lv_isub hx hb dJ6_numberOfLeadingZeros_0f7a4_77 ?_
            exact W.iret (v := ((((31 : Int32) + (-8 : Int32)) + (-4 : Int32)) + (-2 : Int32)) - ((((((((x1.toUInt32 >>> ((8 : Int32).toUInt32 &&& Int32.toUInt32 31)).toInt32).toUInt32 >>> ((4 : Int32).toUInt32 &&& Int32.toUInt32 31)).toInt32).toUInt32 >>> ((2 : Int32).toUInt32 &&& Int32.toUInt32 31)).toInt32).toUInt32 >>> ((1 : Int32).toUInt32 &&& Int32.toUInt32 31)).toInt32)) hx hb hr (fun t ht hW => ⟨((((31 : Int32) + (-8 : Int32)) + (-4 : Int32)) + (-2 : Int32)) - ((((((((x1.toUInt32 >>> ((8 : Int32).toUInt32 &&& Int32.toUInt32 31)).toInt32).toUInt32 >>> ((4 : Int32).toUInt32 &&& Int32.toUInt32 31)).toInt32).toUInt32 >>> ((2 : Int32).toUInt32 &&& Int32.toUInt32 31)).toInt32).toUInt32 >>> ((1 : Int32).toUInt32 &&& Int32.toUInt32 31)).toInt32), rfl, by rw [bj_nlzI, if_pos h1, if_pos h2, if_neg h3, if_neg h7, if_neg h9], ht⟩) (fun q h => absurd h List.not_mem_nil) dJ6_numberOfLeadingZeros_0f7a4_78
    · refine lv_iinc (nL := 2) (k := 0) (v := (31 : Int32) + (-16 : Int32)) (lv' := [(1, .int ((31 : Int32) + (-16 : Int32))), (0, .int x1)]) hx hb dJ6_numberOfLeadingZeros_0f7a4_25 hl rfl rfl (by decide) rfl (fun ls hl => ?_)
      refine lv_iload_n hx hb dJ6_numberOfLeadingZeros_0f7a4_28 rfl (lv_at hl 1 rfl) ?_
      refine lv_bipush (v := 16) hx hb dJ6_numberOfLeadingZeros_0f7a4_29 (by decide) ?_
      refine lv_iushr hx hb dJ6_numberOfLeadingZeros_0f7a4_31 rfl ?_
      refine lv_istore_n (nL := 2) (lv' := [(0, .int ((x1.toUInt32 >>> ((16 : Int32).toUInt32 &&& Int32.toUInt32 31)).toInt32)), (1, .int ((31 : Int32) + (-16 : Int32)))]) hx hb dJ6_numberOfLeadingZeros_0f7a4_32 rfl hl (by decide) rfl (fun ls hl => ?_)
      refine lv_iload_n hx hb dJ6_numberOfLeadingZeros_0f7a4_33 rfl (lv_at hl 0 rfl) ?_
      refine lv_sipush (v := 256) hx hb dJ6_numberOfLeadingZeros_0f7a4_34 (by decide) ?_
      refine lv_icmp_lt (tgt := 48) hx hb dJ6_numberOfLeadingZeros_0f7a4_37 (by decide) (fun h10 => ?_) (fun h10 => ?_)
      · refine lv_iload_n hx hb dJ6_numberOfLeadingZeros_0f7a4_48 rfl (lv_at hl 0 rfl) ?_
        refine lv_bipush (v := 16) hx hb dJ6_numberOfLeadingZeros_0f7a4_49 (by decide) ?_
        refine lv_icmp_lt (tgt := 61) hx hb dJ6_numberOfLeadingZeros_0f7a4_51 (by decide) (fun h11 => ?_) (fun h11 => ?_)
        · refine lv_iload_n hx hb dJ6_numberOfLeadingZeros_0f7a4_61 rfl (lv_at hl 0 rfl) ?_
          refine lv_iconst (v := 4) hx hb dJ6_numberOfLeadingZeros_0f7a4_62 (by decide) ?_
          refine lv_icmp_lt (tgt := 73) hx hb dJ6_numberOfLeadingZeros_0f7a4_63 (by decide) (fun h12 => ?_) (fun h12 => ?_)
          · refine lv_iload_n hx hb dJ6_numberOfLeadingZeros_0f7a4_73 rfl (lv_at hl 1 rfl) ?_
            refine lv_iload_n hx hb dJ6_numberOfLeadingZeros_0f7a4_74 rfl (lv_at hl 0 rfl) ?_
            refine lv_iconst (v := 1) hx hb dJ6_numberOfLeadingZeros_0f7a4_75 (by decide) ?_
            refine lv_iushr hx hb dJ6_numberOfLeadingZeros_0f7a4_76 rfl ?_
            refine lv_isub hx hb dJ6_numberOfLeadingZeros_0f7a4_77 ?_
            exact W.iret (v := ((31 : Int32) + (-16 : Int32)) - ((((x1.toUInt32 >>> ((16 : Int32).toUInt32 &&& Int32.toUInt32 31)).toInt32).toUInt32 >>> ((1 : Int32).toUInt32 &&& Int32.toUInt32 31)).toInt32)) hx hb hr (fun t ht hW => ⟨((31 : Int32) + (-16 : Int32)) - ((((x1.toUInt32 >>> ((16 : Int32).toUInt32 &&& Int32.toUInt32 31)).toInt32).toUInt32 >>> ((1 : Int32).toUInt32 &&& Int32.toUInt32 31)).toInt32), rfl, by rw [bj_nlzI, if_pos h1, if_neg h2, if_pos h10, if_pos h11, if_pos h12], ht⟩) (fun q h => absurd h List.not_mem_nil) dJ6_numberOfLeadingZeros_0f7a4_78
          · refine lv_iinc (nL := 2) (k := 1) (v := ((31 : Int32) + (-16 : Int32)) + (-2 : Int32)) (lv' := [(1, .int (((31 : Int32) + (-16 : Int32)) + (-2 : Int32))), (0, .int ((x1.toUInt32 >>> ((16 : Int32).toUInt32 &&& Int32.toUInt32 31)).toInt32))]) hx hb dJ6_numberOfLeadingZeros_0f7a4_66 hl rfl rfl (by decide) rfl (fun ls hl => ?_)
            refine lv_iload_n hx hb dJ6_numberOfLeadingZeros_0f7a4_69 rfl (lv_at hl 1 rfl) ?_
            refine lv_iconst (v := 2) hx hb dJ6_numberOfLeadingZeros_0f7a4_70 (by decide) ?_
            refine lv_iushr hx hb dJ6_numberOfLeadingZeros_0f7a4_71 rfl ?_
            refine lv_istore_n (nL := 2) (lv' := [(0, .int ((((x1.toUInt32 >>> ((16 : Int32).toUInt32 &&& Int32.toUInt32 31)).toInt32).toUInt32 >>> ((2 : Int32).toUInt32 &&& Int32.toUInt32 31)).toInt32)), (1, .int (((31 : Int32) + (-16 : Int32)) + (-2 : Int32)))]) hx hb dJ6_numberOfLeadingZeros_0f7a4_72 rfl hl (by decide) rfl (fun ls hl => ?_)
            refine lv_iload_n hx hb dJ6_numberOfLeadingZeros_0f7a4_73 rfl (lv_at hl 1 rfl) ?_
            refine lv_iload_n hx hb dJ6_numberOfLeadingZeros_0f7a4_74 rfl (lv_at hl 0 rfl) ?_
            refine lv_iconst (v := 1) hx hb dJ6_numberOfLeadingZeros_0f7a4_75 (by decide) ?_
            refine lv_iushr hx hb dJ6_numberOfLeadingZeros_0f7a4_76 rfl ?_
            refine lv_isub hx hb dJ6_numberOfLeadingZeros_0f7a4_77 ?_
            exact W.iret (v := (((31 : Int32) + (-16 : Int32)) + (-2 : Int32)) - ((((((x1.toUInt32 >>> ((16 : Int32).toUInt32 &&& Int32.toUInt32 31)).toInt32).toUInt32 >>> ((2 : Int32).toUInt32 &&& Int32.toUInt32 31)).toInt32).toUInt32 >>> ((1 : Int32).toUInt32 &&& Int32.toUInt32 31)).toInt32)) hx hb hr (fun t ht hW => ⟨(((31 : Int32) + (-16 : Int32)) + (-2 : Int32)) - ((((((x1.toUInt32 >>> ((16 : Int32).toUInt32 &&& Int32.toUInt32 31)).toInt32).toUInt32 >>> ((2 : Int32).toUInt32 &&& Int32.toUInt32 31)).toInt32).toUInt32 >>> ((1 : Int32).toUInt32 &&& Int32.toUInt32 31)).toInt32), rfl, by rw [bj_nlzI, if_pos h1, if_neg h2, if_pos h10, if_pos h11, if_neg h12], ht⟩) (fun q h => absurd h List.not_mem_nil) dJ6_numberOfLeadingZeros_0f7a4_78
        · refine lv_iinc (nL := 2) (k := 1) (v := ((31 : Int32) + (-16 : Int32)) + (-4 : Int32)) (lv' := [(1, .int (((31 : Int32) + (-16 : Int32)) + (-4 : Int32))), (0, .int ((x1.toUInt32 >>> ((16 : Int32).toUInt32 &&& Int32.toUInt32 31)).toInt32))]) hx hb dJ6_numberOfLeadingZeros_0f7a4_54 hl rfl rfl (by decide) rfl (fun ls hl => ?_)
          refine lv_iload_n hx hb dJ6_numberOfLeadingZeros_0f7a4_57 rfl (lv_at hl 1 rfl) ?_
          refine lv_iconst (v := 4) hx hb dJ6_numberOfLeadingZeros_0f7a4_58 (by decide) ?_
          refine lv_iushr hx hb dJ6_numberOfLeadingZeros_0f7a4_59 rfl ?_
          refine lv_istore_n (nL := 2) (lv' := [(0, .int ((((x1.toUInt32 >>> ((16 : Int32).toUInt32 &&& Int32.toUInt32 31)).toInt32).toUInt32 >>> ((4 : Int32).toUInt32 &&& Int32.toUInt32 31)).toInt32)), (1, .int (((31 : Int32) + (-16 : Int32)) + (-4 : Int32)))]) hx hb dJ6_numberOfLeadingZeros_0f7a4_60 rfl hl (by decide) rfl (fun ls hl => ?_)
          refine lv_iload_n hx hb dJ6_numberOfLeadingZeros_0f7a4_61 rfl (lv_at hl 0 rfl) ?_
          refine lv_iconst (v := 4) hx hb dJ6_numberOfLeadingZeros_0f7a4_62 (by decide) ?_
          refine lv_icmp_lt (tgt := 73) hx hb dJ6_numberOfLeadingZeros_0f7a4_63 (by decide) (fun h13 => ?_) (fun h13 => ?_)
          · refine lv_iload_n hx hb dJ6_numberOfLeadingZeros_0f7a4_73 rfl (lv_at hl 1 rfl) ?_
            refine lv_iload_n hx hb dJ6_numberOfLeadingZeros_0f7a4_74 rfl (lv_at hl 0 rfl) ?_
            refine lv_iconst (v := 1) hx hb dJ6_numberOfLeadingZeros_0f7a4_75 (by decide) ?_
            refine lv_iushr hx hb dJ6_numberOfLeadingZeros_0f7a4_76 rfl ?_
            refine lv_isub hx hb dJ6_numberOfLeadingZeros_0f7a4_77 ?_
            exact W.iret (v := (((31 : Int32) + (-16 : Int32)) + (-4 : Int32)) - ((((((x1.toUInt32 >>> ((16 : Int32).toUInt32 &&& Int32.toUInt32 31)).toInt32).toUInt32 >>> ((4 : Int32).toUInt32 &&& Int32.toUInt32 31)).toInt32).toUInt32 >>> ((1 : Int32).toUInt32 &&& Int32.toUInt32 31)).toInt32)) hx hb hr (fun t ht hW => ⟨(((31 : Int32) + (-16 : Int32)) + (-4 : Int32)) - ((((((x1.toUInt32 >>> ((16 : Int32).toUInt32 &&& Int32.toUInt32 31)).toInt32).toUInt32 >>> ((4 : Int32).toUInt32 &&& Int32.toUInt32 31)).toInt32).toUInt32 >>> ((1 : Int32).toUInt32 &&& Int32.toUInt32 31)).toInt32), rfl, by rw [bj_nlzI, if_pos h1, if_neg h2, if_pos h10, if_neg h11, if_pos h13], ht⟩) (fun q h => absurd h List.not_mem_nil) dJ6_numberOfLeadingZeros_0f7a4_78
          · refine lv_iinc (nL := 2) (k := 1) (v := (((31 : Int32) + (-16 : Int32)) + (-4 : Int32)) + (-2 : Int32)) (lv' := [(1, .int ((((31 : Int32) + (-16 : Int32)) + (-4 : Int32)) + (-2 : Int32))), (0, .int ((((x1.toUInt32 >>> ((16 : Int32).toUInt32 &&& Int32.toUInt32 31)).toInt32).toUInt32 >>> ((4 : Int32).toUInt32 &&& Int32.toUInt32 31)).toInt32))]) hx hb dJ6_numberOfLeadingZeros_0f7a4_66 hl rfl rfl (by decide) rfl (fun ls hl => ?_)
            refine lv_iload_n hx hb dJ6_numberOfLeadingZeros_0f7a4_69 rfl (lv_at hl 1 rfl) ?_
            refine lv_iconst (v := 2) hx hb dJ6_numberOfLeadingZeros_0f7a4_70 (by decide) ?_
            refine lv_iushr hx hb dJ6_numberOfLeadingZeros_0f7a4_71 rfl ?_
            refine lv_istore_n (nL := 2) (lv' := [(0, .int ((((((x1.toUInt32 >>> ((16 : Int32).toUInt32 &&& Int32.toUInt32 31)).toInt32).toUInt32 >>> ((4 : Int32).toUInt32 &&& Int32.toUInt32 31)).toInt32).toUInt32 >>> ((2 : Int32).toUInt32 &&& Int32.toUInt32 31)).toInt32)), (1, .int ((((31 : Int32) + (-16 : Int32)) + (-4 : Int32)) + (-2 : Int32)))]) hx hb dJ6_numberOfLeadingZeros_0f7a4_72 rfl hl (by decide) rfl (fun ls hl => ?_)
            refine lv_iload_n hx hb dJ6_numberOfLeadingZeros_0f7a4_73 rfl (lv_at hl 1 rfl) ?_
            refine lv_iload_n hx hb dJ6_numberOfLeadingZeros_0f7a4_74 rfl (lv_at hl 0 rfl) ?_
            refine lv_iconst (v := 1) hx hb dJ6_numberOfLeadingZeros_0f7a4_75 (by decide) ?_
            refine lv_iushr hx hb dJ6_numberOfLeadingZeros_0f7a4_76 rfl ?_
            refine lv_isub hx hb dJ6_numberOfLeadingZeros_0f7a4_77 ?_
            exact W.iret (v := ((((31 : Int32) + (-16 : Int32)) + (-4 : Int32)) + (-2 : Int32)) - ((((((((x1.toUInt32 >>> ((16 : Int32).toUInt32 &&& Int32.toUInt32 31)).toInt32).toUInt32 >>> ((4 : Int32).toUInt32 &&& Int32.toUInt32 31)).toInt32).toUInt32 >>> ((2 : Int32).toUInt32 &&& Int32.toUInt32 31)).toInt32).toUInt32 >>> ((1 : Int32).toUInt32 &&& Int32.toUInt32 31)).toInt32)) hx hb hr (fun t ht hW => ⟨((((31 : Int32) + (-16 : Int32)) + (-4 : Int32)) + (-2 : Int32)) - ((((((((x1.toUInt32 >>> ((16 : Int32).toUInt32 &&& Int32.toUInt32 31)).toInt32).toUInt32 >>> ((4 : Int32).toUInt32 &&& Int32.toUInt32 31)).toInt32).toUInt32 >>> ((2 : Int32).toUInt32 &&& Int32.toUInt32 31)).toInt32).toUInt32 >>> ((1 : Int32).toUInt32 &&& Int32.toUInt32 31)).toInt32), rfl, by rw [bj_nlzI, if_pos h1, if_neg h2, if_pos h10, if_neg h11, if_neg h13], ht⟩) (fun q h => absurd h List.not_mem_nil) dJ6_numberOfLeadingZeros_0f7a4_78
      · refine lv_iinc (nL := 2) (k := 1) (v := ((31 : Int32) + (-16 : Int32)) + (-8 : Int32)) (lv' := [(1, .int (((31 : Int32) + (-16 : Int32)) + (-8 : Int32))), (0, .int ((x1.toUInt32 >>> ((16 : Int32).toUInt32 &&& Int32.toUInt32 31)).toInt32))]) hx hb dJ6_numberOfLeadingZeros_0f7a4_40 hl rfl rfl (by decide) rfl (fun ls hl => ?_)
        refine lv_iload_n hx hb dJ6_numberOfLeadingZeros_0f7a4_43 rfl (lv_at hl 1 rfl) ?_
        refine lv_bipush (v := 8) hx hb dJ6_numberOfLeadingZeros_0f7a4_44 (by decide) ?_
        refine lv_iushr hx hb dJ6_numberOfLeadingZeros_0f7a4_46 rfl ?_
        refine lv_istore_n (nL := 2) (lv' := [(0, .int ((((x1.toUInt32 >>> ((16 : Int32).toUInt32 &&& Int32.toUInt32 31)).toInt32).toUInt32 >>> ((8 : Int32).toUInt32 &&& Int32.toUInt32 31)).toInt32)), (1, .int (((31 : Int32) + (-16 : Int32)) + (-8 : Int32)))]) hx hb dJ6_numberOfLeadingZeros_0f7a4_47 rfl hl (by decide) rfl (fun ls hl => ?_)
        refine lv_iload_n hx hb dJ6_numberOfLeadingZeros_0f7a4_48 rfl (lv_at hl 0 rfl) ?_
        refine lv_bipush (v := 16) hx hb dJ6_numberOfLeadingZeros_0f7a4_49 (by decide) ?_
        refine lv_icmp_lt (tgt := 61) hx hb dJ6_numberOfLeadingZeros_0f7a4_51 (by decide) (fun h14 => ?_) (fun h14 => ?_)
        · refine lv_iload_n hx hb dJ6_numberOfLeadingZeros_0f7a4_61 rfl (lv_at hl 0 rfl) ?_
          refine lv_iconst (v := 4) hx hb dJ6_numberOfLeadingZeros_0f7a4_62 (by decide) ?_
          refine lv_icmp_lt (tgt := 73) hx hb dJ6_numberOfLeadingZeros_0f7a4_63 (by decide) (fun h15 => ?_) (fun h15 => ?_)
          · refine lv_iload_n hx hb dJ6_numberOfLeadingZeros_0f7a4_73 rfl (lv_at hl 1 rfl) ?_
            refine lv_iload_n hx hb dJ6_numberOfLeadingZeros_0f7a4_74 rfl (lv_at hl 0 rfl) ?_
            refine lv_iconst (v := 1) hx hb dJ6_numberOfLeadingZeros_0f7a4_75 (by decide) ?_
            refine lv_iushr hx hb dJ6_numberOfLeadingZeros_0f7a4_76 rfl ?_
            refine lv_isub hx hb dJ6_numberOfLeadingZeros_0f7a4_77 ?_
            exact W.iret (v := (((31 : Int32) + (-16 : Int32)) + (-8 : Int32)) - ((((((x1.toUInt32 >>> ((16 : Int32).toUInt32 &&& Int32.toUInt32 31)).toInt32).toUInt32 >>> ((8 : Int32).toUInt32 &&& Int32.toUInt32 31)).toInt32).toUInt32 >>> ((1 : Int32).toUInt32 &&& Int32.toUInt32 31)).toInt32)) hx hb hr (fun t ht hW => ⟨(((31 : Int32) + (-16 : Int32)) + (-8 : Int32)) - ((((((x1.toUInt32 >>> ((16 : Int32).toUInt32 &&& Int32.toUInt32 31)).toInt32).toUInt32 >>> ((8 : Int32).toUInt32 &&& Int32.toUInt32 31)).toInt32).toUInt32 >>> ((1 : Int32).toUInt32 &&& Int32.toUInt32 31)).toInt32), rfl, by rw [bj_nlzI, if_pos h1, if_neg h2, if_neg h10, if_pos h14, if_pos h15], ht⟩) (fun q h => absurd h List.not_mem_nil) dJ6_numberOfLeadingZeros_0f7a4_78
          · refine lv_iinc (nL := 2) (k := 1) (v := (((31 : Int32) + (-16 : Int32)) + (-8 : Int32)) + (-2 : Int32)) (lv' := [(1, .int ((((31 : Int32) + (-16 : Int32)) + (-8 : Int32)) + (-2 : Int32))), (0, .int ((((x1.toUInt32 >>> ((16 : Int32).toUInt32 &&& Int32.toUInt32 31)).toInt32).toUInt32 >>> ((8 : Int32).toUInt32 &&& Int32.toUInt32 31)).toInt32))]) hx hb dJ6_numberOfLeadingZeros_0f7a4_66 hl rfl rfl (by decide) rfl (fun ls hl => ?_)
            refine lv_iload_n hx hb dJ6_numberOfLeadingZeros_0f7a4_69 rfl (lv_at hl 1 rfl) ?_
            refine lv_iconst (v := 2) hx hb dJ6_numberOfLeadingZeros_0f7a4_70 (by decide) ?_
            refine lv_iushr hx hb dJ6_numberOfLeadingZeros_0f7a4_71 rfl ?_
            refine lv_istore_n (nL := 2) (lv' := [(0, .int ((((((x1.toUInt32 >>> ((16 : Int32).toUInt32 &&& Int32.toUInt32 31)).toInt32).toUInt32 >>> ((8 : Int32).toUInt32 &&& Int32.toUInt32 31)).toInt32).toUInt32 >>> ((2 : Int32).toUInt32 &&& Int32.toUInt32 31)).toInt32)), (1, .int ((((31 : Int32) + (-16 : Int32)) + (-8 : Int32)) + (-2 : Int32)))]) hx hb dJ6_numberOfLeadingZeros_0f7a4_72 rfl hl (by decide) rfl (fun ls hl => ?_)
            refine lv_iload_n hx hb dJ6_numberOfLeadingZeros_0f7a4_73 rfl (lv_at hl 1 rfl) ?_
            refine lv_iload_n hx hb dJ6_numberOfLeadingZeros_0f7a4_74 rfl (lv_at hl 0 rfl) ?_
            refine lv_iconst (v := 1) hx hb dJ6_numberOfLeadingZeros_0f7a4_75 (by decide) ?_
            refine lv_iushr hx hb dJ6_numberOfLeadingZeros_0f7a4_76 rfl ?_
            refine lv_isub hx hb dJ6_numberOfLeadingZeros_0f7a4_77 ?_
            exact W.iret (v := ((((31 : Int32) + (-16 : Int32)) + (-8 : Int32)) + (-2 : Int32)) - ((((((((x1.toUInt32 >>> ((16 : Int32).toUInt32 &&& Int32.toUInt32 31)).toInt32).toUInt32 >>> ((8 : Int32).toUInt32 &&& Int32.toUInt32 31)).toInt32).toUInt32 >>> ((2 : Int32).toUInt32 &&& Int32.toUInt32 31)).toInt32).toUInt32 >>> ((1 : Int32).toUInt32 &&& Int32.toUInt32 31)).toInt32)) hx hb hr (fun t ht hW => ⟨((((31 : Int32) + (-16 : Int32)) + (-8 : Int32)) + (-2 : Int32)) - ((((((((x1.toUInt32 >>> ((16 : Int32).toUInt32 &&& Int32.toUInt32 31)).toInt32).toUInt32 >>> ((8 : Int32).toUInt32 &&& Int32.toUInt32 31)).toInt32).toUInt32 >>> ((2 : Int32).toUInt32 &&& Int32.toUInt32 31)).toInt32).toUInt32 >>> ((1 : Int32).toUInt32 &&& Int32.toUInt32 31)).toInt32), rfl, by rw [bj_nlzI, if_pos h1, if_neg h2, if_neg h10, if_pos h14, if_neg h15], ht⟩) (fun q h => absurd h List.not_mem_nil) dJ6_numberOfLeadingZeros_0f7a4_78
        · refine lv_iinc (nL := 2) (k := 1) (v := (((31 : Int32) + (-16 : Int32)) + (-8 : Int32)) + (-4 : Int32)) (lv' := [(1, .int ((((31 : Int32) + (-16 : Int32)) + (-8 : Int32)) + (-4 : Int32))), (0, .int ((((x1.toUInt32 >>> ((16 : Int32).toUInt32 &&& Int32.toUInt32 31)).toInt32).toUInt32 >>> ((8 : Int32).toUInt32 &&& Int32.toUInt32 31)).toInt32))]) hx hb dJ6_numberOfLeadingZeros_0f7a4_54 hl rfl rfl (by decide) rfl (fun ls hl => ?_)
          refine lv_iload_n hx hb dJ6_numberOfLeadingZeros_0f7a4_57 rfl (lv_at hl 1 rfl) ?_
          refine lv_iconst (v := 4) hx hb dJ6_numberOfLeadingZeros_0f7a4_58 (by decide) ?_
          refine lv_iushr hx hb dJ6_numberOfLeadingZeros_0f7a4_59 rfl ?_
          refine lv_istore_n (nL := 2) (lv' := [(0, .int ((((((x1.toUInt32 >>> ((16 : Int32).toUInt32 &&& Int32.toUInt32 31)).toInt32).toUInt32 >>> ((8 : Int32).toUInt32 &&& Int32.toUInt32 31)).toInt32).toUInt32 >>> ((4 : Int32).toUInt32 &&& Int32.toUInt32 31)).toInt32)), (1, .int ((((31 : Int32) + (-16 : Int32)) + (-8 : Int32)) + (-4 : Int32)))]) hx hb dJ6_numberOfLeadingZeros_0f7a4_60 rfl hl (by decide) rfl (fun ls hl => ?_)
          refine lv_iload_n hx hb dJ6_numberOfLeadingZeros_0f7a4_61 rfl (lv_at hl 0 rfl) ?_
          refine lv_iconst (v := 4) hx hb dJ6_numberOfLeadingZeros_0f7a4_62 (by decide) ?_
          refine lv_icmp_lt (tgt := 73) hx hb dJ6_numberOfLeadingZeros_0f7a4_63 (by decide) (fun h16 => ?_) (fun h16 => ?_)
          · refine lv_iload_n hx hb dJ6_numberOfLeadingZeros_0f7a4_73 rfl (lv_at hl 1 rfl) ?_
            refine lv_iload_n hx hb dJ6_numberOfLeadingZeros_0f7a4_74 rfl (lv_at hl 0 rfl) ?_
            refine lv_iconst (v := 1) hx hb dJ6_numberOfLeadingZeros_0f7a4_75 (by decide) ?_
            refine lv_iushr hx hb dJ6_numberOfLeadingZeros_0f7a4_76 rfl ?_
            refine lv_isub hx hb dJ6_numberOfLeadingZeros_0f7a4_77 ?_
            exact W.iret (v := ((((31 : Int32) + (-16 : Int32)) + (-8 : Int32)) + (-4 : Int32)) - ((((((((x1.toUInt32 >>> ((16 : Int32).toUInt32 &&& Int32.toUInt32 31)).toInt32).toUInt32 >>> ((8 : Int32).toUInt32 &&& Int32.toUInt32 31)).toInt32).toUInt32 >>> ((4 : Int32).toUInt32 &&& Int32.toUInt32 31)).toInt32).toUInt32 >>> ((1 : Int32).toUInt32 &&& Int32.toUInt32 31)).toInt32)) hx hb hr (fun t ht hW => ⟨((((31 : Int32) + (-16 : Int32)) + (-8 : Int32)) + (-4 : Int32)) - ((((((((x1.toUInt32 >>> ((16 : Int32).toUInt32 &&& Int32.toUInt32 31)).toInt32).toUInt32 >>> ((8 : Int32).toUInt32 &&& Int32.toUInt32 31)).toInt32).toUInt32 >>> ((4 : Int32).toUInt32 &&& Int32.toUInt32 31)).toInt32).toUInt32 >>> ((1 : Int32).toUInt32 &&& Int32.toUInt32 31)).toInt32), rfl, by rw [bj_nlzI, if_pos h1, if_neg h2, if_neg h10, if_neg h14, if_pos h16], ht⟩) (fun q h => absurd h List.not_mem_nil) dJ6_numberOfLeadingZeros_0f7a4_78
          · refine lv_iinc (nL := 2) (k := 1) (v := ((((31 : Int32) + (-16 : Int32)) + (-8 : Int32)) + (-4 : Int32)) + (-2 : Int32)) (lv' := [(1, .int (((((31 : Int32) + (-16 : Int32)) + (-8 : Int32)) + (-4 : Int32)) + (-2 : Int32))), (0, .int ((((((x1.toUInt32 >>> ((16 : Int32).toUInt32 &&& Int32.toUInt32 31)).toInt32).toUInt32 >>> ((8 : Int32).toUInt32 &&& Int32.toUInt32 31)).toInt32).toUInt32 >>> ((4 : Int32).toUInt32 &&& Int32.toUInt32 31)).toInt32))]) hx hb dJ6_numberOfLeadingZeros_0f7a4_66 hl rfl rfl (by decide) rfl (fun ls hl => ?_)
            refine lv_iload_n hx hb dJ6_numberOfLeadingZeros_0f7a4_69 rfl (lv_at hl 1 rfl) ?_
            refine lv_iconst (v := 2) hx hb dJ6_numberOfLeadingZeros_0f7a4_70 (by decide) ?_
            refine lv_iushr hx hb dJ6_numberOfLeadingZeros_0f7a4_71 rfl ?_
            refine lv_istore_n (nL := 2) (lv' := [(0, .int ((((((((x1.toUInt32 >>> ((16 : Int32).toUInt32 &&& Int32.toUInt32 31)).toInt32).toUInt32 >>> ((8 : Int32).toUInt32 &&& Int32.toUInt32 31)).toInt32).toUInt32 >>> ((4 : Int32).toUInt32 &&& Int32.toUInt32 31)).toInt32).toUInt32 >>> ((2 : Int32).toUInt32 &&& Int32.toUInt32 31)).toInt32)), (1, .int (((((31 : Int32) + (-16 : Int32)) + (-8 : Int32)) + (-4 : Int32)) + (-2 : Int32)))]) hx hb dJ6_numberOfLeadingZeros_0f7a4_72 rfl hl (by decide) rfl (fun ls hl => ?_)
            refine lv_iload_n hx hb dJ6_numberOfLeadingZeros_0f7a4_73 rfl (lv_at hl 1 rfl) ?_
            refine lv_iload_n hx hb dJ6_numberOfLeadingZeros_0f7a4_74 rfl (lv_at hl 0 rfl) ?_
            refine lv_iconst (v := 1) hx hb dJ6_numberOfLeadingZeros_0f7a4_75 (by decide) ?_
            refine lv_iushr hx hb dJ6_numberOfLeadingZeros_0f7a4_76 rfl ?_
            refine lv_isub hx hb dJ6_numberOfLeadingZeros_0f7a4_77 ?_
            exact W.iret (v := (((((31 : Int32) + (-16 : Int32)) + (-8 : Int32)) + (-4 : Int32)) + (-2 : Int32)) - ((((((((((x1.toUInt32 >>> ((16 : Int32).toUInt32 &&& Int32.toUInt32 31)).toInt32).toUInt32 >>> ((8 : Int32).toUInt32 &&& Int32.toUInt32 31)).toInt32).toUInt32 >>> ((4 : Int32).toUInt32 &&& Int32.toUInt32 31)).toInt32).toUInt32 >>> ((2 : Int32).toUInt32 &&& Int32.toUInt32 31)).toInt32).toUInt32 >>> ((1 : Int32).toUInt32 &&& Int32.toUInt32 31)).toInt32)) hx hb hr (fun t ht hW => ⟨(((((31 : Int32) + (-16 : Int32)) + (-8 : Int32)) + (-4 : Int32)) + (-2 : Int32)) - ((((((((((x1.toUInt32 >>> ((16 : Int32).toUInt32 &&& Int32.toUInt32 31)).toInt32).toUInt32 >>> ((8 : Int32).toUInt32 &&& Int32.toUInt32 31)).toInt32).toUInt32 >>> ((4 : Int32).toUInt32 &&& Int32.toUInt32 31)).toInt32).toUInt32 >>> ((2 : Int32).toUInt32 &&& Int32.toUInt32 31)).toInt32).toUInt32 >>> ((1 : Int32).toUInt32 &&& Int32.toUInt32 31)).toInt32), rfl, by rw [bj_nlzI, if_pos h1, if_neg h2, if_neg h10, if_neg h14, if_neg h16], ht⟩) (fun q h => absurd h List.not_mem_nil) dJ6_numberOfLeadingZeros_0f7a4_78
  · refine lv_iload_n hx hb dJ6_numberOfLeadingZeros_0f7a4_4 rfl (lv_at hl 0 rfl) ?_
    refine lv_if_ne (tgt := 13) hx hb dJ6_numberOfLeadingZeros_0f7a4_5 (by decide) (fun h17 => ?_) (fun h17 => ?_)
    · refine lv_iconst (v := 0) hx hb dJ6_numberOfLeadingZeros_0f7a4_13 (by decide) ?_
      exact W.iret (v := (0 : Int32)) hx hb hr (fun t ht hW => ⟨(0 : Int32), rfl, by rw [bj_nlzI, if_neg h1, if_neg h17], ht⟩) (fun q h => absurd h List.not_mem_nil) dJ6_numberOfLeadingZeros_0f7a4_14
    · refine lv_bipush (v := 32) hx hb dJ6_numberOfLeadingZeros_0f7a4_8 (by decide) ?_
      refine lv_goto (tgt := 14) hx hb dJ6_numberOfLeadingZeros_0f7a4_10 (by decide) ?_
      exact W.iret (v := (32 : Int32)) hx hb hr (fun t ht hW => ⟨(32 : Int32), rfl, by rw [bj_nlzI, if_neg h1, if_pos h17], ht⟩) (fun q h => absurd h List.not_mem_nil) dJ6_numberOfLeadingZeros_0f7a4_14
set_option maxHeartbeats 4000000 in
set_option maxRecDepth 100000 in
theorem be_nlzL (l : Launch) (x1 : Int64) : Met l yJ13_numberOfLeadingZeros_95d88 wsJ13_numberOfLeadingZeros_95d88 ({ frames := 1, cells := 0, slots := 0, locals := 21 }) (va_Pc [.long x1] (fun _ => True)) (vp_Si (fun r => r = bj_nlzL x1)) 0 0 (fun _ => False) := by
  refine Met.ofW (cc := cJ13_numberOfLeadingZeros_95d88) (maxL := 3) (ret := (some .int)) (by decide) rfl ?_
  intro p e s m args below meth c s₁ B hml hv
  obtain ⟨rfl, -⟩ := hv
  have hx := B.exec
  have hb := B.bytes
  have hr := B.returns
  have hts := atoms_spec (ws := wsJ13_numberOfLeadingZeros_95d88) B.pre
  have hown : s.vm.findClass RJ13 = some m.cls := findClass_of_methodNamed B.named
  have hlocks := B.notSynchronized
  have hl := lv_entry ([.long x1]) (n := 3) (Nat.le_of_ble_eq_true rfl)
  rw [lg_entry_eq]
  generalize (lg_sl ([.long x1]) ++ List.replicate (3 - (lg_sl ([.long x1])).length) Slot.unset).toArray = ls at hl ⊢
  have hl : lv_has ls 3 [(0, .long x1)] := hl
  refine lv_lload_n hx hb dJ13_numberOfLeadingZeros_95d88_0 rfl (lv_at hl 0 rfl) ?_
  refine lv_bipush (v := 32) hx hb dJ13_numberOfLeadingZeros_95d88_1 (by decide) ?_
  refine lv_lushr hx hb dJ13_numberOfLeadingZeros_95d88_3 rfl ?_
  refine lv_l2i hx hb dJ13_numberOfLeadingZeros_95d88_4 rfl ?_
  refine lv_istore_n (nL := 3) (lv' := [(2, .int (((x1.toUInt64 >>> ((32 : Int32).toInt64.toUInt64 &&& Int64.toUInt64 63)).toInt64).toInt32)), (0, .long x1)]) hx hb dJ13_numberOfLeadingZeros_95d88_5 rfl hl (by decide) rfl (fun ls hl => ?_)
  refine lv_iload_n hx hb dJ13_numberOfLeadingZeros_95d88_6 rfl (lv_at hl 0 rfl) ?_
  refine lv_if_ne (tgt := 21) hx hb dJ13_numberOfLeadingZeros_95d88_7 (by decide) (fun h1 => ?_) (fun h1 => ?_)
  · refine lv_iload_n hx hb dJ13_numberOfLeadingZeros_95d88_21 rfl (lv_at hl 0 rfl) ?_
    refine bw_csi (rest := []) ⟨hx, hb, hml, hown, hts⟩ (be_nlzI l (((x1.toUInt64 >>> ((32 : Int32).toInt64.toUInt64 &&& Int64.toUInt64 63)).toInt64).toInt32)) (va_cwS 1 hts gJ13_numberOfLeadingZeros_95d88_J6_numberOfLeadingZeros_0f7a4 rfl rfl rfl (by decide +kernel) ⟨Nat.le_of_ble_eq_true rfl, Nat.le_of_ble_eq_true rfl⟩) rfl hl.1 rfl (Nat.le_of_ble_eq_true rfl) dJ13_numberOfLeadingZeros_95d88_22 (Nat.zero_le _) (Nat.zero_le _) ?_
    exact W.iret (v := bj_nlzI (((x1.toUInt64 >>> ((32 : Int32).toInt64.toUInt64 &&& Int64.toUInt64 63)).toInt64).toInt32)) hx hb hr (fun t ht hW => ⟨bj_nlzI (((x1.toUInt64 >>> ((32 : Int32).toInt64.toUInt64 &&& Int64.toUInt64 63)).toInt64).toInt32), rfl, by rw [bj_nlzL, if_neg h1], ht⟩) (fun q h => absurd h List.not_mem_nil) dJ13_numberOfLeadingZeros_95d88_25
  · refine lv_bipush (v := 32) hx hb dJ13_numberOfLeadingZeros_95d88_10 (by decide) ?_
    refine lv_lload_n hx hb dJ13_numberOfLeadingZeros_95d88_12 rfl (lv_at hl 1 rfl) ?_
    refine lv_l2i hx hb dJ13_numberOfLeadingZeros_95d88_13 rfl ?_
    refine bw_csi (rest := [.int (32 : Int32)]) ⟨hx, hb, hml, hown, hts⟩ (be_nlzI l x1.toInt32) (va_cwS 1 hts gJ13_numberOfLeadingZeros_95d88_J6_numberOfLeadingZeros_0f7a4 rfl rfl rfl (by decide +kernel) ⟨Nat.le_of_ble_eq_true rfl, Nat.le_of_ble_eq_true rfl⟩) rfl hl.1 rfl (Nat.le_of_ble_eq_true rfl) dJ13_numberOfLeadingZeros_95d88_14 (Nat.zero_le _) (Nat.zero_le _) ?_
    refine lv_iadd hx hb dJ13_numberOfLeadingZeros_95d88_17 ?_
    refine lv_goto (tgt := 25) hx hb dJ13_numberOfLeadingZeros_95d88_18 (by decide) ?_
    exact W.iret (v := (32 : Int32) + (bj_nlzI x1.toInt32)) hx hb hr (fun t ht hW => ⟨(32 : Int32) + (bj_nlzI x1.toInt32), rfl, by rw [bj_nlzL, if_pos h1], ht⟩) (fun q h => absurd h List.not_mem_nil) dJ13_numberOfLeadingZeros_95d88_25
set_option maxHeartbeats 4000000 in
set_option maxRecDepth 100000 in
theorem bc_spareRoom (l : Launch) (x1 : Int64) : Met l yX0_spareRoom wsX0_spareRoom ({ frames := 2, cells := 0, slots := 0, locals := 44 }) (va_Pc [.long x1] (fun _ => True)) (vp_Si (fun r => r = bf_spareRoom x1)) 0 0 (fun _ => False) := by
  refine Met.ofW (cc := cX0_spareRoom) (maxL := 2) (ret := (some .int)) (by decide) rfl ?_
  intro p e s m args below meth c s₁ B hml hv
  obtain ⟨rfl, -⟩ := hv
  have hx := B.exec
  have hb := B.bytes
  have hr := B.returns
  have hts := atoms_spec (ws := wsX0_spareRoom) B.pre
  have hown : s.vm.findClass RX0 = some m.cls := findClass_of_methodNamed B.named
  have hlocks := B.notSynchronized
  have hl := lv_entry ([.long x1]) (n := 2) (Nat.le_of_ble_eq_true rfl)
  rw [lg_entry_eq]
  generalize (lg_sl ([.long x1]) ++ List.replicate (2 - (lg_sl ([.long x1])).length) Slot.unset).toArray = ls at hl ⊢
  have hl : lv_has ls 2 [(0, .long x1)] := hl
  refine lv_lload_n hx hb dX0_spareRoom_0 rfl (lv_at hl 0 rfl) ?_
  refine bw_csl (rest := []) ⟨hx, hb, hml, hown, hts⟩ (bc_significand l x1) (va_cwS 1 hts gX0_spareRoom_X0_significand rfl rfl rfl (by decide +kernel) ⟨Nat.le_of_ble_eq_true rfl, Nat.le_of_ble_eq_true rfl⟩) rfl hl.1 rfl (Nat.le_of_ble_eq_true rfl) dX0_spareRoom_1 (Nat.zero_le _) (Nat.zero_le _) ?_
  refine bw_csi (rest := []) ⟨hx, hb, hml, hown, hts⟩ (be_nlzL l (bf_significand x1)) (va_cwS 1 hts gX0_spareRoom_J13_numberOfLeadingZeros_95d88 rfl rfl rfl (by decide +kernel) ⟨Nat.le_of_ble_eq_true rfl, Nat.le_of_ble_eq_true rfl⟩) rfl hl.1 rfl (Nat.le_of_ble_eq_true rfl) dX0_spareRoom_4 (Nat.zero_le _) (Nat.zero_le _) ?_
  refine lv_bipush (v := 11) hx hb dX0_spareRoom_7 (by decide) ?_
  refine lv_isub hx hb dX0_spareRoom_9 ?_
  exact W.iret (v := (bj_nlzL (bf_significand x1)) - (11 : Int32)) hx hb hr (fun t ht hW => ⟨(bj_nlzL (bf_significand x1)) - (11 : Int32), rfl, by rw [bf_spareRoom], ht⟩) (fun q h => absurd h List.not_mem_nil) dX0_spareRoom_10
set_option maxHeartbeats 4000000 in
set_option maxRecDepth 100000 in
theorem bc_fullSignificand (l : Launch) (x1 : Int64) : Met l yX0_fullSignificand wsX0_fullSignificand ({ frames := 3, cells := 0, slots := 0, locals := 65 }) (va_Pc [.long x1] (fun _ => True)) (vp_Sl (fun r => r = bf_fullSignificand x1)) 0 0 (fun _ => False) := by
  refine Met.ofW (cc := cX0_fullSignificand) (maxL := 2) (ret := (some .long)) (by decide) rfl ?_
  intro p e s m args below meth c s₁ B hml hv
  obtain ⟨rfl, -⟩ := hv
  have hx := B.exec
  have hb := B.bytes
  have hr := B.returns
  have hts := atoms_spec (ws := wsX0_fullSignificand) B.pre
  have hown : s.vm.findClass RX0 = some m.cls := findClass_of_methodNamed B.named
  have hlocks := B.notSynchronized
  have hl := lv_entry ([.long x1]) (n := 2) (Nat.le_of_ble_eq_true rfl)
  rw [lg_entry_eq]
  generalize (lg_sl ([.long x1]) ++ List.replicate (2 - (lg_sl ([.long x1])).length) Slot.unset).toArray = ls at hl ⊢
  have hl : lv_has ls 2 [(0, .long x1)] := hl
  refine lv_lload_n hx hb dX0_fullSignificand_0 rfl (lv_at hl 0 rfl) ?_
  refine bw_csl (rest := []) ⟨hx, hb, hml, hown, hts⟩ (bc_significand l x1) (va_cwS 1 hts gX0_fullSignificand_X0_significand rfl rfl rfl (by decide +kernel) ⟨Nat.le_of_ble_eq_true rfl, Nat.le_of_ble_eq_true rfl⟩) rfl hl.1 rfl (Nat.le_of_ble_eq_true rfl) dX0_fullSignificand_1 (Nat.zero_le _) (Nat.zero_le _) ?_
  refine lv_lload_n hx hb dX0_fullSignificand_4 rfl (lv_at hl 0 rfl) ?_
  refine bw_csi (rest := [.long (bf_significand x1)]) ⟨hx, hb, hml, hown, hts⟩ (bc_spareRoom l x1) (va_cwS 1 hts gX0_fullSignificand_X0_spareRoom rfl rfl rfl (by decide +kernel) ⟨Nat.le_of_ble_eq_true rfl, Nat.le_of_ble_eq_true rfl⟩) rfl hl.1 rfl (Nat.le_of_ble_eq_true rfl) dX0_fullSignificand_5 (Nat.zero_le _) (Nat.zero_le _) ?_
  refine lv_lshl hx hb dX0_fullSignificand_8 rfl ?_
  exact W.lret (v := (bf_significand x1) <<< ((bf_spareRoom x1).toInt64 &&& 63)) hx hb hr (fun t ht hW => ⟨(bf_significand x1) <<< ((bf_spareRoom x1).toInt64 &&& 63), rfl, by rw [bf_fullSignificand], ht⟩) (fun q h => absurd h List.not_mem_nil) dX0_fullSignificand_9
set_option maxHeartbeats 4000000 in
set_option maxRecDepth 100000 in
theorem bc_fullPower (l : Launch) (x1 : Int64) : Met l yX0_fullPower wsX0_fullPower ({ frames := 3, cells := 0, slots := 0, locals := 65 }) (va_Pc [.long x1] (fun _ => True)) (vp_Si (fun r => r = bf_fullPower x1)) 0 0 (fun _ => False) := by
  refine Met.ofW (cc := cX0_fullPower) (maxL := 2) (ret := (some .int)) (by decide) rfl ?_
  intro p e s m args below meth c s₁ B hml hv
  obtain ⟨rfl, -⟩ := hv
  have hx := B.exec
  have hb := B.bytes
  have hr := B.returns
  have hts := atoms_spec (ws := wsX0_fullPower) B.pre
  have hown : s.vm.findClass RX0 = some m.cls := findClass_of_methodNamed B.named
  have hlocks := B.notSynchronized
  have hl := lv_entry ([.long x1]) (n := 2) (Nat.le_of_ble_eq_true rfl)
  rw [lg_entry_eq]
  generalize (lg_sl ([.long x1]) ++ List.replicate (2 - (lg_sl ([.long x1])).length) Slot.unset).toArray = ls at hl ⊢
  have hl : lv_has ls 2 [(0, .long x1)] := hl
  refine lv_lload_n hx hb dX0_fullPower_0 rfl (lv_at hl 0 rfl) ?_
  refine bw_csi (rest := []) ⟨hx, hb, hml, hown, hts⟩ (bc_power l x1) (va_cwS 1 hts gX0_fullPower_X0_power rfl rfl rfl (by decide +kernel) ⟨Nat.le_of_ble_eq_true rfl, Nat.le_of_ble_eq_true rfl⟩) rfl hl.1 rfl (Nat.le_of_ble_eq_true rfl) dX0_fullPower_1 (Nat.zero_le _) (Nat.zero_le _) ?_
  refine lv_lload_n hx hb dX0_fullPower_4 rfl (lv_at hl 0 rfl) ?_
  refine bw_csi (rest := [.int (bf_power x1)]) ⟨hx, hb, hml, hown, hts⟩ (bc_spareRoom l x1) (va_cwS 1 hts gX0_fullPower_X0_spareRoom rfl rfl rfl (by decide +kernel) ⟨Nat.le_of_ble_eq_true rfl, Nat.le_of_ble_eq_true rfl⟩) rfl hl.1 rfl (Nat.le_of_ble_eq_true rfl) dX0_fullPower_5 (Nat.zero_le _) (Nat.zero_le _) ?_
  refine lv_isub hx hb dX0_fullPower_8 ?_
  exact W.iret (v := (bf_power x1) - (bf_spareRoom x1)) hx hb hr (fun t ht hW => ⟨(bf_power x1) - (bf_spareRoom x1), rfl, by rw [bf_fullPower], ht⟩) (fun q h => absurd h List.not_mem_nil) dX0_fullPower_9
set_option maxHeartbeats 4000000 in
set_option maxRecDepth 100000 in
theorem bc_pattern (l : Launch) (x1 : Int64) (x2 : Int32) : Met l yX0_pattern wsX0_pattern ({ frames := 2, cells := 0, slots := 0, locals := 43 }) (va_Pc [.long x1, .int x2] (fun _ => True)) (vp_Sl (fun r => r = bf_pattern x1 x2)) 0 0 (fun _ => False) := by
  refine Met.ofW (cc := cX0_pattern) (maxL := 5) (ret := (some .long)) (by decide) rfl ?_
  intro p e s m args below meth c s₁ B hml hv
  obtain ⟨rfl, -⟩ := hv
  have hx := B.exec
  have hb := B.bytes
  have hr := B.returns
  have hts := atoms_spec (ws := wsX0_pattern) B.pre
  have hown : s.vm.findClass RX0 = some m.cls := findClass_of_methodNamed B.named
  have hlocks := B.notSynchronized
  have hl := lv_entry ([.long x1, .int x2]) (n := 5) (Nat.le_of_ble_eq_true rfl)
  rw [lg_entry_eq]
  generalize (lg_sl ([.long x1, .int x2]) ++ List.replicate (5 - (lg_sl ([.long x1, .int x2])).length) Slot.unset).toArray = ls at hl ⊢
  have hl : lv_has ls 5 [(0, .long x1), (2, .int x2)] := hl
  refine lv_lload_n hx hb dX0_pattern_0 rfl (lv_at hl 0 rfl) ?_
  refine lv_lconst (v := 0) hx hb dX0_pattern_1 (by decide) ?_
  refine bw_lc_ne (tgt := 8) hx hb dX0_pattern_2 dX0_pattern_3 (by decide) (fun h1 => ?_) (fun h1 => ?_)
  · refine lv_lload_n hx hb dX0_pattern_8 rfl (lv_at hl 0 rfl) ?_
    refine bw_csi (rest := []) ⟨hx, hb, hml, hown, hts⟩ (be_nlzL l x1) (va_cwS 1 hts gX0_pattern_J13_numberOfLeadingZeros_95d88 rfl rfl rfl (by decide +kernel) ⟨Nat.le_of_ble_eq_true rfl, Nat.le_of_ble_eq_true rfl⟩) rfl hl.1 rfl (Nat.le_of_ble_eq_true rfl) dX0_pattern_9 (Nat.zero_le _) (Nat.zero_le _) ?_
    refine lv_bipush (v := 11) hx hb dX0_pattern_12 (by decide) ?_
    refine lv_isub hx hb dX0_pattern_14 ?_
    refine lv_istore_n (nL := 5) (lv' := [(3, .int ((bj_nlzL x1) - (11 : Int32))), (0, .long x1), (2, .int x2)]) hx hb dX0_pattern_15 rfl hl (by decide) rfl (fun ls hl => ?_)
    refine lv_iload_n hx hb dX0_pattern_16 rfl (lv_at hl 0 rfl) ?_
    refine lv_iload_n hx hb dX0_pattern_17 rfl (lv_at hl 2 rfl) ?_
    refine lv_sipush (v := -1074) hx hb dX0_pattern_18 (by decide) ?_
    refine lv_isub hx hb dX0_pattern_21 ?_
    refine va_mmin (rest := []) hx hb (hml.trans hl.1.symm) hown (hts (.methodLink RX0 98 Lib.Math.min.name) (by decide +kernel)) (hts (.static Lib.Math.min.name) (by decide +kernel)) (hts (.initialized "java/lang/Math") (by decide +kernel)) (hts (.code Lib.Math.min.name Lib.Math.min.code 2 (some .int)) (by decide +kernel)) (Nat.le_of_ble_eq_true rfl) (Nat.le_of_ble_eq_true rfl) (Nat.zero_le _) (Nat.zero_le _) dX0_pattern_22 ?_
    refine lv_istore (nL := 5) (lv' := [(4, .int (if (x2 - (-1074 : Int32)) < ((bj_nlzL x1) - (11 : Int32)) then (x2 - (-1074 : Int32)) else ((bj_nlzL x1) - (11 : Int32)))), (3, .int ((bj_nlzL x1) - (11 : Int32))), (0, .long x1), (2, .int x2)]) hx hb dX0_pattern_25 hl (by decide) rfl (fun ls hl => ?_)
    refine lv_iload_n hx hb dX0_pattern_27 rfl (lv_at hl 3 rfl) ?_
    refine lv_iload hx hb dX0_pattern_28 (lv_at hl 0 rfl) ?_
    refine lv_isub hx hb dX0_pattern_30 ?_
    refine lv_sipush (v := -1074) hx hb dX0_pattern_31 (by decide) ?_
    refine lv_isub hx hb dX0_pattern_34 ?_
    refine lv_i2l hx hb dX0_pattern_35 rfl ?_
    refine lv_bipush (v := 52) hx hb dX0_pattern_36 (by decide) ?_
    refine lv_lshl hx hb dX0_pattern_38 rfl ?_
    refine lv_lload_n hx hb dX0_pattern_39 rfl (lv_at hl 2 rfl) ?_
    refine lv_iload hx hb dX0_pattern_40 (lv_at hl 0 rfl) ?_
    refine lv_lshl hx hb dX0_pattern_42 rfl ?_
    refine lv_ladd hx hb dX0_pattern_43 ?_
    exact W.lret (v := ((((x2 - (if (x2 - (-1074 : Int32)) < ((bj_nlzL x1) - (11 : Int32)) then (x2 - (-1074 : Int32)) else ((bj_nlzL x1) - (11 : Int32)))) - (-1074 : Int32)).toInt64) <<< ((52 : Int32).toInt64 &&& 63)) + (x1 <<< ((if (x2 - (-1074 : Int32)) < ((bj_nlzL x1) - (11 : Int32)) then (x2 - (-1074 : Int32)) else ((bj_nlzL x1) - (11 : Int32))).toInt64 &&& 63))) hx hb hr (fun t ht hW => ⟨((((x2 - (if (x2 - (-1074 : Int32)) < ((bj_nlzL x1) - (11 : Int32)) then (x2 - (-1074 : Int32)) else ((bj_nlzL x1) - (11 : Int32)))) - (-1074 : Int32)).toInt64) <<< ((52 : Int32).toInt64 &&& 63)) + (x1 <<< ((if (x2 - (-1074 : Int32)) < ((bj_nlzL x1) - (11 : Int32)) then (x2 - (-1074 : Int32)) else ((bj_nlzL x1) - (11 : Int32))).toInt64 &&& 63)), rfl, by rw [bf_pattern, if_neg h1], ht⟩) (fun q h => absurd h List.not_mem_nil) dX0_pattern_44
  · refine lv_lconst (v := 0) hx hb dX0_pattern_6 (by decide) ?_
    exact W.lret (v := (0 : Int64)) hx hb hr (fun t ht hW => ⟨(0 : Int64), rfl, by rw [bf_pattern, if_pos h1], ht⟩) (fun q h => absurd h List.not_mem_nil) dX0_pattern_7
set_option maxHeartbeats 4000000 in
set_option maxRecDepth 100000 in
theorem bc_nearestShifted (l : Launch) (x1 : Int64) (x2 : Int32) : Met l yX0_nearestShifted wsX0_nearestShifted ({ frames := 0, cells := 0, slots := 0, locals := 0 }) (va_Pc [.long x1, .int x2] (fun _ => True)) (vp_Sl (fun r => r = bf_nearestShifted x1 x2)) 0 0 (fun _ => False) := by
  refine Met.ofW (cc := cX0_nearestShifted) (maxL := 10) (ret := (some .long)) (by decide) rfl ?_
  intro p e s m args below meth c s₁ B hml hv
  obtain ⟨rfl, -⟩ := hv
  have hx := B.exec
  have hb := B.bytes
  have hr := B.returns
  have hts := atoms_spec (ws := wsX0_nearestShifted) B.pre
  have hown : s.vm.findClass RX0 = some m.cls := findClass_of_methodNamed B.named
  have hlocks := B.notSynchronized
  have hl := lv_entry ([.long x1, .int x2]) (n := 10) (Nat.le_of_ble_eq_true rfl)
  rw [lg_entry_eq]
  generalize (lg_sl ([.long x1, .int x2]) ++ List.replicate (10 - (lg_sl ([.long x1, .int x2])).length) Slot.unset).toArray = ls at hl ⊢
  have hl : lv_has ls 10 [(0, .long x1), (2, .int x2)] := hl
  refine lv_lload_n hx hb dX0_nearestShifted_0 rfl (lv_at hl 0 rfl) ?_
  refine lv_iload_n hx hb dX0_nearestShifted_1 rfl (lv_at hl 1 rfl) ?_
  refine lv_lshr hx hb dX0_nearestShifted_2 rfl ?_
  refine lv_lstore_n (nL := 10) (lv' := [(3, .long (x1 >>> (x2.toInt64 &&& 63))), (0, .long x1), (2, .int x2)]) hx hb dX0_nearestShifted_3 rfl hl (by decide) rfl (fun ls hl => ?_)
  refine lv_lload_n hx hb dX0_nearestShifted_4 rfl (lv_at hl 1 rfl) ?_
  refine lv_lload_n hx hb dX0_nearestShifted_5 rfl (lv_at hl 0 rfl) ?_
  refine lv_iload_n hx hb dX0_nearestShifted_6 rfl (lv_at hl 2 rfl) ?_
  refine lv_lshl hx hb dX0_nearestShifted_7 rfl ?_
  refine lv_lsub hx hb dX0_nearestShifted_8 ?_
  refine lv_lstore (nL := 10) (lv' := [(5, .long (x1 - ((x1 >>> (x2.toInt64 &&& 63)) <<< (x2.toInt64 &&& 63)))), (3, .long (x1 >>> (x2.toInt64 &&& 63))), (0, .long x1), (2, .int x2)]) hx hb dX0_nearestShifted_9 hl (by decide) rfl (fun ls hl => ?_)
  refine lv_lconst (v := 1) hx hb dX0_nearestShifted_11 (by decide) ?_
  refine lv_iload_n hx hb dX0_nearestShifted_12 rfl (lv_at hl 3 rfl) ?_
  refine lv_iconst (v := 1) hx hb dX0_nearestShifted_13 (by decide) ?_
  refine lv_isub hx hb dX0_nearestShifted_14 ?_
  refine lv_lshl hx hb dX0_nearestShifted_15 rfl ?_
  refine lv_lstore (nL := 10) (lv' := [(7, .long ((1 : Int64) <<< ((x2 - (1 : Int32)).toInt64 &&& 63))), (5, .long (x1 - ((x1 >>> (x2.toInt64 &&& 63)) <<< (x2.toInt64 &&& 63)))), (3, .long (x1 >>> (x2.toInt64 &&& 63))), (0, .long x1), (2, .int x2)]) hx hb dX0_nearestShifted_16 hl (by decide) rfl (fun ls hl => ?_)
  refine lv_lload hx hb dX0_nearestShifted_18 (lv_at hl 1 rfl) ?_
  refine lv_lload hx hb dX0_nearestShifted_20 (lv_at hl 0 rfl) ?_
  refine bw_lc_gt (tgt := 42) hx hb dX0_nearestShifted_22 dX0_nearestShifted_23 (by decide) (fun h1 => ?_) (fun h1 => ?_)
  · refine lv_iconst (v := 1) hx hb dX0_nearestShifted_42 (by decide) ?_
    refine lv_goto (tgt := 47) hx hb dX0_nearestShifted_43 (by decide) ?_
    refine lv_istore (nL := 10) (lv' := [(9, .int (1 : Int32)), (7, .long ((1 : Int64) <<< ((x2 - (1 : Int32)).toInt64 &&& 63))), (5, .long (x1 - ((x1 >>> (x2.toInt64 &&& 63)) <<< (x2.toInt64 &&& 63)))), (3, .long (x1 >>> (x2.toInt64 &&& 63))), (0, .long x1), (2, .int x2)]) hx hb dX0_nearestShifted_47 hl (by decide) rfl (fun ls hl => ?_)
    refine lv_iload hx hb dX0_nearestShifted_49 (lv_at hl 0 rfl) ?_
    refine lv_if_eq (tgt := 60) hx hb dX0_nearestShifted_51 (by decide) (fun h2 => ?_) (fun h2 => ?_)
    · exact absurd h2 (by decide)
    refine lv_lload_n hx hb dX0_nearestShifted_54 rfl (lv_at hl 3 rfl) ?_
    refine lv_lconst (v := 1) hx hb dX0_nearestShifted_55 (by decide) ?_
    refine lv_ladd hx hb dX0_nearestShifted_56 ?_
    refine lv_goto (tgt := 61) hx hb dX0_nearestShifted_57 (by decide) ?_
    exact W.lret (v := (x1 >>> (x2.toInt64 &&& 63)) + (1 : Int64)) hx hb hr (fun t ht hW => ⟨(x1 >>> (x2.toInt64 &&& 63)) + (1 : Int64), rfl, by rw [bf_nearestShifted, if_pos h1], ht⟩) (fun q h => absurd h List.not_mem_nil) dX0_nearestShifted_61
  · refine lv_lload hx hb dX0_nearestShifted_26 (lv_at hl 1 rfl) ?_
    refine lv_lload hx hb dX0_nearestShifted_28 (lv_at hl 0 rfl) ?_
    refine bw_lc_ne (tgt := 46) hx hb dX0_nearestShifted_30 dX0_nearestShifted_31 (by decide) (fun h3 => ?_) (fun h3 => ?_)
    · refine lv_iconst (v := 0) hx hb dX0_nearestShifted_46 (by decide) ?_
      refine lv_istore (nL := 10) (lv' := [(9, .int (0 : Int32)), (7, .long ((1 : Int64) <<< ((x2 - (1 : Int32)).toInt64 &&& 63))), (5, .long (x1 - ((x1 >>> (x2.toInt64 &&& 63)) <<< (x2.toInt64 &&& 63)))), (3, .long (x1 >>> (x2.toInt64 &&& 63))), (0, .long x1), (2, .int x2)]) hx hb dX0_nearestShifted_47 hl (by decide) rfl (fun ls hl => ?_)
      refine lv_iload hx hb dX0_nearestShifted_49 (lv_at hl 0 rfl) ?_
      refine lv_if_eq (tgt := 60) hx hb dX0_nearestShifted_51 (by decide) (fun h4 => ?_) (fun h4 => ?_)
      rotate_left
      · exact absurd (by decide) h4
      refine lv_lload_n hx hb dX0_nearestShifted_60 rfl (lv_at hl 3 rfl) ?_
      exact W.lret (v := x1 >>> (x2.toInt64 &&& 63)) hx hb hr (fun t ht hW => ⟨x1 >>> (x2.toInt64 &&& 63), rfl, by rw [bf_nearestShifted, if_neg h1, if_neg h3], ht⟩) (fun q h => absurd h List.not_mem_nil) dX0_nearestShifted_61
    · refine lv_lload_n hx hb dX0_nearestShifted_34 rfl (lv_at hl 2 rfl) ?_
      refine lv_lconst (v := 1) hx hb dX0_nearestShifted_35 (by decide) ?_
      refine lv_land hx hb dX0_nearestShifted_36 ?_
      refine lv_lconst (v := 1) hx hb dX0_nearestShifted_37 (by decide) ?_
      refine bw_lc_ne (tgt := 46) hx hb dX0_nearestShifted_38 dX0_nearestShifted_39 (by decide) (fun h5 => ?_) (fun h5 => ?_)
      · refine lv_iconst (v := 0) hx hb dX0_nearestShifted_46 (by decide) ?_
        refine lv_istore (nL := 10) (lv' := [(9, .int (0 : Int32)), (7, .long ((1 : Int64) <<< ((x2 - (1 : Int32)).toInt64 &&& 63))), (5, .long (x1 - ((x1 >>> (x2.toInt64 &&& 63)) <<< (x2.toInt64 &&& 63)))), (3, .long (x1 >>> (x2.toInt64 &&& 63))), (0, .long x1), (2, .int x2)]) hx hb dX0_nearestShifted_47 hl (by decide) rfl (fun ls hl => ?_)
        refine lv_iload hx hb dX0_nearestShifted_49 (lv_at hl 0 rfl) ?_
        refine lv_if_eq (tgt := 60) hx hb dX0_nearestShifted_51 (by decide) (fun h6 => ?_) (fun h6 => ?_)
        rotate_left
        · exact absurd (by decide) h6
        refine lv_lload_n hx hb dX0_nearestShifted_60 rfl (lv_at hl 3 rfl) ?_
        exact W.lret (v := x1 >>> (x2.toInt64 &&& 63)) hx hb hr (fun t ht hW => ⟨x1 >>> (x2.toInt64 &&& 63), rfl, by rw [bf_nearestShifted, if_neg h1, if_pos h3, if_neg h5], ht⟩) (fun q h => absurd h List.not_mem_nil) dX0_nearestShifted_61
      · refine lv_iconst (v := 1) hx hb dX0_nearestShifted_42 (by decide) ?_
        refine lv_goto (tgt := 47) hx hb dX0_nearestShifted_43 (by decide) ?_
        refine lv_istore (nL := 10) (lv' := [(9, .int (1 : Int32)), (7, .long ((1 : Int64) <<< ((x2 - (1 : Int32)).toInt64 &&& 63))), (5, .long (x1 - ((x1 >>> (x2.toInt64 &&& 63)) <<< (x2.toInt64 &&& 63)))), (3, .long (x1 >>> (x2.toInt64 &&& 63))), (0, .long x1), (2, .int x2)]) hx hb dX0_nearestShifted_47 hl (by decide) rfl (fun ls hl => ?_)
        refine lv_iload hx hb dX0_nearestShifted_49 (lv_at hl 0 rfl) ?_
        refine lv_if_eq (tgt := 60) hx hb dX0_nearestShifted_51 (by decide) (fun h7 => ?_) (fun h7 => ?_)
        · exact absurd h7 (by decide)
        refine lv_lload_n hx hb dX0_nearestShifted_54 rfl (lv_at hl 3 rfl) ?_
        refine lv_lconst (v := 1) hx hb dX0_nearestShifted_55 (by decide) ?_
        refine lv_ladd hx hb dX0_nearestShifted_56 ?_
        refine lv_goto (tgt := 61) hx hb dX0_nearestShifted_57 (by decide) ?_
        exact W.lret (v := (x1 >>> (x2.toInt64 &&& 63)) + (1 : Int64)) hx hb hr (fun t ht hW => ⟨(x1 >>> (x2.toInt64 &&& 63)) + (1 : Int64), rfl, by rw [bf_nearestShifted, if_neg h1, if_pos h3, if_pos h5], ht⟩) (fun q h => absurd h List.not_mem_nil) dX0_nearestShifted_61
set_option maxHeartbeats 4000000 in
set_option maxRecDepth 100000 in
theorem bc_wholeAmount (l : Launch) (x1 : Int64) (x2 : Int32) (x3 : Int32) (x4 : Int32) : Met l yX0_wholeAmount wsX0_wholeAmount ({ frames := 1, cells := 0, slots := 0, locals := 29 }) (va_Pc [.long x1, .int x2, .int x3, .int x4] (fun _ => True)) (vp_Sl (fun r => r = bf_wholeAmount x1 x2 x3 x4)) 0 0 (fun _ => False) := by
  refine Met.ofW (cc := cX0_wholeAmount) (maxL := 8) (ret := (some .long)) (by decide) rfl ?_
  intro p e s m args below meth c s₁ B hml hv
  obtain ⟨rfl, -⟩ := hv
  have hx := B.exec
  have hb := B.bytes
  have hr := B.returns
  have hts := atoms_spec (ws := wsX0_wholeAmount) B.pre
  have hown : s.vm.findClass RX0 = some m.cls := findClass_of_methodNamed B.named
  have hlocks := B.notSynchronized
  have hl := lv_entry ([.long x1, .int x2, .int x3, .int x4]) (n := 8) (Nat.le_of_ble_eq_true rfl)
  rw [lg_entry_eq]
  generalize (lg_sl ([.long x1, .int x2, .int x3, .int x4]) ++ List.replicate (8 - (lg_sl ([.long x1, .int x2, .int x3, .int x4])).length) Slot.unset).toArray = ls at hl ⊢
  have hl : lv_has ls 8 [(0, .long x1), (2, .int x2), (3, .int x3), (4, .int x4)] := hl
  refine lv_iload hx hb dX0_wholeAmount_0 (lv_at hl 3 rfl) ?_
  refine lv_if_ne (tgt := 11) hx hb dX0_wholeAmount_2 (by decide) (fun h1 => ?_) (fun h1 => ?_)
  · refine lv_lload_n hx hb dX0_wholeAmount_11 rfl (lv_at hl 0 rfl) ?_
    refine lv_iload_n hx hb dX0_wholeAmount_12 rfl (lv_at hl 1 rfl) ?_
    refine lv_lshr hx hb dX0_wholeAmount_13 rfl ?_
    refine lv_lstore (nL := 8) (lv' := [(5, .long (x1 >>> (x2.toInt64 &&& 63))), (0, .long x1), (2, .int x2), (3, .int x3), (4, .int x4)]) hx hb dX0_wholeAmount_14 hl (by decide) rfl (fun ls hl => ?_)
    refine lv_iload hx hb dX0_wholeAmount_16 (lv_at hl 4 rfl) ?_
    refine lv_iconst (v := 1) hx hb dX0_wholeAmount_18 (by decide) ?_
    refine lv_icmp_ne (tgt := 26) hx hb dX0_wholeAmount_19 (by decide) (fun h2 => ?_) (fun h2 => ?_)
    · refine lv_iload hx hb dX0_wholeAmount_26 (lv_at hl 4 rfl) ?_
      refine lv_iconst (v := 2) hx hb dX0_wholeAmount_28 (by decide) ?_
      refine lv_icmp_ne (tgt := 40) hx hb dX0_wholeAmount_29 (by decide) (fun h3 => ?_) (fun h3 => ?_)
      · refine lv_iconst (v := 0) hx hb dX0_wholeAmount_40 (by decide) ?_
        refine lv_istore (nL := 8) (lv' := [(7, .int (0 : Int32)), (5, .long (x1 >>> (x2.toInt64 &&& 63))), (0, .long x1), (2, .int x2), (3, .int x3), (4, .int x4)]) hx hb dX0_wholeAmount_41 hl (by decide) rfl (fun ls hl => ?_)
        refine lv_iload hx hb dX0_wholeAmount_43 (lv_at hl 0 rfl) ?_
        refine lv_if_eq (tgt := 64) hx hb dX0_wholeAmount_45 (by decide) (fun h4 => ?_) (fun h4 => ?_)
        rotate_left
        · exact absurd (by decide) h4
        refine lv_lload hx hb dX0_wholeAmount_64 (lv_at hl 1 rfl) ?_
        exact W.lret (v := x1 >>> (x2.toInt64 &&& 63)) hx hb hr (fun t ht hW => ⟨x1 >>> (x2.toInt64 &&& 63), rfl, by rw [bf_wholeAmount, if_neg h1, if_neg h2, if_neg h3], ht⟩) (fun q h => absurd h List.not_mem_nil) dX0_wholeAmount_66
      · refine lv_iload_n hx hb dX0_wholeAmount_32 rfl (lv_at hl 3 rfl) ?_
        refine lv_if_ne (tgt := 40) hx hb dX0_wholeAmount_33 (by decide) (fun h5 => ?_) (fun h5 => ?_)
        · refine lv_iconst (v := 0) hx hb dX0_wholeAmount_40 (by decide) ?_
          refine lv_istore (nL := 8) (lv' := [(7, .int (0 : Int32)), (5, .long (x1 >>> (x2.toInt64 &&& 63))), (0, .long x1), (2, .int x2), (3, .int x3), (4, .int x4)]) hx hb dX0_wholeAmount_41 hl (by decide) rfl (fun ls hl => ?_)
          refine lv_iload hx hb dX0_wholeAmount_43 (lv_at hl 0 rfl) ?_
          refine lv_if_eq (tgt := 64) hx hb dX0_wholeAmount_45 (by decide) (fun h6 => ?_) (fun h6 => ?_)
          rotate_left
          · exact absurd (by decide) h6
          refine lv_lload hx hb dX0_wholeAmount_64 (lv_at hl 1 rfl) ?_
          exact W.lret (v := x1 >>> (x2.toInt64 &&& 63)) hx hb hr (fun t ht hW => ⟨x1 >>> (x2.toInt64 &&& 63), rfl, by rw [bf_wholeAmount, if_neg h1, if_neg h2, if_pos h3, if_neg h5], ht⟩) (fun q h => absurd h List.not_mem_nil) dX0_wholeAmount_66
        · refine lv_iconst (v := 1) hx hb dX0_wholeAmount_36 (by decide) ?_
          refine lv_goto (tgt := 41) hx hb dX0_wholeAmount_37 (by decide) ?_
          refine lv_istore (nL := 8) (lv' := [(7, .int (1 : Int32)), (5, .long (x1 >>> (x2.toInt64 &&& 63))), (0, .long x1), (2, .int x2), (3, .int x3), (4, .int x4)]) hx hb dX0_wholeAmount_41 hl (by decide) rfl (fun ls hl => ?_)
          refine lv_iload hx hb dX0_wholeAmount_43 (lv_at hl 0 rfl) ?_
          refine lv_if_eq (tgt := 64) hx hb dX0_wholeAmount_45 (by decide) (fun h7 => ?_) (fun h7 => ?_)
          · exact absurd h7 (by decide)
          refine lv_lload hx hb dX0_wholeAmount_48 (lv_at hl 1 rfl) ?_
          refine lv_iload_n hx hb dX0_wholeAmount_50 rfl (lv_at hl 3 rfl) ?_
          refine lv_lshl hx hb dX0_wholeAmount_51 rfl ?_
          refine lv_lload_n hx hb dX0_wholeAmount_52 rfl (lv_at hl 2 rfl) ?_
          refine bw_lc_eq (tgt := 64) hx hb dX0_wholeAmount_53 dX0_wholeAmount_54 (by decide) (fun h8 => ?_) (fun h8 => ?_)
          · refine lv_lload hx hb dX0_wholeAmount_64 (lv_at hl 1 rfl) ?_
            exact W.lret (v := x1 >>> (x2.toInt64 &&& 63)) hx hb hr (fun t ht hW => ⟨x1 >>> (x2.toInt64 &&& 63), rfl, by rw [bf_wholeAmount, if_neg h1, if_neg h2, if_pos h3, if_pos h5, if_pos h8], ht⟩) (fun q h => absurd h List.not_mem_nil) dX0_wholeAmount_66
          · refine lv_lload hx hb dX0_wholeAmount_57 (lv_at hl 1 rfl) ?_
            refine lv_lconst (v := 1) hx hb dX0_wholeAmount_59 (by decide) ?_
            refine lv_ladd hx hb dX0_wholeAmount_60 ?_
            refine lv_goto (tgt := 66) hx hb dX0_wholeAmount_61 (by decide) ?_
            exact W.lret (v := (x1 >>> (x2.toInt64 &&& 63)) + (1 : Int64)) hx hb hr (fun t ht hW => ⟨(x1 >>> (x2.toInt64 &&& 63)) + (1 : Int64), rfl, by rw [bf_wholeAmount, if_neg h1, if_neg h2, if_pos h3, if_pos h5, if_neg h8], ht⟩) (fun q h => absurd h List.not_mem_nil) dX0_wholeAmount_66
    · refine lv_iload_n hx hb dX0_wholeAmount_22 rfl (lv_at hl 3 rfl) ?_
      refine lv_if_ne (tgt := 36) hx hb dX0_wholeAmount_23 (by decide) (fun h9 => ?_) (fun h9 => ?_)
      · refine lv_iconst (v := 1) hx hb dX0_wholeAmount_36 (by decide) ?_
        refine lv_goto (tgt := 41) hx hb dX0_wholeAmount_37 (by decide) ?_
        refine lv_istore (nL := 8) (lv' := [(7, .int (1 : Int32)), (5, .long (x1 >>> (x2.toInt64 &&& 63))), (0, .long x1), (2, .int x2), (3, .int x3), (4, .int x4)]) hx hb dX0_wholeAmount_41 hl (by decide) rfl (fun ls hl => ?_)
        refine lv_iload hx hb dX0_wholeAmount_43 (lv_at hl 0 rfl) ?_
        refine lv_if_eq (tgt := 64) hx hb dX0_wholeAmount_45 (by decide) (fun h10 => ?_) (fun h10 => ?_)
        · exact absurd h10 (by decide)
        refine lv_lload hx hb dX0_wholeAmount_48 (lv_at hl 1 rfl) ?_
        refine lv_iload_n hx hb dX0_wholeAmount_50 rfl (lv_at hl 3 rfl) ?_
        refine lv_lshl hx hb dX0_wholeAmount_51 rfl ?_
        refine lv_lload_n hx hb dX0_wholeAmount_52 rfl (lv_at hl 2 rfl) ?_
        refine bw_lc_eq (tgt := 64) hx hb dX0_wholeAmount_53 dX0_wholeAmount_54 (by decide) (fun h11 => ?_) (fun h11 => ?_)
        · refine lv_lload hx hb dX0_wholeAmount_64 (lv_at hl 1 rfl) ?_
          exact W.lret (v := x1 >>> (x2.toInt64 &&& 63)) hx hb hr (fun t ht hW => ⟨x1 >>> (x2.toInt64 &&& 63), rfl, by rw [bf_wholeAmount, if_neg h1, if_pos h2, if_neg h9, if_pos h11], ht⟩) (fun q h => absurd h List.not_mem_nil) dX0_wholeAmount_66
        · refine lv_lload hx hb dX0_wholeAmount_57 (lv_at hl 1 rfl) ?_
          refine lv_lconst (v := 1) hx hb dX0_wholeAmount_59 (by decide) ?_
          refine lv_ladd hx hb dX0_wholeAmount_60 ?_
          refine lv_goto (tgt := 66) hx hb dX0_wholeAmount_61 (by decide) ?_
          exact W.lret (v := (x1 >>> (x2.toInt64 &&& 63)) + (1 : Int64)) hx hb hr (fun t ht hW => ⟨(x1 >>> (x2.toInt64 &&& 63)) + (1 : Int64), rfl, by rw [bf_wholeAmount, if_neg h1, if_pos h2, if_neg h9, if_neg h11], ht⟩) (fun q h => absurd h List.not_mem_nil) dX0_wholeAmount_66
      · refine lv_iload hx hb dX0_wholeAmount_26 (lv_at hl 4 rfl) ?_
        refine lv_iconst (v := 2) hx hb dX0_wholeAmount_28 (by decide) ?_
        refine lv_icmp_ne (tgt := 40) hx hb dX0_wholeAmount_29 (by decide) (fun h12 => ?_) (fun h12 => ?_)
        · refine lv_iconst (v := 0) hx hb dX0_wholeAmount_40 (by decide) ?_
          refine lv_istore (nL := 8) (lv' := [(7, .int (0 : Int32)), (5, .long (x1 >>> (x2.toInt64 &&& 63))), (0, .long x1), (2, .int x2), (3, .int x3), (4, .int x4)]) hx hb dX0_wholeAmount_41 hl (by decide) rfl (fun ls hl => ?_)
          refine lv_iload hx hb dX0_wholeAmount_43 (lv_at hl 0 rfl) ?_
          refine lv_if_eq (tgt := 64) hx hb dX0_wholeAmount_45 (by decide) (fun h13 => ?_) (fun h13 => ?_)
          rotate_left
          · exact absurd (by decide) h13
          refine lv_lload hx hb dX0_wholeAmount_64 (lv_at hl 1 rfl) ?_
          exact W.lret (v := x1 >>> (x2.toInt64 &&& 63)) hx hb hr (fun t ht hW => ⟨x1 >>> (x2.toInt64 &&& 63), rfl, by rw [bf_wholeAmount, if_neg h1, if_pos h2, if_pos h9, if_neg h12], ht⟩) (fun q h => absurd h List.not_mem_nil) dX0_wholeAmount_66
        · refine lv_iload_n hx hb dX0_wholeAmount_32 rfl (lv_at hl 3 rfl) ?_
          refine lv_if_ne (tgt := 40) hx hb dX0_wholeAmount_33 (by decide) (fun h14 => ?_) (fun h14 => ?_)
          · exact absurd h9 h14
          refine lv_iconst (v := 1) hx hb dX0_wholeAmount_36 (by decide) ?_
          refine lv_goto (tgt := 41) hx hb dX0_wholeAmount_37 (by decide) ?_
          refine lv_istore (nL := 8) (lv' := [(7, .int (1 : Int32)), (5, .long (x1 >>> (x2.toInt64 &&& 63))), (0, .long x1), (2, .int x2), (3, .int x3), (4, .int x4)]) hx hb dX0_wholeAmount_41 hl (by decide) rfl (fun ls hl => ?_)
          refine lv_iload hx hb dX0_wholeAmount_43 (lv_at hl 0 rfl) ?_
          refine lv_if_eq (tgt := 64) hx hb dX0_wholeAmount_45 (by decide) (fun h15 => ?_) (fun h15 => ?_)
          · exact absurd h15 (by decide)
          refine lv_lload hx hb dX0_wholeAmount_48 (lv_at hl 1 rfl) ?_
          refine lv_iload_n hx hb dX0_wholeAmount_50 rfl (lv_at hl 3 rfl) ?_
          refine lv_lshl hx hb dX0_wholeAmount_51 rfl ?_
          refine lv_lload_n hx hb dX0_wholeAmount_52 rfl (lv_at hl 2 rfl) ?_
          refine bw_lc_eq (tgt := 64) hx hb dX0_wholeAmount_53 dX0_wholeAmount_54 (by decide) (fun h16 => ?_) (fun h16 => ?_)
          · refine lv_lload hx hb dX0_wholeAmount_64 (lv_at hl 1 rfl) ?_
            exact W.lret (v := x1 >>> (x2.toInt64 &&& 63)) hx hb hr (fun t ht hW => ⟨x1 >>> (x2.toInt64 &&& 63), rfl, by rw [bf_wholeAmount, if_neg h1, if_pos h2, if_pos h9, if_pos h12, if_pos h16], ht⟩) (fun q h => absurd h List.not_mem_nil) dX0_wholeAmount_66
          · refine lv_lload hx hb dX0_wholeAmount_57 (lv_at hl 1 rfl) ?_
            refine lv_lconst (v := 1) hx hb dX0_wholeAmount_59 (by decide) ?_
            refine lv_ladd hx hb dX0_wholeAmount_60 ?_
            refine lv_goto (tgt := 66) hx hb dX0_wholeAmount_61 (by decide) ?_
            exact W.lret (v := (x1 >>> (x2.toInt64 &&& 63)) + (1 : Int64)) hx hb hr (fun t ht hW => ⟨(x1 >>> (x2.toInt64 &&& 63)) + (1 : Int64), rfl, by rw [bf_wholeAmount, if_neg h1, if_pos h2, if_pos h9, if_pos h12, if_neg h16], ht⟩) (fun q h => absurd h List.not_mem_nil) dX0_wholeAmount_66
  · refine lv_lload_n hx hb dX0_wholeAmount_5 rfl (lv_at hl 0 rfl) ?_
    refine lv_iload_n hx hb dX0_wholeAmount_6 rfl (lv_at hl 1 rfl) ?_
    refine bw_csl (rest := []) ⟨hx, hb, hml, hown, hts⟩ (bc_nearestShifted l x1 x2) (va_cwS 2 hts gX0_wholeAmount_X0_nearestShifted rfl rfl rfl (by decide +kernel) ⟨Nat.le_of_ble_eq_true rfl, Nat.le_of_ble_eq_true rfl⟩) rfl hl.1 rfl (Nat.le_of_ble_eq_true rfl) dX0_wholeAmount_7 (Nat.zero_le _) (Nat.zero_le _) ?_
    exact W.lret (v := bf_nearestShifted x1 x2) hx hb hr (fun t ht hW => ⟨bf_nearestShifted x1 x2, rfl, by rw [bf_wholeAmount, if_pos h1], ht⟩) (fun q h => absurd h List.not_mem_nil) dX0_wholeAmount_10
set_option maxHeartbeats 4000000 in
set_option maxRecDepth 100000 in
theorem bc_place (l : Launch) (x1 : Int64) : Met l yX0_place wsX0_place ({ frames := 0, cells := 0, slots := 0, locals := 0 }) (va_Pc [.long x1] (fun _ => True)) (vp_Sl (fun r => r = bf_place x1)) 0 0 (fun _ => False) := by
  refine Met.ofW (cc := cX0_place) (maxL := 2) (ret := (some .long)) (by decide) rfl ?_
  intro p e s m args below meth c s₁ B hml hv
  obtain ⟨rfl, -⟩ := hv
  have hx := B.exec
  have hb := B.bytes
  have hr := B.returns
  have hts := atoms_spec (ws := wsX0_place) B.pre
  have hown : s.vm.findClass RX0 = some m.cls := findClass_of_methodNamed B.named
  have hlocks := B.notSynchronized
  have hl := lv_entry ([.long x1]) (n := 2) (Nat.le_of_ble_eq_true rfl)
  rw [lg_entry_eq]
  generalize (lg_sl ([.long x1]) ++ List.replicate (2 - (lg_sl ([.long x1])).length) Slot.unset).toArray = ls at hl ⊢
  have hl : lv_has ls 2 [(0, .long x1)] := hl
  refine lv_lload_n hx hb dX0_place_0 rfl (lv_at hl 0 rfl) ?_
  refine lv_lconst (v := 0) hx hb dX0_place_1 (by decide) ?_
  refine bw_lc_ge (tgt := 15) hx hb dX0_place_2 dX0_place_3 (by decide) (fun h1 => ?_) (fun h1 => ?_)
  · refine lv_lload_n hx hb dX0_place_15 rfl (lv_at hl 0 rfl) ?_
    exact W.lret (v := x1) hx hb hr (fun t ht hW => ⟨x1, rfl, by rw [bf_place, if_pos h1], ht⟩) (fun q h => absurd h List.not_mem_nil) dX0_place_16
  · refine lv_lload_n hx hb dX0_place_6 rfl (lv_at hl 0 rfl) ?_
    refine lv_ldc2 hx hb hown (hts (.constantLong RX0 65 9223372036854775807) (by decide +kernel)) dX0_place_7 ?_
    refine lv_land hx hb dX0_place_10 ?_
    refine lv_lneg hx hb dX0_place_11 ?_
    refine lv_goto (tgt := 16) hx hb dX0_place_12 (by decide) ?_
    exact W.lret (v := -(x1 &&& (9223372036854775807 : Int64))) hx hb hr (fun t ht hW => ⟨-(x1 &&& (9223372036854775807 : Int64)), rfl, by rw [bf_place, if_neg h1], ht⟩) (fun q h => absurd h List.not_mem_nil) dX0_place_16
set_option maxHeartbeats 4000000 in
set_option maxRecDepth 100000 in
theorem bc_nextTowards (l : Launch) (x1 : Int64) (x2 : Int64) : Met l yX0_nextTowards wsX0_nextTowards ({ frames := 1, cells := 0, slots := 0, locals := 21 }) (va_Pc [.long x1, .long x2] (fun _ => True)) (vp_Sl (fun r => r = bf_nextTowards x1 x2)) 0 0 (fun _ => False) := by
  refine Met.ofW (cc := cX0_nextTowards) (maxL := 6) (ret := (some .long)) (by decide) rfl ?_
  intro p e s m args below meth c s₁ B hml hv
  obtain ⟨rfl, -⟩ := hv
  have hx := B.exec
  have hb := B.bytes
  have hr := B.returns
  have hts := atoms_spec (ws := wsX0_nextTowards) B.pre
  have hown : s.vm.findClass RX0 = some m.cls := findClass_of_methodNamed B.named
  have hlocks := B.notSynchronized
  have hl := lv_entry ([.long x1, .long x2]) (n := 6) (Nat.le_of_ble_eq_true rfl)
  rw [lg_entry_eq]
  generalize (lg_sl ([.long x1, .long x2]) ++ List.replicate (6 - (lg_sl ([.long x1, .long x2])).length) Slot.unset).toArray = ls at hl ⊢
  have hl : lv_has ls 6 [(0, .long x1), (2, .long x2)] := hl
  refine lv_lload_n hx hb dX0_nextTowards_0 rfl (lv_at hl 0 rfl) ?_
  refine bw_csi (rest := []) ⟨hx, hb, hml, hown, hts⟩ (bc_isNan l x1) (va_cwS 1 hts gX0_nextTowards_X0_isNan rfl rfl rfl (by decide +kernel) ⟨Nat.le_of_ble_eq_true rfl, Nat.le_of_ble_eq_true rfl⟩) rfl hl.1 rfl (Nat.le_of_ble_eq_true rfl) dX0_nextTowards_1 (Nat.zero_le _) (Nat.zero_le _) ?_
  refine lv_if_ne (tgt := 14) hx hb dX0_nextTowards_4 (by decide) (fun h1 => ?_) (fun h1 => ?_)
  · refine lv_ldc2 hx hb hown (hts (.constantLong RX0 101 9221120237041090560) (by decide +kernel)) dX0_nextTowards_14 ?_
    exact W.lret (v := (9221120237041090560 : Int64)) hx hb hr (fun t ht hW => ⟨(9221120237041090560 : Int64), rfl, by rw [bf_nextTowards, if_neg h1], ht⟩) (fun q h => absurd h List.not_mem_nil) dX0_nextTowards_17
  · refine lv_lload_n hx hb dX0_nextTowards_7 rfl (lv_at hl 1 rfl) ?_
    refine bw_csi (rest := []) ⟨hx, hb, hml, hown, hts⟩ (bc_isNan l x2) (va_cwS 1 hts gX0_nextTowards_X0_isNan rfl rfl rfl (by decide +kernel) ⟨Nat.le_of_ble_eq_true rfl, Nat.le_of_ble_eq_true rfl⟩) rfl hl.1 rfl (Nat.le_of_ble_eq_true rfl) dX0_nextTowards_8 (Nat.zero_le _) (Nat.zero_le _) ?_
    refine lv_if_eq (tgt := 18) hx hb dX0_nextTowards_11 (by decide) (fun h2 => ?_) (fun h2 => ?_)
    · refine lv_lload_n hx hb dX0_nextTowards_18 rfl (lv_at hl 0 rfl) ?_
      refine bw_csl (rest := []) ⟨hx, hb, hml, hown, hts⟩ (bc_place l x1) (va_cwS 1 hts gX0_nextTowards_X0_place rfl rfl rfl (by decide +kernel) ⟨Nat.le_of_ble_eq_true rfl, Nat.le_of_ble_eq_true rfl⟩) rfl hl.1 rfl (Nat.le_of_ble_eq_true rfl) dX0_nextTowards_19 (Nat.zero_le _) (Nat.zero_le _) ?_
      refine lv_lload_n hx hb dX0_nextTowards_22 rfl (lv_at hl 1 rfl) ?_
      refine bw_csl (rest := [.long (bf_place x1)]) ⟨hx, hb, hml, hown, hts⟩ (bc_place l x2) (va_cwS 1 hts gX0_nextTowards_X0_place rfl rfl rfl (by decide +kernel) ⟨Nat.le_of_ble_eq_true rfl, Nat.le_of_ble_eq_true rfl⟩) rfl hl.1 rfl (Nat.le_of_ble_eq_true rfl) dX0_nextTowards_23 (Nat.zero_le _) (Nat.zero_le _) ?_
      refine bw_lc_ne (tgt := 32) hx hb dX0_nextTowards_26 dX0_nextTowards_27 (by decide) (fun h3 => ?_) (fun h3 => ?_)
      · refine lv_lload_n hx hb dX0_nextTowards_32 rfl (lv_at hl 0 rfl) ?_
        refine bw_csl (rest := []) ⟨hx, hb, hml, hown, hts⟩ (bc_place l x1) (va_cwS 1 hts gX0_nextTowards_X0_place rfl rfl rfl (by decide +kernel) ⟨Nat.le_of_ble_eq_true rfl, Nat.le_of_ble_eq_true rfl⟩) rfl hl.1 rfl (Nat.le_of_ble_eq_true rfl) dX0_nextTowards_33 (Nat.zero_le _) (Nat.zero_le _) ?_
        refine lv_lload_n hx hb dX0_nextTowards_36 rfl (lv_at hl 1 rfl) ?_
        refine bw_csl (rest := [.long (bf_place x1)]) ⟨hx, hb, hml, hown, hts⟩ (bc_place l x2) (va_cwS 1 hts gX0_nextTowards_X0_place rfl rfl rfl (by decide +kernel) ⟨Nat.le_of_ble_eq_true rfl, Nat.le_of_ble_eq_true rfl⟩) rfl hl.1 rfl (Nat.le_of_ble_eq_true rfl) dX0_nextTowards_37 (Nat.zero_le _) (Nat.zero_le _) ?_
        refine bw_lc_ge (tgt := 53) hx hb dX0_nextTowards_40 dX0_nextTowards_41 (by decide) (fun h4 => ?_) (fun h4 => ?_)
        · refine lv_lload_n hx hb dX0_nextTowards_53 rfl (lv_at hl 0 rfl) ?_
          refine bw_csl (rest := []) ⟨hx, hb, hml, hown, hts⟩ (bc_place l x1) (va_cwS 1 hts gX0_nextTowards_X0_place rfl rfl rfl (by decide +kernel) ⟨Nat.le_of_ble_eq_true rfl, Nat.le_of_ble_eq_true rfl⟩) rfl hl.1 rfl (Nat.le_of_ble_eq_true rfl) dX0_nextTowards_54 (Nat.zero_le _) (Nat.zero_le _) ?_
          refine lv_lconst (v := 1) hx hb dX0_nextTowards_57 (by decide) ?_
          refine lv_lsub hx hb dX0_nextTowards_58 ?_
          refine lv_lstore (nL := 6) (lv' := [(4, .long ((bf_place x1) - (1 : Int64))), (0, .long x1), (2, .long x2)]) hx hb dX0_nextTowards_59 hl (by decide) rfl (fun ls hl => ?_)
          refine lv_lload hx hb dX0_nextTowards_61 (lv_at hl 0 rfl) ?_
          refine lv_lconst (v := 0) hx hb dX0_nextTowards_63 (by decide) ?_
          refine bw_lc_ne (tgt := 73) hx hb dX0_nextTowards_64 dX0_nextTowards_65 (by decide) (fun h5 => ?_) (fun h5 => ?_)
          · refine lv_lload hx hb dX0_nextTowards_73 (lv_at hl 0 rfl) ?_
            refine lv_lconst (v := 0) hx hb dX0_nextTowards_75 (by decide) ?_
            refine bw_lc_ge (tgt := 90) hx hb dX0_nextTowards_76 dX0_nextTowards_77 (by decide) (fun h6 => ?_) (fun h6 => ?_)
            · refine lv_lload hx hb dX0_nextTowards_90 (lv_at hl 0 rfl) ?_
              exact W.lret (v := (bf_place x1) - (1 : Int64)) hx hb hr (fun t ht hW => ⟨(bf_place x1) - (1 : Int64), rfl, by rw [bf_nextTowards, if_pos h1, if_pos h2, if_neg h3, if_pos h4, if_neg h5, if_pos h6], ht⟩) (fun q h => absurd h List.not_mem_nil) dX0_nextTowards_92
            · refine lv_ldc2 hx hb hown (hts (.constantLong RX0 69 (-9223372036854775808)) (by decide +kernel)) dX0_nextTowards_80 ?_
              refine lv_lload hx hb dX0_nextTowards_83 (lv_at hl 0 rfl) ?_
              refine lv_lneg hx hb dX0_nextTowards_85 ?_
              refine lv_lor hx hb dX0_nextTowards_86 ?_
              refine lv_goto (tgt := 92) hx hb dX0_nextTowards_87 (by decide) ?_
              exact W.lret (v := (-9223372036854775808 : Int64) ||| (-((bf_place x1) - (1 : Int64)))) hx hb hr (fun t ht hW => ⟨(-9223372036854775808 : Int64) ||| (-((bf_place x1) - (1 : Int64))), rfl, by rw [bf_nextTowards, if_pos h1, if_pos h2, if_neg h3, if_pos h4, if_neg h5, if_neg h6], ht⟩) (fun q h => absurd h List.not_mem_nil) dX0_nextTowards_92
          · refine lv_lload_n hx hb dX0_nextTowards_68 rfl (lv_at hl 1 rfl) ?_
            refine bw_csl (rest := []) ⟨hx, hb, hml, hown, hts⟩ (bc_signOf l x1) (va_cwS 1 hts gX0_nextTowards_X0_signOf rfl rfl rfl (by decide +kernel) ⟨Nat.le_of_ble_eq_true rfl, Nat.le_of_ble_eq_true rfl⟩) rfl hl.1 rfl (Nat.le_of_ble_eq_true rfl) dX0_nextTowards_69 (Nat.zero_le _) (Nat.zero_le _) ?_
            exact W.lret (v := bf_signOf x1) hx hb hr (fun t ht hW => ⟨bf_signOf x1, rfl, by rw [bf_nextTowards, if_pos h1, if_pos h2, if_neg h3, if_pos h4, if_pos h5], ht⟩) (fun q h => absurd h List.not_mem_nil) dX0_nextTowards_72
        · refine lv_lload_n hx hb dX0_nextTowards_44 rfl (lv_at hl 0 rfl) ?_
          refine bw_csl (rest := []) ⟨hx, hb, hml, hown, hts⟩ (bc_place l x1) (va_cwS 1 hts gX0_nextTowards_X0_place rfl rfl rfl (by decide +kernel) ⟨Nat.le_of_ble_eq_true rfl, Nat.le_of_ble_eq_true rfl⟩) rfl hl.1 rfl (Nat.le_of_ble_eq_true rfl) dX0_nextTowards_45 (Nat.zero_le _) (Nat.zero_le _) ?_
          refine lv_lconst (v := 1) hx hb dX0_nextTowards_48 (by decide) ?_
          refine lv_ladd hx hb dX0_nextTowards_49 ?_
          refine lv_goto (tgt := 59) hx hb dX0_nextTowards_50 (by decide) ?_
          refine lv_lstore (nL := 6) (lv' := [(4, .long ((bf_place x1) + (1 : Int64))), (0, .long x1), (2, .long x2)]) hx hb dX0_nextTowards_59 hl (by decide) rfl (fun ls hl => ?_)
          refine lv_lload hx hb dX0_nextTowards_61 (lv_at hl 0 rfl) ?_
          refine lv_lconst (v := 0) hx hb dX0_nextTowards_63 (by decide) ?_
          refine bw_lc_ne (tgt := 73) hx hb dX0_nextTowards_64 dX0_nextTowards_65 (by decide) (fun h7 => ?_) (fun h7 => ?_)
          · refine lv_lload hx hb dX0_nextTowards_73 (lv_at hl 0 rfl) ?_
            refine lv_lconst (v := 0) hx hb dX0_nextTowards_75 (by decide) ?_
            refine bw_lc_ge (tgt := 90) hx hb dX0_nextTowards_76 dX0_nextTowards_77 (by decide) (fun h8 => ?_) (fun h8 => ?_)
            · refine lv_lload hx hb dX0_nextTowards_90 (lv_at hl 0 rfl) ?_
              exact W.lret (v := (bf_place x1) + (1 : Int64)) hx hb hr (fun t ht hW => ⟨(bf_place x1) + (1 : Int64), rfl, by rw [bf_nextTowards, if_pos h1, if_pos h2, if_neg h3, if_neg h4, if_neg h7, if_pos h8], ht⟩) (fun q h => absurd h List.not_mem_nil) dX0_nextTowards_92
            · refine lv_ldc2 hx hb hown (hts (.constantLong RX0 69 (-9223372036854775808)) (by decide +kernel)) dX0_nextTowards_80 ?_
              refine lv_lload hx hb dX0_nextTowards_83 (lv_at hl 0 rfl) ?_
              refine lv_lneg hx hb dX0_nextTowards_85 ?_
              refine lv_lor hx hb dX0_nextTowards_86 ?_
              refine lv_goto (tgt := 92) hx hb dX0_nextTowards_87 (by decide) ?_
              exact W.lret (v := (-9223372036854775808 : Int64) ||| (-((bf_place x1) + (1 : Int64)))) hx hb hr (fun t ht hW => ⟨(-9223372036854775808 : Int64) ||| (-((bf_place x1) + (1 : Int64))), rfl, by rw [bf_nextTowards, if_pos h1, if_pos h2, if_neg h3, if_neg h4, if_neg h7, if_neg h8], ht⟩) (fun q h => absurd h List.not_mem_nil) dX0_nextTowards_92
          · refine lv_lload_n hx hb dX0_nextTowards_68 rfl (lv_at hl 1 rfl) ?_
            refine bw_csl (rest := []) ⟨hx, hb, hml, hown, hts⟩ (bc_signOf l x1) (va_cwS 1 hts gX0_nextTowards_X0_signOf rfl rfl rfl (by decide +kernel) ⟨Nat.le_of_ble_eq_true rfl, Nat.le_of_ble_eq_true rfl⟩) rfl hl.1 rfl (Nat.le_of_ble_eq_true rfl) dX0_nextTowards_69 (Nat.zero_le _) (Nat.zero_le _) ?_
            exact W.lret (v := bf_signOf x1) hx hb hr (fun t ht hW => ⟨bf_signOf x1, rfl, by rw [bf_nextTowards, if_pos h1, if_pos h2, if_neg h3, if_neg h4, if_pos h7], ht⟩) (fun q h => absurd h List.not_mem_nil) dX0_nextTowards_72
      · refine lv_lload_n hx hb dX0_nextTowards_30 rfl (lv_at hl 0 rfl) ?_
        exact W.lret (v := x1) hx hb hr (fun t ht hW => ⟨x1, rfl, by rw [bf_nextTowards, if_pos h1, if_pos h2, if_pos h3], ht⟩) (fun q h => absurd h List.not_mem_nil) dX0_nextTowards_31
    · refine lv_ldc2 hx hb hown (hts (.constantLong RX0 101 9221120237041090560) (by decide +kernel)) dX0_nextTowards_14 ?_
      exact W.lret (v := (9221120237041090560 : Int64)) hx hb hr (fun t ht hW => ⟨(9221120237041090560 : Int64), rfl, by rw [bf_nextTowards, if_pos h1, if_neg h2], ht⟩) (fun q h => absurd h List.not_mem_nil) dX0_nextTowards_17
