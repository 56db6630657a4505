/-! walks: the reference, static methods -/
set_option maxHeartbeats 4000000 in
set_option maxRecDepth 100000 in
theorem bd_isRegister (l : Launch) (x1 : Int32) : Met l yX1_isRegister wsX1_isRegister ({ frames := 0, cells := 0, slots := 0, locals := 0 }) (va_Pc [.int x1] (fun _ => True)) (vp_Si (fun r => r = bg_isRegister x1)) 0 0 (fun _ => False) := by
  refine Met.ofW (cc := cX1_isRegister) (maxL := 1) (ret := (some .boolean)) (by decide) rfl ?_
  intro p e s m args below meth c s₁ B hml hv
  obtain ⟨rfl, -⟩ := hv
  have hx := B.exec
  have hb := B.bytes
  have hr := B.returns
  have hts := atoms_spec (ws := wsX1_isRegister) B.pre
  have hown : s.vm.findClass RX1 = some m.cls := findClass_of_methodNamed B.named
  have hlocks := B.notSynchronized
  have hl := lv_entry ([.int x1]) (n := 1) (Nat.le_of_ble_eq_true rfl)
  rw [lg_entry_eq]
  generalize (lg_sl ([.int x1]) ++ List.replicate (1 - (lg_sl ([.int x1])).length) Slot.unset).toArray = ls at hl ⊢
  have hl : lv_has ls 1 [(0, .int x1)] := hl
  refine lv_iload_n hx hb dX1_isRegister_0 rfl (lv_at hl 0 rfl) ?_
  refine lv_if_lt (tgt := 14) hx hb dX1_isRegister_1 (by decide) (fun h1 => ?_) (fun h1 => ?_)
  · refine lv_iconst (v := 0) hx hb dX1_isRegister_14 (by decide) ?_
    exact W.zret (v := (0 : Int32)) hx hb hr rfl (fun t ht hW => ⟨(0 : Int32), rfl, by rw [bg_isRegister, if_pos h1], ht⟩) (fun q h => absurd h List.not_mem_nil) dX1_isRegister_15
  · refine lv_iload_n hx hb dX1_isRegister_4 rfl (lv_at hl 0 rfl) ?_
    refine lv_bipush (v := 7) hx hb dX1_isRegister_5 (by decide) ?_
    refine lv_icmp_gt (tgt := 14) hx hb dX1_isRegister_7 (by decide) (fun h2 => ?_) (fun h2 => ?_)
    · refine lv_iconst (v := 0) hx hb dX1_isRegister_14 (by decide) ?_
      exact W.zret (v := (0 : Int32)) hx hb hr rfl (fun t ht hW => ⟨(0 : Int32), rfl, by rw [bg_isRegister, if_neg h1, if_pos h2], ht⟩) (fun q h => absurd h List.not_mem_nil) dX1_isRegister_15
    · refine lv_iconst (v := 1) hx hb dX1_isRegister_10 (by decide) ?_
      refine lv_goto (tgt := 15) hx hb dX1_isRegister_11 (by decide) ?_
      exact W.zret (v := (1 : Int32)) hx hb hr rfl (fun t ht hW => ⟨(1 : Int32), rfl, by rw [bg_isRegister, if_neg h1, if_neg h2], ht⟩) (fun q h => absurd h List.not_mem_nil) dX1_isRegister_15
set_option maxHeartbeats 4000000 in
set_option maxRecDepth 100000 in
theorem bd_negative (l : Launch) (x1 : Int64) : Met l yX1_negative wsX1_negative ({ frames := 0, cells := 0, slots := 0, locals := 0 }) (va_Pc [.long x1] (fun _ => True)) (vp_Si (fun r => r = bg_negative x1)) 0 0 (fun _ => False) := by
  refine Met.ofW (cc := cX1_negative) (maxL := 2) (ret := (some .boolean)) (by decide) rfl ?_
  intro p e s m args below meth c s₁ B hml hv
  obtain ⟨rfl, -⟩ := hv
  have hx := B.exec
  have hb := B.bytes
  have hr := B.returns
  have hts := atoms_spec (ws := wsX1_negative) B.pre
  have hown : s.vm.findClass RX1 = some m.cls := findClass_of_methodNamed B.named
  have hlocks := B.notSynchronized
  have hl := lv_entry ([.long x1]) (n := 2) (Nat.le_of_ble_eq_true rfl)
  rw [lg_entry_eq]
  generalize (lg_sl ([.long x1]) ++ List.replicate (2 - (lg_sl ([.long x1])).length) Slot.unset).toArray = ls at hl ⊢
  have hl : lv_has ls 2 [(0, .long x1)] := hl
  refine lv_lload_n hx hb dX1_negative_0 rfl (lv_at hl 0 rfl) ?_
  refine lv_lconst (v := 0) hx hb dX1_negative_1 (by decide) ?_
  refine bw_lc_ge (tgt := 10) hx hb dX1_negative_2 dX1_negative_3 (by decide) (fun h1 => ?_) (fun h1 => ?_)
  · refine lv_iconst (v := 0) hx hb dX1_negative_10 (by decide) ?_
    exact W.zret (v := (0 : Int32)) hx hb hr rfl (fun t ht hW => ⟨(0 : Int32), rfl, by rw [bg_negative, if_pos h1], ht⟩) (fun q h => absurd h List.not_mem_nil) dX1_negative_11
  · refine lv_iconst (v := 1) hx hb dX1_negative_6 (by decide) ?_
    refine lv_goto (tgt := 11) hx hb dX1_negative_7 (by decide) ?_
    exact W.zret (v := (1 : Int32)) hx hb hr rfl (fun t ht hW => ⟨(1 : Int32), rfl, by rw [bg_negative, if_neg h1], ht⟩) (fun q h => absurd h List.not_mem_nil) dX1_negative_11
set_option maxHeartbeats 4000000 in
set_option maxRecDepth 100000 in
theorem bd_plain (l : Launch) (x1 : Int64) : Met l yX1_plain wsX1_plain ({ frames := 0, cells := 0, slots := 0, locals := 0 }) (va_Pc [.long x1] (fun _ => True)) (vp_Sl (fun r => r = bg_plain x1)) 0 0 (fun _ => False) := by
  refine Met.ofW (cc := cX1_plain) (maxL := 2) (ret := (some .long)) (by decide) rfl ?_
  intro p e s m args below meth c s₁ B hml hv
  obtain ⟨rfl, -⟩ := hv
  have hx := B.exec
  have hb := B.bytes
  have hr := B.returns
  have hts := atoms_spec (ws := wsX1_plain) B.pre
  have hown : s.vm.findClass RX1 = some m.cls := findClass_of_methodNamed B.named
  have hlocks := B.notSynchronized
  have hl := lv_entry ([.long x1]) (n := 2) (Nat.le_of_ble_eq_true rfl)
  rw [lg_entry_eq]
  generalize (lg_sl ([.long x1]) ++ List.replicate (2 - (lg_sl ([.long x1])).length) Slot.unset).toArray = ls at hl ⊢
  have hl : lv_has ls 2 [(0, .long x1)] := hl
  refine lv_lload_n hx hb dX1_plain_0 rfl (lv_at hl 0 rfl) ?_
  refine lv_ldc2 hx hb hown (hts (.constantLong RX1 13 9223372036854775807) (by decide +kernel)) dX1_plain_1 ?_
  refine lv_land hx hb dX1_plain_4 ?_
  exact W.lret (v := x1 &&& (9223372036854775807 : Int64)) hx hb hr (fun t ht hW => ⟨x1 &&& (9223372036854775807 : Int64), rfl, by rw [bg_plain], ht⟩) (fun q h => absurd h List.not_mem_nil) dX1_plain_5
set_option maxHeartbeats 4000000 in
set_option maxRecDepth 100000 in
theorem bd_signed (l : Launch) (x1 : Int64) (x2 : Int32) : Met l yX1_signed wsX1_signed ({ frames := 0, cells := 0, slots := 0, locals := 0 }) (va_Pc [.long x1, .int x2] (fun _ => True)) (vp_Sl (fun r => r = bg_signed x1 x2)) 0 0 (fun _ => False) := by
  refine Met.ofW (cc := cX1_signed) (maxL := 3) (ret := (some .long)) (by decide) rfl ?_
  intro p e s m args below meth c s₁ B hml hv
  obtain ⟨rfl, -⟩ := hv
  have hx := B.exec
  have hb := B.bytes
  have hr := B.returns
  have hts := atoms_spec (ws := wsX1_signed) B.pre
  have hown : s.vm.findClass RX1 = some m.cls := findClass_of_methodNamed B.named
  have hlocks := B.notSynchronized
  have hl := lv_entry ([.long x1, .int x2]) (n := 3) (Nat.le_of_ble_eq_true rfl)
  rw [lg_entry_eq]
  generalize (lg_sl ([.long x1, .int x2]) ++ List.replicate (3 - (lg_sl ([.long x1, .int x2])).length) Slot.unset).toArray = ls at hl ⊢
  have hl : lv_has ls 3 [(0, .long x1), (2, .int x2)] := hl
  refine lv_iload_n hx hb dX1_signed_0 rfl (lv_at hl 1 rfl) ?_
  refine lv_if_eq (tgt := 12) hx hb dX1_signed_1 (by decide) (fun h1 => ?_) (fun h1 => ?_)
  · refine lv_lload_n hx hb dX1_signed_12 rfl (lv_at hl 0 rfl) ?_
    exact W.lret (v := x1) hx hb hr (fun t ht hW => ⟨x1, rfl, by rw [bg_signed, if_pos h1], ht⟩) (fun q h => absurd h List.not_mem_nil) dX1_signed_13
  · refine lv_lload_n hx hb dX1_signed_4 rfl (lv_at hl 0 rfl) ?_
    refine lv_ldc2 hx hb hown (hts (.constantLong RX1 15 (-9223372036854775808)) (by decide +kernel)) dX1_signed_5 ?_
    refine lv_lor hx hb dX1_signed_8 ?_
    refine lv_goto (tgt := 13) hx hb dX1_signed_9 (by decide) ?_
    exact W.lret (v := x1 ||| (-9223372036854775808 : Int64)) hx hb hr (fun t ht hW => ⟨x1 ||| (-9223372036854775808 : Int64), rfl, by rw [bg_signed, if_neg h1], ht⟩) (fun q h => absurd h List.not_mem_nil) dX1_signed_13
set_option maxHeartbeats 4000000 in
set_option maxRecDepth 100000 in
theorem bd_isNan (l : Launch) (x1 : Int64) : Met l yX1_isNan wsX1_isNan ({ frames := 1, cells := 0, slots := 0, locals := 21 }) (va_Pc [.long x1] (fun _ => True)) (vp_Si (fun r => r = bg_isNan x1)) 0 0 (fun _ => False) := by
  refine Met.ofW (cc := cX1_isNan) (maxL := 2) (ret := (some .boolean)) (by decide) rfl ?_
  intro p e s m args below meth c s₁ B hml hv
  obtain ⟨rfl, -⟩ := hv
  have hx := B.exec
  have hb := B.bytes
  have hr := B.returns
  have hts := atoms_spec (ws := wsX1_isNan) B.pre
  have hown : s.vm.findClass RX1 = some m.cls := findClass_of_methodNamed B.named
  have hlocks := B.notSynchronized
  have hl := lv_entry ([.long x1]) (n := 2) (Nat.le_of_ble_eq_true rfl)
  rw [lg_entry_eq]
  generalize (lg_sl ([.long x1]) ++ List.replicate (2 - (lg_sl ([.long x1])).length) Slot.unset).toArray = ls at hl ⊢
  have hl : lv_has ls 2 [(0, .long x1)] := hl
  refine lv_lload_n hx hb dX1_isNan_0 rfl (lv_at hl 0 rfl) ?_
  refine bw_csl (rest := []) ⟨hx, hb, hml, hown, hts⟩ (bd_plain l x1) (va_cwS 1 hts gX1_isNan_X1_plain rfl rfl rfl (by decide +kernel) ⟨Nat.le_of_ble_eq_true rfl, Nat.le_of_ble_eq_true rfl⟩) rfl hl.1 rfl (Nat.le_of_ble_eq_true rfl) dX1_isNan_1 (Nat.zero_le _) (Nat.zero_le _) ?_
  refine lv_ldc2 hx hb hown (hts (.constantLong RX1 21 9218868437227405312) (by decide +kernel)) dX1_isNan_4 ?_
  refine bw_lc_le (tgt := 15) hx hb dX1_isNan_7 dX1_isNan_8 (by decide) (fun h1 => ?_) (fun h1 => ?_)
  · refine lv_iconst (v := 0) hx hb dX1_isNan_15 (by decide) ?_
    exact W.zret (v := (0 : Int32)) hx hb hr rfl (fun t ht hW => ⟨(0 : Int32), rfl, by rw [bg_isNan, if_pos h1], ht⟩) (fun q h => absurd h List.not_mem_nil) dX1_isNan_16
  · refine lv_iconst (v := 1) hx hb dX1_isNan_11 (by decide) ?_
    refine lv_goto (tgt := 16) hx hb dX1_isNan_12 (by decide) ?_
    exact W.zret (v := (1 : Int32)) hx hb hr rfl (fun t ht hW => ⟨(1 : Int32), rfl, by rw [bg_isNan, if_neg h1], ht⟩) (fun q h => absurd h List.not_mem_nil) dX1_isNan_16
set_option maxHeartbeats 4000000 in
set_option maxRecDepth 100000 in
theorem bd_isInfinite (l : Launch) (x1 : Int64) : Met l yX1_isInfinite wsX1_isInfinite ({ frames := 1, cells := 0, slots := 0, locals := 21 }) (va_Pc [.long x1] (fun _ => True)) (vp_Si (fun r => r = bg_isInfinite x1)) 0 0 (fun _ => False) := by
  refine Met.ofW (cc := cX1_isInfinite) (maxL := 2) (ret := (some .boolean)) (by decide) rfl ?_
  intro p e s m args below meth c s₁ B hml hv
  obtain ⟨rfl, -⟩ := hv
  have hx := B.exec
  have hb := B.bytes
  have hr := B.returns
  have hts := atoms_spec (ws := wsX1_isInfinite) B.pre
  have hown : s.vm.findClass RX1 = some m.cls := findClass_of_methodNamed B.named
  have hlocks := B.notSynchronized
  have hl := lv_entry ([.long x1]) (n := 2) (Nat.le_of_ble_eq_true rfl)
  rw [lg_entry_eq]
  generalize (lg_sl ([.long x1]) ++ List.replicate (2 - (lg_sl ([.long x1])).length) Slot.unset).toArray = ls at hl ⊢
  have hl : lv_has ls 2 [(0, .long x1)] := hl
  refine lv_lload_n hx hb dX1_isInfinite_0 rfl (lv_at hl 0 rfl) ?_
  refine bw_csl (rest := []) ⟨hx, hb, hml, hown, hts⟩ (bd_plain l x1) (va_cwS 1 hts gX1_isInfinite_X1_plain rfl rfl rfl (by decide +kernel) ⟨Nat.le_of_ble_eq_true rfl, Nat.le_of_ble_eq_true rfl⟩) rfl hl.1 rfl (Nat.le_of_ble_eq_true rfl) dX1_isInfinite_1 (Nat.zero_le _) (Nat.zero_le _) ?_
  refine lv_ldc2 hx hb hown (hts (.constantLong RX1 21 9218868437227405312) (by decide +kernel)) dX1_isInfinite_4 ?_
  refine bw_lc_ne (tgt := 15) hx hb dX1_isInfinite_7 dX1_isInfinite_8 (by decide) (fun h1 => ?_) (fun h1 => ?_)
  · refine lv_iconst (v := 0) hx hb dX1_isInfinite_15 (by decide) ?_
    exact W.zret (v := (0 : Int32)) hx hb hr rfl (fun t ht hW => ⟨(0 : Int32), rfl, by rw [bg_isInfinite, if_neg h1], ht⟩) (fun q h => absurd h List.not_mem_nil) dX1_isInfinite_16
  · refine lv_iconst (v := 1) hx hb dX1_isInfinite_11 (by decide) ?_
    refine lv_goto (tgt := 16) hx hb dX1_isInfinite_12 (by decide) ?_
    exact W.zret (v := (1 : Int32)) hx hb hr rfl (fun t ht hW => ⟨(1 : Int32), rfl, by rw [bg_isInfinite, if_pos h1], ht⟩) (fun q h => absurd h List.not_mem_nil) dX1_isInfinite_16
set_option maxHeartbeats 4000000 in
set_option maxRecDepth 100000 in
theorem bd_isZero (l : Launch) (x1 : Int64) : Met l yX1_isZero wsX1_isZero ({ frames := 1, cells := 0, slots := 0, locals := 21 }) (va_Pc [.long x1] (fun _ => True)) (vp_Si (fun r => r = bg_isZero x1)) 0 0 (fun _ => False) := by
  refine Met.ofW (cc := cX1_isZero) (maxL := 2) (ret := (some .boolean)) (by decide) rfl ?_
  intro p e s m args below meth c s₁ B hml hv
  obtain ⟨rfl, -⟩ := hv
  have hx := B.exec
  have hb := B.bytes
  have hr := B.returns
  have hts := atoms_spec (ws := wsX1_isZero) B.pre
  have hown : s.vm.findClass RX1 = some m.cls := findClass_of_methodNamed B.named
  have hlocks := B.notSynchronized
  have hl := lv_entry ([.long x1]) (n := 2) (Nat.le_of_ble_eq_true rfl)
  rw [lg_entry_eq]
  generalize (lg_sl ([.long x1]) ++ List.replicate (2 - (lg_sl ([.long x1])).length) Slot.unset).toArray = ls at hl ⊢
  have hl : lv_has ls 2 [(0, .long x1)] := hl
  refine lv_lload_n hx hb dX1_isZero_0 rfl (lv_at hl 0 rfl) ?_
  refine bw_csl (rest := []) ⟨hx, hb, hml, hown, hts⟩ (bd_plain l x1) (va_cwS 1 hts gX1_isZero_X1_plain rfl rfl rfl (by decide +kernel) ⟨Nat.le_of_ble_eq_true rfl, Nat.le_of_ble_eq_true rfl⟩) rfl hl.1 rfl (Nat.le_of_ble_eq_true rfl) dX1_isZero_1 (Nat.zero_le _) (Nat.zero_le _) ?_
  refine lv_lconst (v := 0) hx hb dX1_isZero_4 (by decide) ?_
  refine bw_lc_ne (tgt := 13) hx hb dX1_isZero_5 dX1_isZero_6 (by decide) (fun h1 => ?_) (fun h1 => ?_)
  · refine lv_iconst (v := 0) hx hb dX1_isZero_13 (by decide) ?_
    exact W.zret (v := (0 : Int32)) hx hb hr rfl (fun t ht hW => ⟨(0 : Int32), rfl, by rw [bg_isZero, if_neg h1], ht⟩) (fun q h => absurd h List.not_mem_nil) dX1_isZero_14
  · refine lv_iconst (v := 1) hx hb dX1_isZero_9 (by decide) ?_
    refine lv_goto (tgt := 14) hx hb dX1_isZero_10 (by decide) ?_
    exact W.zret (v := (1 : Int32)) hx hb hr rfl (fun t ht hW => ⟨(1 : Int32), rfl, by rw [bg_isZero, if_pos h1], ht⟩) (fun q h => absurd h List.not_mem_nil) dX1_isZero_14
set_option maxHeartbeats 4000000 in
set_option maxRecDepth 100000 in
theorem bd_number (l : Launch) (x1 : Int64) : Met l yX1_number wsX1_number ({ frames := 1, cells := 0, slots := 0, locals := 21 }) (va_Pc [.long x1] (fun _ => True)) (vp_Sl (fun r => r = bg_number x1)) 0 0 (fun _ => False) := by
  refine Met.ofW (cc := cX1_number) (maxL := 4) (ret := (some .long)) (by decide) rfl ?_
  intro p e s m args below meth c s₁ B hml hv
  obtain ⟨rfl, -⟩ := hv
  have hx := B.exec
  have hb := B.bytes
  have hr := B.returns
  have hts := atoms_spec (ws := wsX1_number) B.pre
  have hown : s.vm.findClass RX1 = some m.cls := findClass_of_methodNamed B.named
  have hlocks := B.notSynchronized
  have hl := lv_entry ([.long x1]) (n := 4) (Nat.le_of_ble_eq_true rfl)
  rw [lg_entry_eq]
  generalize (lg_sl ([.long x1]) ++ List.replicate (4 - (lg_sl ([.long x1])).length) Slot.unset).toArray = ls at hl ⊢
  have hl : lv_has ls 4 [(0, .long x1)] := hl
  refine lv_lload_n hx hb dX1_number_0 rfl (lv_at hl 0 rfl) ?_
  refine lv_ldc2 hx hb hown (hts (.constantLong RX1 23 4503599627370495) (by decide +kernel)) dX1_number_1 ?_
  refine lv_land hx hb dX1_number_4 ?_
  refine lv_lstore_n (nL := 4) (lv' := [(2, .long (x1 &&& (4503599627370495 : Int64))), (0, .long x1)]) hx hb dX1_number_5 rfl hl (by decide) rfl (fun ls hl => ?_)
  refine lv_lload_n hx hb dX1_number_6 rfl (lv_at hl 1 rfl) ?_
  refine bw_csl (rest := []) ⟨hx, hb, hml, hown, hts⟩ (bd_plain l x1) (va_cwS 1 hts gX1_number_X1_plain rfl rfl rfl (by decide +kernel) ⟨Nat.le_of_ble_eq_true rfl, Nat.le_of_ble_eq_true rfl⟩) rfl hl.1 rfl (Nat.le_of_ble_eq_true rfl) dX1_number_7 (Nat.zero_le _) (Nat.zero_le _) ?_
  refine lv_ldc2 hx hb hown (hts (.constantLong RX1 25 4503599627370496) (by decide +kernel)) dX1_number_10 ?_
  refine bw_lc_ge (tgt := 21) hx hb dX1_number_13 dX1_number_14 (by decide) (fun h1 => ?_) (fun h1 => ?_)
  · refine lv_lload_n hx hb dX1_number_21 rfl (lv_at hl 0 rfl) ?_
    refine lv_ldc2 hx hb hown (hts (.constantLong RX1 25 4503599627370496) (by decide +kernel)) dX1_number_22 ?_
    refine lv_ladd hx hb dX1_number_25 ?_
    exact W.lret (v := (x1 &&& (4503599627370495 : Int64)) + (4503599627370496 : Int64)) hx hb hr (fun t ht hW => ⟨(x1 &&& (4503599627370495 : Int64)) + (4503599627370496 : Int64), rfl, by rw [bg_number, if_pos h1], ht⟩) (fun q h => absurd h List.not_mem_nil) dX1_number_26
  · refine lv_lload_n hx hb dX1_number_17 rfl (lv_at hl 0 rfl) ?_
    refine lv_goto (tgt := 26) hx hb dX1_number_18 (by decide) ?_
    exact W.lret (v := x1 &&& (4503599627370495 : Int64)) hx hb hr (fun t ht hW => ⟨x1 &&& (4503599627370495 : Int64), rfl, by rw [bg_number, if_neg h1], ht⟩) (fun q h => absurd h List.not_mem_nil) dX1_number_26
set_option maxHeartbeats 4000000 in
set_option maxRecDepth 100000 in
theorem bd_power (l : Launch) (x1 : Int64) : Met l yX1_power wsX1_power ({ frames := 1, cells := 0, slots := 0, locals := 21 }) (va_Pc [.long x1] (fun _ => True)) (vp_Si (fun r => r = bg_power x1)) 0 0 (fun _ => False) := by
  refine Met.ofW (cc := cX1_power) (maxL := 3) (ret := (some .int)) (by decide) rfl ?_
  intro p e s m args below meth c s₁ B hml hv
  obtain ⟨rfl, -⟩ := hv
  have hx := B.exec
  have hb := B.bytes
  have hr := B.returns
  have hts := atoms_spec (ws := wsX1_power) B.pre
  have hown : s.vm.findClass RX1 = some m.cls := findClass_of_methodNamed B.named
  have hlocks := B.notSynchronized
  have hl := lv_entry ([.long x1]) (n := 3) (Nat.le_of_ble_eq_true rfl)
  rw [lg_entry_eq]
  generalize (lg_sl ([.long x1]) ++ List.replicate (3 - (lg_sl ([.long x1])).length) Slot.unset).toArray = ls at hl ⊢
  have hl : lv_has ls 3 [(0, .long x1)] := hl
  refine lv_lload_n hx hb dX1_power_0 rfl (lv_at hl 0 rfl) ?_
  refine bw_csl (rest := []) ⟨hx, hb, hml, hown, hts⟩ (bd_plain l x1) (va_cwS 1 hts gX1_power_X1_plain rfl rfl rfl (by decide +kernel) ⟨Nat.le_of_ble_eq_true rfl, Nat.le_of_ble_eq_true rfl⟩) rfl hl.1 rfl (Nat.le_of_ble_eq_true rfl) dX1_power_1 (Nat.zero_le _) (Nat.zero_le _) ?_
  refine lv_bipush (v := 52) hx hb dX1_power_4 (by decide) ?_
  refine lv_lshr hx hb dX1_power_6 rfl ?_
  refine lv_l2i hx hb dX1_power_7 rfl ?_
  refine lv_istore_n (nL := 3) (lv' := [(2, .int (((bg_plain x1) >>> ((52 : Int32).toInt64 &&& 63)).toInt32)), (0, .long x1)]) hx hb dX1_power_8 rfl hl (by decide) rfl (fun ls hl => ?_)
  refine lv_iload_n hx hb dX1_power_9 rfl (lv_at hl 0 rfl) ?_
  refine lv_if_ne (tgt := 19) hx hb dX1_power_10 (by decide) (fun h1 => ?_) (fun h1 => ?_)
  · refine lv_iload_n hx hb dX1_power_19 rfl (lv_at hl 0 rfl) ?_
    refine lv_sipush (v := 1075) hx hb dX1_power_20 (by decide) ?_
    refine lv_isub hx hb dX1_power_23 ?_
    exact W.iret (v := (((bg_plain x1) >>> ((52 : Int32).toInt64 &&& 63)).toInt32) - (1075 : Int32)) hx hb hr (fun t ht hW => ⟨(((bg_plain x1) >>> ((52 : Int32).toInt64 &&& 63)).toInt32) - (1075 : Int32), rfl, by rw [bg_power, if_neg h1], ht⟩) (fun q h => absurd h List.not_mem_nil) dX1_power_24
  · refine lv_sipush (v := -1074) hx hb dX1_power_13 (by decide) ?_
    refine lv_goto (tgt := 24) hx hb dX1_power_16 (by decide) ?_
    exact W.iret (v := (-1074 : Int32)) hx hb hr (fun t ht hW => ⟨(-1074 : Int32), rfl, by rw [bg_power, if_pos h1], ht⟩) (fun q h => absurd h List.not_mem_nil) dX1_power_24
set_option maxHeartbeats 4000000 in
set_option maxRecDepth 100000 in
theorem bl_exact_1_w {p : Program} {l : Launch} {e : Env} {R : Room} {s : State} {m : MethodId} {args : Array Value} {below : List Frame} {meth : Method} {c : Code} {H : Heap} {locs : List Loc} {Q : State → Prop} (hx : p.tables.exec = Jvm.exec) (hb : c.code = cX1_exact) (hml : c.maxLocals = 7) (hown : s.vm.findClass RX1 = some m.cls) (hts : ∀ w ∈ wsX1_exact, w.before args s = true) {c0 : Int64} {c2 : Int32} : ∀ (n : Nat) (v3 : Int64) (v5 : Int32) (v6 : Int32) (ls : Array Slot) (r : Int64 × Int32 × Int32), lv_has ls 7 [(0, .long c0), (2, .int c2), (3, .long v3), (5, .int v5), (6, .int v6)] → bl_it (bl_exact_1_st) n (v3, v5, v6) = some r → (∀ (ls : Array Slot), lv_has ls 7 [(0, .long c0), (2, .int c2), (3, .long r.1), (5, .int r.2.1), (6, .int r.2.2)] → W p l e R s m args below meth c H locs 0 0 Q (F0 m 53 ls [])) → W p l e R s m args below meth c H locs 0 0 Q (F0 m 16 ls []) := by
  intro n
  induction n with
  | zero => intro v3 v5 v6 ls r hl h; cases h
  | succ n ih =>
    intro v3 v5 v6 ls r hl h kk
    refine lv_iload hx hb dX1_exact_16 (lv_at hl 4 rfl) ?_
    refine lv_sipush (v := 2200) hx hb dX1_exact_18 (by decide) ?_
    refine lv_icmp_ge (tgt := 53) hx hb dX1_exact_21 (by decide) (fun h2 => ?_) (fun h2 => ?_)
    · obtain rfl := bl_stepR (s := (v3, v5, v6)) (show bl_exact_1_b v3 v5 v6 = .inr (v3, v5, v6) by rw [bl_exact_1_b, if_pos h2]) h
      exact kk ls (lv_sub hl [0, 1, 2, 3, 4] rfl)
    · refine lv_lload_n hx hb dX1_exact_24 rfl (lv_at hl 2 rfl) ?_
      refine lv_ldc2 hx hb hown (hts (.constantLong RX1 27 9007199254740992) (by decide +kernel)) dX1_exact_25 ?_
      refine bw_lc_ge (tgt := 40) hx hb dX1_exact_28 dX1_exact_29 (by decide) (fun h3 => ?_) (fun h3 => ?_)
      · refine lv_lload_n hx hb dX1_exact_40 rfl (lv_at hl 2 rfl) ?_
        refine lv_iconst (v := 1) hx hb dX1_exact_41 (by decide) ?_
        refine lv_lshr hx hb dX1_exact_42 rfl ?_
        refine lv_lstore_n (nL := 7) (lv' := [(3, .long (v3 >>> ((1 : Int32).toInt64 &&& 63))), (0, .long c0), (2, .int c2), (5, .int v5), (6, .int v6)]) hx hb dX1_exact_43 rfl hl (by decide) rfl (fun ls hl => ?_)
        refine lv_iinc (nL := 7) (k := 3) (v := v5 + (1 : Int32)) (lv' := [(5, .int (v5 + (1 : Int32))), (3, .long (v3 >>> ((1 : Int32).toInt64 &&& 63))), (0, .long c0), (2, .int c2), (6, .int v6)]) hx hb dX1_exact_44 hl rfl rfl (by decide) rfl (fun ls hl => ?_)
        refine lv_iinc (nL := 7) (k := 4) (v := v6 + (1 : Int32)) (lv' := [(6, .int (v6 + (1 : Int32))), (5, .int (v5 + (1 : Int32))), (3, .long (v3 >>> ((1 : Int32).toInt64 &&& 63))), (0, .long c0), (2, .int c2)]) hx hb dX1_exact_47 hl rfl rfl (by decide) rfl (fun ls hl => ?_)
        refine lv_goto (tgt := 16) hx hb dX1_exact_50 (by decide) ?_
        exact ih (v3 >>> ((1 : Int32).toInt64 &&& 63)) (v5 + (1 : Int32)) (v6 + (1 : Int32)) ls r (lv_sub hl [3, 4, 2, 1, 0] rfl) (bl_stepL (s := (v3, v5, v6)) (show bl_exact_1_b v3 v5 v6 = .inl (v3 >>> ((1 : Int32).toInt64 &&& 63), v5 + (1 : Int32), v6 + (1 : Int32)) by rw [bl_exact_1_b, if_neg h2, if_pos h3]) h) kk
      · refine lv_iload hx hb dX1_exact_32 (lv_at hl 3 rfl) ?_
        refine lv_sipush (v := -1074) hx hb dX1_exact_34 (by decide) ?_
        refine lv_icmp_ge (tgt := 53) hx hb dX1_exact_37 (by decide) (fun h4 => ?_) (fun h4 => ?_)
        · obtain rfl := bl_stepR (s := (v3, v5, v6)) (show bl_exact_1_b v3 v5 v6 = .inr (v3, v5, v6) by rw [bl_exact_1_b, if_neg h2, if_neg h3, if_pos h4]) h
          exact kk ls (lv_sub hl [0, 1, 2, 3, 4] rfl)
        · refine lv_lload_n hx hb dX1_exact_40 rfl (lv_at hl 2 rfl) ?_
          refine lv_iconst (v := 1) hx hb dX1_exact_41 (by decide) ?_
          refine lv_lshr hx hb dX1_exact_42 rfl ?_
          refine lv_lstore_n (nL := 7) (lv' := [(3, .long (v3 >>> ((1 : Int32).toInt64 &&& 63))), (0, .long c0), (2, .int c2), (5, .int v5), (6, .int v6)]) hx hb dX1_exact_43 rfl hl (by decide) rfl (fun ls hl => ?_)
          refine lv_iinc (nL := 7) (k := 3) (v := v5 + (1 : Int32)) (lv' := [(5, .int (v5 + (1 : Int32))), (3, .long (v3 >>> ((1 : Int32).toInt64 &&& 63))), (0, .long c0), (2, .int c2), (6, .int v6)]) hx hb dX1_exact_44 hl rfl rfl (by decide) rfl (fun ls hl => ?_)
          refine lv_iinc (nL := 7) (k := 4) (v := v6 + (1 : Int32)) (lv' := [(6, .int (v6 + (1 : Int32))), (5, .int (v5 + (1 : Int32))), (3, .long (v3 >>> ((1 : Int32).toInt64 &&& 63))), (0, .long c0), (2, .int c2)]) hx hb dX1_exact_47 hl rfl rfl (by decide) rfl (fun ls hl => ?_)
          refine lv_goto (tgt := 16) hx hb dX1_exact_50 (by decide) ?_
          exact ih (v3 >>> ((1 : Int32).toInt64 &&& 63)) (v5 + (1 : Int32)) (v6 + (1 : Int32)) ls r (lv_sub hl [3, 4, 2, 1, 0] rfl) (bl_stepL (s := (v3, v5, v6)) (show bl_exact_1_b v3 v5 v6 = .inl (v3 >>> ((1 : Int32).toInt64 &&& 63), v5 + (1 : Int32), v6 + (1 : Int32)) by rw [bl_exact_1_b, if_neg h2, if_neg h3, if_neg h4]) h) kk
set_option maxHeartbeats 4000000 in
set_option maxRecDepth 100000 in
theorem bl_exact_2_w {p : Program} {l : Launch} {e : Env} {R : Room} {s : State} {m : MethodId} {args : Array Value} {below : List Frame} {meth : Method} {c : Code} {H : Heap} {locs : List Loc} {Q : State → Prop} (hx : p.tables.exec = Jvm.exec) (hb : c.code = cX1_exact) (hml : c.maxLocals = 7) (hown : s.vm.findClass RX1 = some m.cls) (hts : ∀ w ∈ wsX1_exact, w.before args s = true) {c0 : Int64} {c2 : Int32} : ∀ (n : Nat) (v3 : Int64) (v5 : Int32) (v6 : Int32) (ls : Array Slot) (r : Int64 × Int32 × Int32), lv_has ls 7 [(0, .long c0), (2, .int c2), (3, .long v3), (5, .int v5), (6, .int v6)] → bl_it (bl_exact_2_st) n (v3, v5, v6) = some r → (∀ (ls : Array Slot), lv_has ls 7 [(0, .long c0), (2, .int c2), (3, .long r.1), (5, .int r.2.1), (6, .int r.2.2)] → W p l e R s m args below meth c H locs 0 0 Q (F0 m 93 ls [])) → W p l e R s m args below meth c H locs 0 0 Q (F0 m 56 ls []) := by
  intro n
  induction n with
  | zero => intro v3 v5 v6 ls r hl h; cases h
  | succ n ih =>
    intro v3 v5 v6 ls r hl h kk
    refine lv_iload hx hb dX1_exact_56 (lv_at hl 4 rfl) ?_
    refine lv_sipush (v := 2200) hx hb dX1_exact_58 (by decide) ?_
    refine lv_icmp_ge (tgt := 93) hx hb dX1_exact_61 (by decide) (fun h7 => ?_) (fun h7 => ?_)
    · obtain rfl := bl_stepR (s := (v3, v5, v6)) (show bl_exact_2_b v3 v5 v6 = .inr (v3, v5, v6) by rw [bl_exact_2_b, if_pos h7]) h
      exact kk ls (lv_sub hl [0, 1, 2, 3, 4] rfl)
    · refine lv_lload_n hx hb dX1_exact_64 rfl (lv_at hl 2 rfl) ?_
      refine lv_ldc2 hx hb hown (hts (.constantLong RX1 25 4503599627370496) (by decide +kernel)) dX1_exact_65 ?_
      refine bw_lc_ge (tgt := 93) hx hb dX1_exact_68 dX1_exact_69 (by decide) (fun h8 => ?_) (fun h8 => ?_)
      · obtain rfl := bl_stepR (s := (v3, v5, v6)) (show bl_exact_2_b v3 v5 v6 = .inr (v3, v5, v6) by rw [bl_exact_2_b, if_neg h7, if_pos h8]) h
        exact kk ls (lv_sub hl [0, 1, 2, 3, 4] rfl)
      · refine lv_iload hx hb dX1_exact_72 (lv_at hl 3 rfl) ?_
        refine lv_sipush (v := -1074) hx hb dX1_exact_74 (by decide) ?_
        refine lv_icmp_le (tgt := 93) hx hb dX1_exact_77 (by decide) (fun h9 => ?_) (fun h9 => ?_)
        · obtain rfl := bl_stepR (s := (v3, v5, v6)) (show bl_exact_2_b v3 v5 v6 = .inr (v3, v5, v6) by rw [bl_exact_2_b, if_neg h7, if_neg h8, if_pos h9]) h
          exact kk ls (lv_sub hl [0, 1, 2, 3, 4] rfl)
        · refine lv_lload_n hx hb dX1_exact_80 rfl (lv_at hl 2 rfl) ?_
          refine lv_iconst (v := 1) hx hb dX1_exact_81 (by decide) ?_
          refine lv_lshl hx hb dX1_exact_82 rfl ?_
          refine lv_lstore_n (nL := 7) (lv' := [(3, .long (v3 <<< ((1 : Int32).toInt64 &&& 63))), (0, .long c0), (2, .int c2), (5, .int v5), (6, .int v6)]) hx hb dX1_exact_83 rfl hl (by decide) rfl (fun ls hl => ?_)
          refine lv_iinc (nL := 7) (k := 3) (v := v5 + (-1 : Int32)) (lv' := [(5, .int (v5 + (-1 : Int32))), (3, .long (v3 <<< ((1 : Int32).toInt64 &&& 63))), (0, .long c0), (2, .int c2), (6, .int v6)]) hx hb dX1_exact_84 hl rfl rfl (by decide) rfl (fun ls hl => ?_)
          refine lv_iinc (nL := 7) (k := 4) (v := v6 + (1 : Int32)) (lv' := [(6, .int (v6 + (1 : Int32))), (5, .int (v5 + (-1 : Int32))), (3, .long (v3 <<< ((1 : Int32).toInt64 &&& 63))), (0, .long c0), (2, .int c2)]) hx hb dX1_exact_87 hl rfl rfl (by decide) rfl (fun ls hl => ?_)
          refine lv_goto (tgt := 56) hx hb dX1_exact_90 (by decide) ?_
          exact ih (v3 <<< ((1 : Int32).toInt64 &&& 63)) (v5 + (-1 : Int32)) (v6 + (1 : Int32)) ls r (lv_sub hl [3, 4, 2, 1, 0] rfl) (bl_stepL (s := (v3, v5, v6)) (show bl_exact_2_b v3 v5 v6 = .inl (v3 <<< ((1 : Int32).toInt64 &&& 63), v5 + (-1 : Int32), v6 + (1 : Int32)) by rw [bl_exact_2_b, if_neg h7, if_neg h8, if_neg h9]) h) kk
set_option maxHeartbeats 4000000 in
set_option maxRecDepth 100000 in
theorem bd_exact (l : Launch) (x1 : Int64) (x2 : Int32) : Met l yX1_exact wsX1_exact ({ frames := 0, cells := 0, slots := 0, locals := 0 }) (va_Pc [.long x1, .int x2] (fun _ => True)) (vp_Sl (fun r => r = bg_exact x1 x2)) 0 0 (fun _ => False) := by
  refine Met.ofW (cc := cX1_exact) (maxL := 7) (ret := (some .long)) (by decide) rfl ?_
  intro p e s m args below meth c s₁ B hml hv
  obtain ⟨rfl, -⟩ := hv
  have hx := B.exec
  have hb := B.bytes
  have hr := B.returns
  have hts := atoms_spec (ws := wsX1_exact) B.pre
  have hown : s.vm.findClass RX1 = some m.cls := findClass_of_methodNamed B.named
  have hlocks := B.notSynchronized
  have hl := lv_entry ([.long x1, .int x2]) (n := 7) (Nat.le_of_ble_eq_true rfl)
  rw [lg_entry_eq]
  generalize (lg_sl ([.long x1, .int x2]) ++ List.replicate (7 - (lg_sl ([.long x1, .int x2])).length) Slot.unset).toArray = ls at hl ⊢
  have hl : lv_has ls 7 [(0, .long x1), (2, .int x2)] := hl
  refine lv_lload_n hx hb dX1_exact_0 rfl (lv_at hl 0 rfl) ?_
  refine lv_lstore_n (nL := 7) (lv' := [(3, .long x1), (0, .long x1), (2, .int x2)]) hx hb dX1_exact_1 rfl hl (by decide) rfl (fun ls hl => ?_)
  refine lv_iload_n hx hb dX1_exact_2 rfl (lv_at hl 2 rfl) ?_
  refine lv_istore (nL := 7) (lv' := [(5, .int x2), (3, .long x1), (0, .long x1), (2, .int x2)]) hx hb dX1_exact_3 hl (by decide) rfl (fun ls hl => ?_)
  refine lv_lload_n hx hb dX1_exact_5 rfl (lv_at hl 1 rfl) ?_
  refine lv_lconst (v := 0) hx hb dX1_exact_6 (by decide) ?_
  refine bw_lc_ne (tgt := 13) hx hb dX1_exact_7 dX1_exact_8 (by decide) (fun h1 => ?_) (fun h1 => ?_)
  · refine lv_iconst (v := 0) hx hb dX1_exact_13 (by decide) ?_
    refine lv_istore (nL := 7) (lv' := [(6, .int (0 : Int32)), (5, .int x2), (3, .long x1), (0, .long x1), (2, .int x2)]) hx hb dX1_exact_14 hl (by decide) rfl (fun ls hl => ?_)
    obtain ⟨n5, e5⟩ := bl_exact_1_ok (x1, x2, (0 : Int32))
    refine bl_exact_1_w hx hb hml hown hts n5 x1 x2 (0 : Int32) ls _ (lv_sub hl [3, 4, 2, 1, 0] rfl) e5 (fun ls hl => ?_)
    have hl : lv_has ls 7 [(0, .long x1), (2, .int x2), (3, .long ((bl_exact_1 (x1, x2, (0 : Int32))).1)), (5, .int ((bl_exact_1 (x1, x2, (0 : Int32))).2.1)), (6, .int ((bl_exact_1 (x1, x2, (0 : Int32))).2.2))] := hl
    obtain ⟨r6, e6⟩ : ∃ r, (bl_exact_1 (x1, x2, (0 : Int32))) = r := ⟨_, rfl⟩
    rw [e6] at hl
    refine lv_iconst (v := 0) hx hb dX1_exact_53 (by decide) ?_
    refine lv_istore (nL := 7) (lv' := [(6, .int (0 : Int32)), (0, .long x1), (2, .int x2), (3, .long r6.1), (5, .int r6.2.1)]) hx hb dX1_exact_54 hl (by decide) rfl (fun ls hl => ?_)
    obtain ⟨n10, e10⟩ := bl_exact_2_ok (r6.1, r6.2.1, (0 : Int32))
    refine bl_exact_2_w hx hb hml hown hts n10 r6.1 r6.2.1 (0 : Int32) ls _ (lv_sub hl [1, 2, 3, 4, 0] rfl) e10 (fun ls hl => ?_)
    have hl : lv_has ls 7 [(0, .long x1), (2, .int x2), (3, .long ((bl_exact_2 (r6.1, r6.2.1, (0 : Int32))).1)), (5, .int ((bl_exact_2 (r6.1, r6.2.1, (0 : Int32))).2.1)), (6, .int ((bl_exact_2 (r6.1, r6.2.1, (0 : Int32))).2.2))] := hl
    obtain ⟨r11, e11⟩ : ∃ r, (bl_exact_2 (r6.1, r6.2.1, (0 : Int32))) = r := ⟨_, rfl⟩
    rw [e11] at hl
    refine lv_lload_n hx hb dX1_exact_93 rfl (lv_at hl 2 rfl) ?_
    refine lv_ldc2 hx hb hown (hts (.constantLong RX1 25 4503599627370496) (by decide +kernel)) dX1_exact_94 ?_
    refine bw_lc_ge (tgt := 105) hx hb dX1_exact_97 dX1_exact_98 (by decide) (fun h12 => ?_) (fun h12 => ?_)
    · refine lv_lload_n hx hb dX1_exact_105 rfl (lv_at hl 2 rfl) ?_
      refine lv_ldc2 hx hb hown (hts (.constantLong RX1 25 4503599627370496) (by decide +kernel)) dX1_exact_106 ?_
      refine lv_lsub hx hb dX1_exact_109 ?_
      refine lv_iload hx hb dX1_exact_110 (lv_at hl 3 rfl) ?_
      refine lv_sipush (v := 1075) hx hb dX1_exact_112 (by decide) ?_
      refine lv_iadd hx hb dX1_exact_115 ?_
      refine lv_i2l hx hb dX1_exact_116 rfl ?_
      refine lv_bipush (v := 52) hx hb dX1_exact_117 (by decide) ?_
      refine lv_lshl hx hb dX1_exact_119 rfl ?_
      refine lv_ladd hx hb dX1_exact_120 ?_
      exact W.lret (v := (r11.1 - (4503599627370496 : Int64)) + (((r11.2.1 + (1075 : Int32)).toInt64) <<< ((52 : Int32).toInt64 &&& 63))) hx hb hr (fun t ht hW => ⟨(r11.1 - (4503599627370496 : Int64)) + (((r11.2.1 + (1075 : Int32)).toInt64) <<< ((52 : Int32).toInt64 &&& 63)), rfl, by rw [bg_exact, if_neg h1, e6, bg_exact_k1, e11, bg_exact_k2, if_pos h12], ht⟩) (fun q h => absurd h List.not_mem_nil) dX1_exact_121
    · refine lv_lload_n hx hb dX1_exact_101 rfl (lv_at hl 2 rfl) ?_
      refine lv_goto (tgt := 121) hx hb dX1_exact_102 (by decide) ?_
      exact W.lret (v := r11.1) hx hb hr (fun t ht hW => ⟨r11.1, rfl, by rw [bg_exact, if_neg h1, e6, bg_exact_k1, e11, bg_exact_k2, if_neg h12], ht⟩) (fun q h => absurd h List.not_mem_nil) dX1_exact_121
  · refine lv_lconst (v := 0) hx hb dX1_exact_11 (by decide) ?_
    exact W.lret (v := (0 : Int64)) hx hb hr (fun t ht hW => ⟨(0 : Int64), rfl, by rw [bg_exact, if_pos h1], ht⟩) (fun q h => absurd h List.not_mem_nil) dX1_exact_12
set_option maxHeartbeats 4000000 in
set_option maxRecDepth 100000 in
theorem bd_cut (l : Launch) (x1 : Int64) (x2 : Int32) (x3 : Int32) (x4 : Int32) : Met l yX1_cut wsX1_cut ({ frames := 0, cells := 0, slots := 0, locals := 0 }) (va_Pc [.long x1, .int x2, .int x3, .int x4] (fun _ => True)) (vp_Sl (fun r => r = bg_cut x1 x2 x3 x4)) 0 0 (fun _ => False) := by
  refine Met.ofW (cc := cX1_cut) (maxL := 12) (ret := (some .long)) (by decide) rfl ?_
  intro p e s m args below meth c s₁ B hml hv
  obtain ⟨rfl, -⟩ := hv
  have hx := B.exec
  have hb := B.bytes
  have hr := B.returns
  have hts := atoms_spec (ws := wsX1_cut) B.pre
  have hown : s.vm.findClass RX1 = some m.cls := findClass_of_methodNamed B.named
  have hlocks := B.notSynchronized
  have hl := lv_entry ([.long x1, .int x2, .int x3, .int x4]) (n := 12) (Nat.le_of_ble_eq_true rfl)
  rw [lg_entry_eq]
  generalize (lg_sl ([.long x1, .int x2, .int x3, .int x4]) ++ List.replicate (12 - (lg_sl ([.long x1, .int x2, .int x3, .int x4])).length) Slot.unset).toArray = ls at hl ⊢
  have hl : lv_has ls 12 [(0, .long x1), (2, .int x2), (3, .int x3), (4, .int x4)] := hl
  refine lv_iload_n hx hb dX1_cut_0 rfl (lv_at hl 1 rfl) ?_
  refine lv_bipush (v := 54) hx hb dX1_cut_1 (by decide) ?_
  refine lv_icmp_le (tgt := 10) hx hb dX1_cut_3 (by decide) (fun h1 => ?_) (fun h1 => ?_)
  · refine lv_lload_n hx hb dX1_cut_10 rfl (lv_at hl 0 rfl) ?_
    refine lv_iload_n hx hb dX1_cut_11 rfl (lv_at hl 1 rfl) ?_
    refine lv_lshr hx hb dX1_cut_12 rfl ?_
    refine lv_lstore (nL := 12) (lv' := [(5, .long (x1 >>> (x2.toInt64 &&& 63))), (0, .long x1), (2, .int x2), (3, .int x3), (4, .int x4)]) hx hb dX1_cut_13 hl (by decide) rfl (fun ls hl => ?_)
    refine lv_iload_n hx hb dX1_cut_15 rfl (lv_at hl 2 rfl) ?_
    refine lv_bipush (v := 54) hx hb dX1_cut_16 (by decide) ?_
    refine lv_icmp_le (tgt := 35) hx hb dX1_cut_18 (by decide) (fun h2 => ?_) (fun h2 => ?_)
    rotate_left
    · exact absurd h1 h2
    refine lv_lload hx hb dX1_cut_35 (lv_at hl 0 rfl) ?_
    refine lv_iload_n hx hb dX1_cut_37 rfl (lv_at hl 2 rfl) ?_
    refine lv_lshl hx hb dX1_cut_38 rfl ?_
    refine lv_lload_n hx hb dX1_cut_39 rfl (lv_at hl 1 rfl) ?_
    refine bw_lc_eq (tgt := 48) hx hb dX1_cut_40 dX1_cut_41 (by decide) (fun h3 => ?_) (fun h3 => ?_)
    · refine lv_iconst (v := 0) hx hb dX1_cut_48 (by decide) ?_
      refine lv_istore (nL := 12) (lv' := [(7, .int (0 : Int32)), (5, .long (x1 >>> (x2.toInt64 &&& 63))), (0, .long x1), (2, .int x2), (3, .int x3), (4, .int x4)]) hx hb dX1_cut_49 hl (by decide) rfl (fun ls hl => ?_)
      refine lv_iload_n hx hb dX1_cut_51 rfl (lv_at hl 4 rfl) ?_
      refine lv_if_ne (tgt := 75) hx hb dX1_cut_52 (by decide) (fun h4 => ?_) (fun h4 => ?_)
      · refine lv_iload_n hx hb dX1_cut_75 rfl (lv_at hl 3 rfl) ?_
        refine lv_bipush (v := 54) hx hb dX1_cut_76 (by decide) ?_
        refine lv_icmp_le (tgt := 83) hx hb dX1_cut_78 (by decide) (fun h5 => ?_) (fun h5 => ?_)
        rotate_left
        · exact absurd h1 h5
        refine lv_lload_n hx hb dX1_cut_83 rfl (lv_at hl 2 rfl) ?_
        refine lv_lload hx hb dX1_cut_84 (lv_at hl 1 rfl) ?_
        refine lv_iload_n hx hb dX1_cut_86 rfl (lv_at hl 3 rfl) ?_
        refine lv_lshl hx hb dX1_cut_87 rfl ?_
        refine lv_lsub hx hb dX1_cut_88 ?_
        refine lv_lstore (nL := 12) (lv' := [(8, .long (x1 - ((x1 >>> (x2.toInt64 &&& 63)) <<< (x2.toInt64 &&& 63)))), (7, .int (0 : Int32)), (5, .long (x1 >>> (x2.toInt64 &&& 63))), (0, .long x1), (2, .int x2), (3, .int x3), (4, .int x4)]) hx hb dX1_cut_89 hl (by decide) rfl (fun ls hl => ?_)
        refine lv_lconst (v := 1) hx hb dX1_cut_91 (by decide) ?_
        refine lv_iload_n hx hb dX1_cut_92 rfl (lv_at hl 4 rfl) ?_
        refine lv_iconst (v := 1) hx hb dX1_cut_93 (by decide) ?_
        refine lv_isub hx hb dX1_cut_94 ?_
        refine lv_lshl hx hb dX1_cut_95 rfl ?_
        refine lv_lstore (nL := 12) (lv' := [(10, .long ((1 : Int64) <<< ((x2 - (1 : Int32)).toInt64 &&& 63))), (8, .long (x1 - ((x1 >>> (x2.toInt64 &&& 63)) <<< (x2.toInt64 &&& 63)))), (7, .int (0 : Int32)), (5, .long (x1 >>> (x2.toInt64 &&& 63))), (0, .long x1), (2, .int x2), (3, .int x3), (4, .int x4)]) hx hb dX1_cut_96 hl (by decide) rfl (fun ls hl => ?_)
        refine lv_lload hx hb dX1_cut_98 (lv_at hl 1 rfl) ?_
        refine lv_lload hx hb dX1_cut_100 (lv_at hl 0 rfl) ?_
        refine bw_lc_gt (tgt := 125) hx hb dX1_cut_102 dX1_cut_103 (by decide) (fun h6 => ?_) (fun h6 => ?_)
        · refine lv_lload hx hb dX1_cut_125 (lv_at hl 3 rfl) ?_
          refine lv_lconst (v := 1) hx hb dX1_cut_127 (by decide) ?_
          refine lv_ladd hx hb dX1_cut_128 ?_
          refine lv_goto (tgt := 134) hx hb dX1_cut_129 (by decide) ?_
          exact W.lret (v := (x1 >>> (x2.toInt64 &&& 63)) + (1 : Int64)) hx hb hr (fun t ht hW => ⟨(x1 >>> (x2.toInt64 &&& 63)) + (1 : Int64), rfl, by rw [bg_cut, if_pos h1, if_pos h3, if_neg h4, if_pos h6], ht⟩) (fun q h => absurd h List.not_mem_nil) dX1_cut_134
        · refine lv_lload hx hb dX1_cut_106 (lv_at hl 1 rfl) ?_
          refine lv_lload hx hb dX1_cut_108 (lv_at hl 0 rfl) ?_
          refine bw_lc_ne (tgt := 132) hx hb dX1_cut_110 dX1_cut_111 (by decide) (fun h7 => ?_) (fun h7 => ?_)
          · refine lv_lload hx hb dX1_cut_132 (lv_at hl 3 rfl) ?_
            exact W.lret (v := x1 >>> (x2.toInt64 &&& 63)) hx hb hr (fun t ht hW => ⟨x1 >>> (x2.toInt64 &&& 63), rfl, by rw [bg_cut, if_pos h1, if_pos h3, if_neg h4, if_neg h6, if_neg h7], ht⟩) (fun q h => absurd h List.not_mem_nil) dX1_cut_134
          · refine lv_lload hx hb dX1_cut_114 (lv_at hl 3 rfl) ?_
            refine lv_ldc2 hx hb hown (hts (.constantLong RX1 65 2) (by decide +kernel)) dX1_cut_116 ?_
            refine lv_lrem hx hb dX1_cut_119 (by decide) ?_
            refine lv_lconst (v := 1) hx hb dX1_cut_120 (by decide) ?_
            refine bw_lc_ne (tgt := 132) hx hb dX1_cut_121 dX1_cut_122 (by decide) (fun h8 => ?_) (fun h8 => ?_)
            · refine lv_lload hx hb dX1_cut_132 (lv_at hl 3 rfl) ?_
              exact W.lret (v := x1 >>> (x2.toInt64 &&& 63)) hx hb hr (fun t ht hW => ⟨x1 >>> (x2.toInt64 &&& 63), rfl, by rw [bg_cut, if_pos h1, if_pos h3, if_neg h4, if_neg h6, if_pos h7, if_neg h8], ht⟩) (fun q h => absurd h List.not_mem_nil) dX1_cut_134
            · refine lv_lload hx hb dX1_cut_125 (lv_at hl 3 rfl) ?_
              refine lv_lconst (v := 1) hx hb dX1_cut_127 (by decide) ?_
              refine lv_ladd hx hb dX1_cut_128 ?_
              refine lv_goto (tgt := 134) hx hb dX1_cut_129 (by decide) ?_
              exact W.lret (v := (x1 >>> (x2.toInt64 &&& 63)) + (1 : Int64)) hx hb hr (fun t ht hW => ⟨(x1 >>> (x2.toInt64 &&& 63)) + (1 : Int64), rfl, by rw [bg_cut, if_pos h1, if_pos h3, if_neg h4, if_neg h6, if_pos h7, if_pos h8], ht⟩) (fun q h => absurd h List.not_mem_nil) dX1_cut_134
      · refine lv_iload hx hb dX1_cut_55 (lv_at hl 0 rfl) ?_
        refine lv_if_eq (tgt := 72) hx hb dX1_cut_57 (by decide) (fun h9 => ?_) (fun h9 => ?_)
        rotate_left
        · exact absurd (by decide) h9
        refine lv_lload hx hb dX1_cut_72 (lv_at hl 1 rfl) ?_
        exact W.lret (v := x1 >>> (x2.toInt64 &&& 63)) hx hb hr (fun t ht hW => ⟨x1 >>> (x2.toInt64 &&& 63), rfl, by rw [bg_cut, if_pos h1, if_pos h3, if_pos h4], ht⟩) (fun q h => absurd h List.not_mem_nil) dX1_cut_74
    · refine lv_iconst (v := 1) hx hb dX1_cut_44 (by decide) ?_
      refine lv_goto (tgt := 49) hx hb dX1_cut_45 (by decide) ?_
      refine lv_istore (nL := 12) (lv' := [(7, .int (1 : Int32)), (5, .long (x1 >>> (x2.toInt64 &&& 63))), (0, .long x1), (2, .int x2), (3, .int x3), (4, .int x4)]) hx hb dX1_cut_49 hl (by decide) rfl (fun ls hl => ?_)
      refine lv_iload_n hx hb dX1_cut_51 rfl (lv_at hl 4 rfl) ?_
      refine lv_if_ne (tgt := 75) hx hb dX1_cut_52 (by decide) (fun h10 => ?_) (fun h10 => ?_)
      · refine lv_iload_n hx hb dX1_cut_75 rfl (lv_at hl 3 rfl) ?_
        refine lv_bipush (v := 54) hx hb dX1_cut_76 (by decide) ?_
        refine lv_icmp_le (tgt := 83) hx hb dX1_cut_78 (by decide) (fun h11 => ?_) (fun h11 => ?_)
        rotate_left
        · exact absurd h1 h11
        refine lv_lload_n hx hb dX1_cut_83 rfl (lv_at hl 2 rfl) ?_
        refine lv_lload hx hb dX1_cut_84 (lv_at hl 1 rfl) ?_
        refine lv_iload_n hx hb dX1_cut_86 rfl (lv_at hl 3 rfl) ?_
        refine lv_lshl hx hb dX1_cut_87 rfl ?_
        refine lv_lsub hx hb dX1_cut_88 ?_
        refine lv_lstore (nL := 12) (lv' := [(8, .long (x1 - ((x1 >>> (x2.toInt64 &&& 63)) <<< (x2.toInt64 &&& 63)))), (7, .int (1 : Int32)), (5, .long (x1 >>> (x2.toInt64 &&& 63))), (0, .long x1), (2, .int x2), (3, .int x3), (4, .int x4)]) hx hb dX1_cut_89 hl (by decide) rfl (fun ls hl => ?_)
        refine lv_lconst (v := 1) hx hb dX1_cut_91 (by decide) ?_
        refine lv_iload_n hx hb dX1_cut_92 rfl (lv_at hl 4 rfl) ?_
        refine lv_iconst (v := 1) hx hb dX1_cut_93 (by decide) ?_
        refine lv_isub hx hb dX1_cut_94 ?_
        refine lv_lshl hx hb dX1_cut_95 rfl ?_
        refine lv_lstore (nL := 12) (lv' := [(10, .long ((1 : Int64) <<< ((x2 - (1 : Int32)).toInt64 &&& 63))), (8, .long (x1 - ((x1 >>> (x2.toInt64 &&& 63)) <<< (x2.toInt64 &&& 63)))), (7, .int (1 : Int32)), (5, .long (x1 >>> (x2.toInt64 &&& 63))), (0, .long x1), (2, .int x2), (3, .int x3), (4, .int x4)]) hx hb dX1_cut_96 hl (by decide) rfl (fun ls hl => ?_)
        refine lv_lload hx hb dX1_cut_98 (lv_at hl 1 rfl) ?_
        refine lv_lload hx hb dX1_cut_100 (lv_at hl 0 rfl) ?_
        refine bw_lc_gt (tgt := 125) hx hb dX1_cut_102 dX1_cut_103 (by decide) (fun h12 => ?_) (fun h12 => ?_)
        · refine lv_lload hx hb dX1_cut_125 (lv_at hl 3 rfl) ?_
          refine lv_lconst (v := 1) hx hb dX1_cut_127 (by decide) ?_
          refine lv_ladd hx hb dX1_cut_128 ?_
          refine lv_goto (tgt := 134) hx hb dX1_cut_129 (by decide) ?_
          exact W.lret (v := (x1 >>> (x2.toInt64 &&& 63)) + (1 : Int64)) hx hb hr (fun t ht hW => ⟨(x1 >>> (x2.toInt64 &&& 63)) + (1 : Int64), rfl, by rw [bg_cut, if_pos h1, if_neg h3, if_neg h10, if_pos h12], ht⟩) (fun q h => absurd h List.not_mem_nil) dX1_cut_134
        · refine lv_lload hx hb dX1_cut_106 (lv_at hl 1 rfl) ?_
          refine lv_lload hx hb dX1_cut_108 (lv_at hl 0 rfl) ?_
          refine bw_lc_ne (tgt := 132) hx hb dX1_cut_110 dX1_cut_111 (by decide) (fun h13 => ?_) (fun h13 => ?_)
          · refine lv_lload hx hb dX1_cut_132 (lv_at hl 3 rfl) ?_
            exact W.lret (v := x1 >>> (x2.toInt64 &&& 63)) hx hb hr (fun t ht hW => ⟨x1 >>> (x2.toInt64 &&& 63), rfl, by rw [bg_cut, if_pos h1, if_neg h3, if_neg h10, if_neg h12, if_neg h13], ht⟩) (fun q h => absurd h List.not_mem_nil) dX1_cut_134
          · refine lv_lload hx hb dX1_cut_114 (lv_at hl 3 rfl) ?_
            refine lv_ldc2 hx hb hown (hts (.constantLong RX1 65 2) (by decide +kernel)) dX1_cut_116 ?_
            refine lv_lrem hx hb dX1_cut_119 (by decide) ?_
            refine lv_lconst (v := 1) hx hb dX1_cut_120 (by decide) ?_
            refine bw_lc_ne (tgt := 132) hx hb dX1_cut_121 dX1_cut_122 (by decide) (fun h14 => ?_) (fun h14 => ?_)
            · refine lv_lload hx hb dX1_cut_132 (lv_at hl 3 rfl) ?_
              exact W.lret (v := x1 >>> (x2.toInt64 &&& 63)) hx hb hr (fun t ht hW => ⟨x1 >>> (x2.toInt64 &&& 63), rfl, by rw [bg_cut, if_pos h1, if_neg h3, if_neg h10, if_neg h12, if_pos h13, if_neg h14], ht⟩) (fun q h => absurd h List.not_mem_nil) dX1_cut_134
            · refine lv_lload hx hb dX1_cut_125 (lv_at hl 3 rfl) ?_
              refine lv_lconst (v := 1) hx hb dX1_cut_127 (by decide) ?_
              refine lv_ladd hx hb dX1_cut_128 ?_
              refine lv_goto (tgt := 134) hx hb dX1_cut_129 (by decide) ?_
              exact W.lret (v := (x1 >>> (x2.toInt64 &&& 63)) + (1 : Int64)) hx hb hr (fun t ht hW => ⟨(x1 >>> (x2.toInt64 &&& 63)) + (1 : Int64), rfl, by rw [bg_cut, if_pos h1, if_neg h3, if_neg h10, if_neg h12, if_pos h13, if_pos h14], ht⟩) (fun q h => absurd h List.not_mem_nil) dX1_cut_134
      · refine lv_iload hx hb dX1_cut_55 (lv_at hl 0 rfl) ?_
        refine lv_if_eq (tgt := 72) hx hb dX1_cut_57 (by decide) (fun h15 => ?_) (fun h15 => ?_)
        · exact absurd h15 (by decide)
        refine lv_iload hx hb dX1_cut_60 (lv_at hl 5 rfl) ?_
        refine lv_if_eq (tgt := 72) hx hb dX1_cut_62 (by decide) (fun h16 => ?_) (fun h16 => ?_)
        · refine lv_lload hx hb dX1_cut_72 (lv_at hl 1 rfl) ?_
          exact W.lret (v := x1 >>> (x2.toInt64 &&& 63)) hx hb hr (fun t ht hW => ⟨x1 >>> (x2.toInt64 &&& 63), rfl, by rw [bg_cut, if_pos h1, if_neg h3, if_pos h10, if_pos h16], ht⟩) (fun q h => absurd h List.not_mem_nil) dX1_cut_74
        · refine lv_lload hx hb dX1_cut_65 (lv_at hl 1 rfl) ?_
          refine lv_lconst (v := 1) hx hb dX1_cut_67 (by decide) ?_
          refine lv_ladd hx hb dX1_cut_68 ?_
          refine lv_goto (tgt := 74) hx hb dX1_cut_69 (by decide) ?_
          exact W.lret (v := (x1 >>> (x2.toInt64 &&& 63)) + (1 : Int64)) hx hb hr (fun t ht hW => ⟨(x1 >>> (x2.toInt64 &&& 63)) + (1 : Int64), rfl, by rw [bg_cut, if_pos h1, if_neg h3, if_pos h10, if_neg h16], ht⟩) (fun q h => absurd h List.not_mem_nil) dX1_cut_74
  · refine lv_lconst (v := 0) hx hb dX1_cut_6 (by decide) ?_
    refine lv_goto (tgt := 13) hx hb dX1_cut_7 (by decide) ?_
    refine lv_lstore (nL := 12) (lv' := [(5, .long (0 : Int64)), (0, .long x1), (2, .int x2), (3, .int x3), (4, .int x4)]) hx hb dX1_cut_13 hl (by decide) rfl (fun ls hl => ?_)
    refine lv_iload_n hx hb dX1_cut_15 rfl (lv_at hl 2 rfl) ?_
    refine lv_bipush (v := 54) hx hb dX1_cut_16 (by decide) ?_
    refine lv_icmp_le (tgt := 35) hx hb dX1_cut_18 (by decide) (fun h17 => ?_) (fun h17 => ?_)
    · exact absurd h17 h1
    refine lv_lload_n hx hb dX1_cut_21 rfl (lv_at hl 1 rfl) ?_
    refine lv_lconst (v := 0) hx hb dX1_cut_22 (by decide) ?_
    refine bw_lc_le (tgt := 31) hx hb dX1_cut_23 dX1_cut_24 (by decide) (fun h18 => ?_) (fun h18 => ?_)
    · refine lv_iconst (v := 0) hx hb dX1_cut_31 (by decide) ?_
      refine lv_goto (tgt := 49) hx hb dX1_cut_32 (by decide) ?_
      refine lv_istore (nL := 12) (lv' := [(7, .int (0 : Int32)), (5, .long (0 : Int64)), (0, .long x1), (2, .int x2), (3, .int x3), (4, .int x4)]) hx hb dX1_cut_49 hl (by decide) rfl (fun ls hl => ?_)
      refine lv_iload_n hx hb dX1_cut_51 rfl (lv_at hl 4 rfl) ?_
      refine lv_if_ne (tgt := 75) hx hb dX1_cut_52 (by decide) (fun h19 => ?_) (fun h19 => ?_)
      · refine lv_iload_n hx hb dX1_cut_75 rfl (lv_at hl 3 rfl) ?_
        refine lv_bipush (v := 54) hx hb dX1_cut_76 (by decide) ?_
        refine lv_icmp_le (tgt := 83) hx hb dX1_cut_78 (by decide) (fun h20 => ?_) (fun h20 => ?_)
        · exact absurd h20 h1
        refine lv_lconst (v := 0) hx hb dX1_cut_81 (by decide) ?_
        exact W.lret (v := (0 : Int64)) hx hb hr (fun t ht hW => ⟨(0 : Int64), rfl, by rw [bg_cut, if_neg h1, if_pos h18, if_neg h19], ht⟩) (fun q h => absurd h List.not_mem_nil) dX1_cut_82
      · refine lv_iload hx hb dX1_cut_55 (lv_at hl 0 rfl) ?_
        refine lv_if_eq (tgt := 72) hx hb dX1_cut_57 (by decide) (fun h21 => ?_) (fun h21 => ?_)
        rotate_left
        · exact absurd (by decide) h21
        refine lv_lload hx hb dX1_cut_72 (lv_at hl 1 rfl) ?_
        exact W.lret (v := (0 : Int64)) hx hb hr (fun t ht hW => ⟨(0 : Int64), rfl, by rw [bg_cut, if_neg h1, if_pos h18, if_pos h19], ht⟩) (fun q h => absurd h List.not_mem_nil) dX1_cut_74
    · refine lv_iconst (v := 1) hx hb dX1_cut_27 (by decide) ?_
      refine lv_goto (tgt := 49) hx hb dX1_cut_28 (by decide) ?_
      refine lv_istore (nL := 12) (lv' := [(7, .int (1 : Int32)), (5, .long (0 : Int64)), (0, .long x1), (2, .int x2), (3, .int x3), (4, .int x4)]) hx hb dX1_cut_49 hl (by decide) rfl (fun ls hl => ?_)
      refine lv_iload_n hx hb dX1_cut_51 rfl (lv_at hl 4 rfl) ?_
      refine lv_if_ne (tgt := 75) hx hb dX1_cut_52 (by decide) (fun h22 => ?_) (fun h22 => ?_)
      · refine lv_iload_n hx hb dX1_cut_75 rfl (lv_at hl 3 rfl) ?_
        refine lv_bipush (v := 54) hx hb dX1_cut_76 (by decide) ?_
        refine lv_icmp_le (tgt := 83) hx hb dX1_cut_78 (by decide) (fun h23 => ?_) (fun h23 => ?_)
        · exact absurd h23 h1
        refine lv_lconst (v := 0) hx hb dX1_cut_81 (by decide) ?_
        exact W.lret (v := (0 : Int64)) hx hb hr (fun t ht hW => ⟨(0 : Int64), rfl, by rw [bg_cut, if_neg h1, if_neg h18, if_neg h22], ht⟩) (fun q h => absurd h List.not_mem_nil) dX1_cut_82
      · refine lv_iload hx hb dX1_cut_55 (lv_at hl 0 rfl) ?_
        refine lv_if_eq (tgt := 72) hx hb dX1_cut_57 (by decide) (fun h24 => ?_) (fun h24 => ?_)
        · exact absurd h24 (by decide)
        refine lv_iload hx hb dX1_cut_60 (lv_at hl 5 rfl) ?_
        refine lv_if_eq (tgt := 72) hx hb dX1_cut_62 (by decide) (fun h25 => ?_) (fun h25 => ?_)
        · refine lv_lload hx hb dX1_cut_72 (lv_at hl 1 rfl) ?_
          exact W.lret (v := (0 : Int64)) hx hb hr (fun t ht hW => ⟨(0 : Int64), rfl, by rw [bg_cut, if_neg h1, if_neg h18, if_pos h22, if_pos h25], ht⟩) (fun q h => absurd h List.not_mem_nil) dX1_cut_74
        · refine lv_lload hx hb dX1_cut_65 (lv_at hl 1 rfl) ?_
          refine lv_lconst (v := 1) hx hb dX1_cut_67 (by decide) ?_
          refine lv_ladd hx hb dX1_cut_68 ?_
          refine lv_goto (tgt := 74) hx hb dX1_cut_69 (by decide) ?_
          exact W.lret (v := (0 : Int64) + (1 : Int64)) hx hb hr (fun t ht hW => ⟨(0 : Int64) + (1 : Int64), rfl, by rw [bg_cut, if_neg h1, if_neg h18, if_pos h22, if_neg h25], ht⟩) (fun q h => absurd h List.not_mem_nil) dX1_cut_74
set_option maxHeartbeats 4000000 in
set_option maxRecDepth 100000 in
theorem bd_place (l : Launch) (x1 : Int64) : Met l yX1_place wsX1_place ({ frames := 1, cells := 0, slots := 0, locals := 21 }) (va_Pc [.long x1] (fun _ => True)) (vp_Sl (fun r => r = bg_place x1)) 0 0 (fun _ => False) := by
  refine Met.ofW (cc := cX1_place) (maxL := 2) (ret := (some .long)) (by decide) rfl ?_
  intro p e s m args below meth c s₁ B hml hv
  obtain ⟨rfl, -⟩ := hv
  have hx := B.exec
  have hb := B.bytes
  have hr := B.returns
  have hts := atoms_spec (ws := wsX1_place) B.pre
  have hown : s.vm.findClass RX1 = some m.cls := findClass_of_methodNamed B.named
  have hlocks := B.notSynchronized
  have hl := lv_entry ([.long x1]) (n := 2) (Nat.le_of_ble_eq_true rfl)
  rw [lg_entry_eq]
  generalize (lg_sl ([.long x1]) ++ List.replicate (2 - (lg_sl ([.long x1])).length) Slot.unset).toArray = ls at hl ⊢
  have hl : lv_has ls 2 [(0, .long x1)] := hl
  refine lv_lload_n hx hb dX1_place_0 rfl (lv_at hl 0 rfl) ?_
  refine bw_csi (rest := []) ⟨hx, hb, hml, hown, hts⟩ (bd_negative l x1) (va_cwS 1 hts gX1_place_X1_negative rfl rfl rfl (by decide +kernel) ⟨Nat.le_of_ble_eq_true rfl, Nat.le_of_ble_eq_true rfl⟩) rfl hl.1 rfl (Nat.le_of_ble_eq_true rfl) dX1_place_1 (Nat.zero_le _) (Nat.zero_le _) ?_
  refine lv_if_eq (tgt := 15) hx hb dX1_place_4 (by decide) (fun h1 => ?_) (fun h1 => ?_)
  · refine lv_lload_n hx hb dX1_place_15 rfl (lv_at hl 0 rfl) ?_
    exact W.lret (v := x1) hx hb hr (fun t ht hW => ⟨x1, rfl, by rw [bg_place, if_pos h1], ht⟩) (fun q h => absurd h List.not_mem_nil) dX1_place_16
  · refine lv_lload_n hx hb dX1_place_7 rfl (lv_at hl 0 rfl) ?_
    refine bw_csl (rest := []) ⟨hx, hb, hml, hown, hts⟩ (bd_plain l x1) (va_cwS 1 hts gX1_place_X1_plain rfl rfl rfl (by decide +kernel) ⟨Nat.le_of_ble_eq_true rfl, Nat.le_of_ble_eq_true rfl⟩) rfl hl.1 rfl (Nat.le_of_ble_eq_true rfl) dX1_place_8 (Nat.zero_le _) (Nat.zero_le _) ?_
    refine lv_lneg hx hb dX1_place_11 ?_
    refine lv_goto (tgt := 16) hx hb dX1_place_12 (by decide) ?_
    exact W.lret (v := -(bg_plain x1)) hx hb hr (fun t ht hW => ⟨-(bg_plain x1), rfl, by rw [bg_place, if_neg h1], ht⟩) (fun q h => absurd h List.not_mem_nil) dX1_place_16
