/-! walks: the class, public methods -/
set_option maxHeartbeats 4000000 in
set_option maxRecDepth 100000 in
theorem bc_load (l : Launch) (dC : Nat → ClassId) (dI : Nat → Nat → Nat) (h0 a0 : Nat) (cA : ClassId) (sz : Nat) (f1 : Int32) (f2 : Int32) (g : Nat → Int64) (x1 : Int32) (x2 : Int64) : Met l yX0_load wsX0_load ({ frames := 1, cells := 0, slots := 0, locals := 20 }) (va_Pc [.ref h0, .int x1, .long x2] (bw_I2 (dC, dI) vwCl sz h0 a0 cA (.inr (0, [.ref a0, .int f1, .int f2])) (.inl (cA, 8, .inr (.inl g))))) (va_Qi (fun (r : Int32) (u : Int32 × Int32 × (Nat → Int64)) => (r, u) = bf_load f1 f2 g x1 x2) (fun u t => bw_O2 (dC, dI) vwCl (va_A [(h0, .inr (0, [.ref a0, .int f1, .int f2])), (a0, .inl (cA, 8, .inr (.inl g)))] sz) h0 a0 cA (.inr (0, [.ref a0, .int u.1, .int u.2.1])) (.inl (cA, 8, .inr (.inl u.2.2))) t) (va_A [(h0, .inr (0, [.ref a0, .int f1, .int f2])), (a0, .inl (cA, 8, .inr (.inl g)))] sz)) 0 0 (va_A [(h0, .inr (0, [.ref a0, .int f1, .int f2])), (a0, .inl (cA, 8, .inr (.inl g)))] sz) := by
  refine Met.ofW (cc := cX0_load) (maxL := 4) (ret := (some .boolean)) (by decide) rfl ?_
  intro p e s m args below meth c s₁ B hml hv
  obtain ⟨rfl, hsz, hP, hK, hD0⟩ := hv
  have hx := B.exec
  have hb := B.bytes
  have hr := B.returns
  have hts := atoms_spec (ws := wsX0_load) B.pre
  have hown : s.vm.findClass RX0 = some m.cls := findClass_of_methodNamed B.named
  have hlocks := B.notSynchronized
  subst hsz
  have hD := hD0.self (sz := s.heap.size)
  generalize hAe : va_A [(h0, .inr (0, [.ref a0, .int f1, .int f2])), (a0, .inl (cA, 8, .inr (.inl g)))] s.heap.size = A at hD ⊢
  have hA : ∀ q : Nat, s.heap.size ≤ q → A q := fun q h => by rw [← hAe]; exact Or.inr h
  have hS : va_S A s.heap s.heap [] := va_S.rf
  have hP : va_P (dC, dI) vwCl [(h0, .inr (0, [.ref a0, .int f1, .int f2])), (a0, .inl (cA, 8, .inr (.inl g)))] s.heap := hP
  have hin0 : ∀ w ∈ u_ws RX0 TX0 3, w ∈ wsX0_load := by decide +kernel
  have hl := lv_entry ([.ref h0, .int x1, .long x2]) (n := 4) (Nat.le_of_ble_eq_true rfl)
  rw [lg_entry_eq]
  generalize (lg_sl ([.ref h0, .int x1, .long x2]) ++ List.replicate (4 - (lg_sl ([.ref h0, .int x1, .long x2])).length) Slot.unset).toArray = ls at hl ⊢
  have hl : lv_has ls 4 [(0, .ref h0), (1, .int x1), (2, .long x2)] := hl
  refine lv_iload_n hx hb dX0_load_0 rfl (lv_at hl 1 rfl) ?_
  refine bw_csi (rest := []) ⟨hx, hb, hml, hown, hts⟩ (bc_isRegister l x1) (va_cwS 1 hts gX0_load_X0_isRegister rfl rfl rfl (by decide +kernel) ⟨Nat.le_of_ble_eq_true rfl, Nat.le_of_ble_eq_true rfl⟩) rfl hl.1 rfl (Nat.le_of_ble_eq_true rfl) dX0_load_1 (Nat.zero_le _) (Nat.zero_le _) ?_
  refine lv_if_ne (tgt := 9) hx hb dX0_load_4 (by decide) (fun h1 => ?_) (fun h1 => ?_)
  · refine lv_aload_n hx hb dX0_load_9 rfl (lv_at hl 0 rfl) ?_
    refine va_get (D := (dC, dI)) (ci := 0) (v := .ref a0) (C := RX0) (T := TX0) (N := 3) hx hb hts hin0 hown hK hP 0 rfl rfl 0 (by decide) (hts (.fieldLink RX0 9 "BinaryFunctions" "registers" "[J") (by decide +kernel)) (fun _ h9 => h9) rfl dX0_load_10 ?_
    refine lv_iload_n hx hb dX0_load_13 rfl (lv_at hl 1 rfl) ?_
    refine lv_lload_n hx hb dX0_load_14 rfl (lv_at hl 2 rfl) ?_
    refine va_last hx hb hK hP hD hS 1 0 rfl rfl (bm_reg0 h1) dX0_load_15 (fun H locs hP hD hS => ?_)
    have hP : va_P (dC, dI) vwCl [(h0, .inr (0, [.ref a0, .int f1, .int f2])), (a0, .inl (cA, 8, .inr (.inl (vp_updL g x1.toNatClampNeg x2))))] H := hP
    have hD : va_D A [(h0, .inr (0, [.ref a0, .int f1, .int f2])), (a0, .inl (cA, 8, .inr (.inl (vp_updL g x1.toNatClampNeg x2))))] := hD
    refine lv_iconst (v := 1) hx hb dX0_load_16 (by decide) ?_
    exact W.zret (v := (1 : Int32)) hx hb hr rfl (fun t ht hW => ⟨⟨(1 : Int32), (f1, f2, vp_updL g x1.toNatClampNeg x2), rfl, by rw [bf_load, if_neg h1], by rw [ht]; exact hP, va_K.moved hW.alike hK, hD⟩, hS.F ht⟩) hS.2.2 dX0_load_17
  · refine lv_iconst (v := 0) hx hb dX0_load_7 (by decide) ?_
    exact W.zret (v := (0 : Int32)) hx hb hr rfl (fun t ht hW => ⟨⟨(0 : Int32), (f1, f2, g), rfl, by rw [bf_load, if_pos h1], by rw [ht]; exact hP, va_K.moved hW.alike hK, hD⟩, hS.F ht⟩) hS.2.2 dX0_load_8
set_option maxHeartbeats 4000000 in
set_option maxRecDepth 100000 in
theorem bc_bits (l : Launch) (dC : Nat → ClassId) (dI : Nat → Nat → Nat) (h0 a0 : Nat) (cA : ClassId) (sz : Nat) (f1 : Int32) (f2 : Int32) (g : Nat → Int64) (x1 : Int32) : Met l yX0_bits wsX0_bits ({ frames := 1, cells := 0, slots := 0, locals := 20 }) (va_Pc [.ref h0, .int x1] (bw_I2 (dC, dI) vwCl sz h0 a0 cA (.inr (0, [.ref a0, .int f1, .int f2])) (.inl (cA, 8, .inr (.inl g))))) (va_Ql (fun (r : Int64) (u : Int32 × Int32 × (Nat → Int64)) => (r, u) = bf_bits f1 f2 g x1) (fun u t => bw_O2 (dC, dI) vwCl (va_A [(h0, .inr (0, [.ref a0, .int f1, .int f2])), (a0, .inl (cA, 8, .inr (.inl g)))] sz) h0 a0 cA (.inr (0, [.ref a0, .int u.1, .int u.2.1])) (.inl (cA, 8, .inr (.inl u.2.2))) t) (va_A [(h0, .inr (0, [.ref a0, .int f1, .int f2])), (a0, .inl (cA, 8, .inr (.inl g)))] sz)) 0 0 (va_A [(h0, .inr (0, [.ref a0, .int f1, .int f2])), (a0, .inl (cA, 8, .inr (.inl g)))] sz) := by
  refine Met.ofW (cc := cX0_bits) (maxL := 2) (ret := (some .long)) (by decide) rfl ?_
  intro p e s m args below meth c s₁ B hml hv
  obtain ⟨rfl, hsz, hP, hK, hD0⟩ := hv
  have hx := B.exec
  have hb := B.bytes
  have hr := B.returns
  have hts := atoms_spec (ws := wsX0_bits) B.pre
  have hown : s.vm.findClass RX0 = some m.cls := findClass_of_methodNamed B.named
  have hlocks := B.notSynchronized
  subst hsz
  have hD := hD0.self (sz := s.heap.size)
  generalize hAe : va_A [(h0, .inr (0, [.ref a0, .int f1, .int f2])), (a0, .inl (cA, 8, .inr (.inl g)))] s.heap.size = A at hD ⊢
  have hA : ∀ q : Nat, s.heap.size ≤ q → A q := fun q h => by rw [← hAe]; exact Or.inr h
  have hS : va_S A s.heap s.heap [] := va_S.rf
  have hP : va_P (dC, dI) vwCl [(h0, .inr (0, [.ref a0, .int f1, .int f2])), (a0, .inl (cA, 8, .inr (.inl g)))] s.heap := hP
  have hin0 : ∀ w ∈ u_ws RX0 TX0 3, w ∈ wsX0_bits := by decide +kernel
  have hl := lv_entry ([.ref h0, .int x1]) (n := 2) (Nat.le_of_ble_eq_true rfl)
  rw [lg_entry_eq]
  generalize (lg_sl ([.ref h0, .int x1]) ++ List.replicate (2 - (lg_sl ([.ref h0, .int x1])).length) Slot.unset).toArray = ls at hl ⊢
  have hl : lv_has ls 2 [(0, .ref h0), (1, .int x1)] := hl
  refine lv_iload_n hx hb dX0_bits_0 rfl (lv_at hl 1 rfl) ?_
  refine bw_csi (rest := []) ⟨hx, hb, hml, hown, hts⟩ (bc_isRegister l x1) (va_cwS 1 hts gX0_bits_X0_isRegister rfl rfl rfl (by decide +kernel) ⟨Nat.le_of_ble_eq_true rfl, Nat.le_of_ble_eq_true rfl⟩) rfl hl.1 rfl (Nat.le_of_ble_eq_true rfl) dX0_bits_1 (Nat.zero_le _) (Nat.zero_le _) ?_
  refine lv_if_eq (tgt := 16) hx hb dX0_bits_4 (by decide) (fun h1 => ?_) (fun h1 => ?_)
  · refine lv_lconst (v := 0) hx hb dX0_bits_16 (by decide) ?_
    exact W.lret (v := (0 : Int64)) hx hb hr (fun t ht hW => ⟨⟨(0 : Int64), (f1, f2, g), rfl, by rw [bf_bits, if_pos h1], by rw [ht]; exact hP, va_K.moved hW.alike hK, hD⟩, hS.F ht⟩) hS.2.2 dX0_bits_17
  · refine lv_aload_n hx hb dX0_bits_7 rfl (lv_at hl 0 rfl) ?_
    refine va_get (D := (dC, dI)) (ci := 0) (v := .ref a0) (C := RX0) (T := TX0) (N := 3) hx hb hts hin0 hown hK hP 0 rfl rfl 0 (by decide) (hts (.fieldLink RX0 9 "BinaryFunctions" "registers" "[J") (by decide +kernel)) (fun _ h9 => h9) rfl dX0_bits_8 ?_
    refine lv_iload_n hx hb dX0_bits_11 rfl (lv_at hl 1 rfl) ?_
    refine va_lald hx hb hK hP 1 0 rfl rfl (bm_reg0 h1) dX0_bits_12 ?_
    refine lv_goto (tgt := 17) hx hb dX0_bits_13 (by decide) ?_
    exact W.lret (v := g x1.toNatClampNeg) hx hb hr (fun t ht hW => ⟨⟨g x1.toNatClampNeg, (f1, f2, g), rfl, by rw [bf_bits, if_neg h1], by rw [ht]; exact hP, va_K.moved hW.alike hK, hD⟩, hS.F ht⟩) hS.2.2 dX0_bits_17
set_option maxHeartbeats 4000000 in
set_option maxRecDepth 100000 in
theorem bc_sqrt (l : Launch) (dC : Nat → ClassId) (dI : Nat → Nat → Nat) (h0 a0 : Nat) (cA : ClassId) (sz : Nat) (f1 : Int32) (f2 : Int32) (g : Nat → Int64) (x1 : Int32) (x2 : Int32) : Met l yX0_sqrt wsX0_sqrt ({ frames := 6, cells := 0, slots := 0, locals := 141 }) (va_Pc [.ref h0, .int x1, .int x2] (bw_I2 (dC, dI) vwCl sz h0 a0 cA (.inr (0, [.ref a0, .int f1, .int f2])) (.inl (cA, 8, .inr (.inl g))))) (va_Qi (fun (r : Int32) (u : Int32 × Int32 × (Nat → Int64)) => (r, u) = bf_sqrt f1 f2 g x1 x2) (fun u t => bw_O2 (dC, dI) vwCl (va_A [(h0, .inr (0, [.ref a0, .int f1, .int f2])), (a0, .inl (cA, 8, .inr (.inl g)))] sz) h0 a0 cA (.inr (0, [.ref a0, .int u.1, .int u.2.1])) (.inl (cA, 8, .inr (.inl u.2.2))) t) (va_A [(h0, .inr (0, [.ref a0, .int f1, .int f2])), (a0, .inl (cA, 8, .inr (.inl g)))] sz)) 0 0 (va_A [(h0, .inr (0, [.ref a0, .int f1, .int f2])), (a0, .inl (cA, 8, .inr (.inl g)))] sz) := by
  refine Met.ofW (cc := cX0_sqrt) (maxL := 3) (ret := (some .boolean)) (by decide) rfl ?_
  intro p e s m args below meth c s₁ B hml hv
  obtain ⟨rfl, hsz, hP, hK, hD0⟩ := hv
  have hx := B.exec
  have hb := B.bytes
  have hr := B.returns
  have hts := atoms_spec (ws := wsX0_sqrt) B.pre
  have hown : s.vm.findClass RX0 = some m.cls := findClass_of_methodNamed B.named
  have hlocks := B.notSynchronized
  subst hsz
  have hD := hD0.self (sz := s.heap.size)
  generalize hAe : va_A [(h0, .inr (0, [.ref a0, .int f1, .int f2])), (a0, .inl (cA, 8, .inr (.inl g)))] s.heap.size = A at hD ⊢
  have hA : ∀ q : Nat, s.heap.size ≤ q → A q := fun q h => by rw [← hAe]; exact Or.inr h
  have hS : va_S A s.heap s.heap [] := va_S.rf
  have hP : va_P (dC, dI) vwCl [(h0, .inr (0, [.ref a0, .int f1, .int f2])), (a0, .inl (cA, 8, .inr (.inl g)))] s.heap := hP
  have hin0 : ∀ w ∈ u_ws RX0 TX0 3, w ∈ wsX0_sqrt := by decide +kernel
  have hl := lv_entry ([.ref h0, .int x1, .int x2]) (n := 3) (Nat.le_of_ble_eq_true rfl)
  rw [lg_entry_eq]
  generalize (lg_sl ([.ref h0, .int x1, .int x2]) ++ List.replicate (3 - (lg_sl ([.ref h0, .int x1, .int x2])).length) Slot.unset).toArray = ls at hl ⊢
  have hl : lv_has ls 3 [(0, .ref h0), (1, .int x1), (2, .int x2)] := hl
  refine lv_iload_n hx hb dX0_sqrt_0 rfl (lv_at hl 1 rfl) ?_
  refine bw_csi (rest := []) ⟨hx, hb, hml, hown, hts⟩ (bc_isRegister l x1) (va_cwS 1 hts gX0_sqrt_X0_isRegister rfl rfl rfl (by decide +kernel) ⟨Nat.le_of_ble_eq_true rfl, Nat.le_of_ble_eq_true rfl⟩) rfl hl.1 rfl (Nat.le_of_ble_eq_true rfl) dX0_sqrt_1 (Nat.zero_le _) (Nat.zero_le _) ?_
  refine lv_if_eq (tgt := 14) hx hb dX0_sqrt_4 (by decide) (fun h1 => ?_) (fun h1 => ?_)
  · refine lv_iconst (v := 0) hx hb dX0_sqrt_14 (by decide) ?_
    exact W.zret (v := (0 : Int32)) hx hb hr rfl (fun t ht hW => ⟨⟨(0 : Int32), (f1, f2, g), rfl, by rw [bf_sqrt, if_pos h1], by rw [ht]; exact hP, va_K.moved hW.alike hK, hD⟩, hS.F ht⟩) hS.2.2 dX0_sqrt_15
  · refine lv_iload_n hx hb dX0_sqrt_7 rfl (lv_at hl 2 rfl) ?_
    refine bw_csi (rest := []) ⟨hx, hb, hml, hown, hts⟩ (bc_isRegister l x2) (va_cwS 1 hts gX0_sqrt_X0_isRegister rfl rfl rfl (by decide +kernel) ⟨Nat.le_of_ble_eq_true rfl, Nat.le_of_ble_eq_true rfl⟩) rfl hl.1 rfl (Nat.le_of_ble_eq_true rfl) dX0_sqrt_8 (Nat.zero_le _) (Nat.zero_le _) ?_
    refine lv_if_ne (tgt := 16) hx hb dX0_sqrt_11 (by decide) (fun h2 => ?_) (fun h2 => ?_)
    · refine lv_aload_n hx hb dX0_sqrt_16 rfl (lv_at hl 0 rfl) ?_
      refine va_get (D := (dC, dI)) (ci := 0) (v := .ref a0) (C := RX0) (T := TX0) (N := 3) hx hb hts hin0 hown hK hP 0 rfl rfl 0 (by decide) (hts (.fieldLink RX0 9 "BinaryFunctions" "registers" "[J") (by decide +kernel)) (fun _ h9 => h9) rfl dX0_sqrt_17 ?_
      refine lv_iload_n hx hb dX0_sqrt_20 rfl (lv_at hl 1 rfl) ?_
      refine lv_aload_n hx hb dX0_sqrt_21 rfl (lv_at hl 0 rfl) ?_
      refine lv_aload_n hx hb dX0_sqrt_22 rfl (lv_at hl 0 rfl) ?_
      refine va_get (D := (dC, dI)) (ci := 0) (v := .ref a0) (C := RX0) (T := TX0) (N := 3) hx hb hts hin0 hown hK hP 0 rfl rfl 0 (by decide) (hts (.fieldLink RX0 9 "BinaryFunctions" "registers" "[J") (by decide +kernel)) (fun _ h9 => h9) rfl dX0_sqrt_23 ?_
      refine lv_iload_n hx hb dX0_sqrt_26 rfl (lv_at hl 2 rfl) ?_
      refine va_lald hx hb hK hP 1 0 rfl rfl (bm_reg0 h2) dX0_sqrt_27 ?_
      refine bw_vl1 (rest := [.int x1, .ref a0]) 0 ⟨hx, hb, hml, hown, hts⟩ (bc_squareRoot l dC dI h0 a0 s.heap.size f1 f2 (g x2.toNatClampNeg)) (cwV 1 hts gX0_sqrt_X0_squareRoot rfl rfl rfl (by decide +kernel) ⟨Nat.le_of_ble_eq_true rfl, Nat.le_of_ble_eq_true rfl⟩) hK hP hD hS hA rfl rfl rfl hl.1 rfl (Nat.le_of_ble_eq_true rfl) dX0_sqrt_28 (Nat.zero_le _) (Nat.zero_le _) (fun H locs hP hD hS => ?_)
      have hP : va_P (dC, dI) vwCl [(h0, .inr (0, [.ref a0, .int ((bf_squareRoot f1 f2 (g x2.toNatClampNeg)).2.1), .int ((bf_squareRoot f1 f2 (g x2.toNatClampNeg)).2.2)])), (a0, .inl (cA, 8, .inr (.inl g)))] H := hP
      have hD : va_D A [(h0, .inr (0, [.ref a0, .int ((bf_squareRoot f1 f2 (g x2.toNatClampNeg)).2.1), .int ((bf_squareRoot f1 f2 (g x2.toNatClampNeg)).2.2)])), (a0, .inl (cA, 8, .inr (.inl g)))] := hD
      obtain ⟨r3, e3⟩ : ∃ r, (bf_squareRoot f1 f2 (g x2.toNatClampNeg)) = r := ⟨_, rfl⟩
      rw [e3] at hP hD ⊢
      refine va_last hx hb hK hP hD hS 1 0 rfl rfl (bm_reg0 h1) dX0_sqrt_31 (fun H locs hP hD hS => ?_)
      have hP : va_P (dC, dI) vwCl [(h0, .inr (0, [.ref a0, .int r3.2.1, .int r3.2.2])), (a0, .inl (cA, 8, .inr (.inl (vp_updL g x1.toNatClampNeg r3.1))))] H := hP
      have hD : va_D A [(h0, .inr (0, [.ref a0, .int r3.2.1, .int r3.2.2])), (a0, .inl (cA, 8, .inr (.inl (vp_updL g x1.toNatClampNeg r3.1))))] := hD
      refine lv_iconst (v := 1) hx hb dX0_sqrt_32 (by decide) ?_
      exact W.zret (v := (1 : Int32)) hx hb hr rfl (fun t ht hW => ⟨⟨(1 : Int32), (r3.2.1, r3.2.2, vp_updL g x1.toNatClampNeg r3.1), rfl, by rw [bf_sqrt, if_neg h1, if_neg h2, e3, bf_sqrt_k1], by rw [ht]; exact hP, va_K.moved hW.alike hK, hD⟩, hS.F ht⟩) hS.2.2 dX0_sqrt_33
    · refine lv_iconst (v := 0) hx hb dX0_sqrt_14 (by decide) ?_
      exact W.zret (v := (0 : Int32)) hx hb hr rfl (fun t ht hW => ⟨⟨(0 : Int32), (f1, f2, g), rfl, by rw [bf_sqrt, if_neg h1, if_pos h2], by rw [ht]; exact hP, va_K.moved hW.alike hK, hD⟩, hS.F ht⟩) hS.2.2 dX0_sqrt_15
set_option maxHeartbeats 4000000 in
set_option maxRecDepth 100000 in
theorem bc_whole (l : Launch) (dC : Nat → ClassId) (dI : Nat → Nat → Nat) (h0 a0 : Nat) (cA : ClassId) (sz : Nat) (f1 : Int32) (f2 : Int32) (g : Nat → Int64) (x1 : Int32) (x2 : Int32) (x3 : Int32) : Met l yX0_whole wsX0_whole ({ frames := 4, cells := 0, slots := 0, locals := 93 }) (va_Pc [.ref h0, .int x1, .int x2, .int x3] (bw_I2 (dC, dI) vwCl sz h0 a0 cA (.inr (0, [.ref a0, .int f1, .int f2])) (.inl (cA, 8, .inr (.inl g))))) (va_Qi (fun (r : Int32) (u : Int32 × Int32 × (Nat → Int64)) => (r, u) = bf_whole f1 f2 g x1 x2 x3) (fun u t => bw_O2 (dC, dI) vwCl (va_A [(h0, .inr (0, [.ref a0, .int f1, .int f2])), (a0, .inl (cA, 8, .inr (.inl g)))] sz) h0 a0 cA (.inr (0, [.ref a0, .int u.1, .int u.2.1])) (.inl (cA, 8, .inr (.inl u.2.2))) t) (va_A [(h0, .inr (0, [.ref a0, .int f1, .int f2])), (a0, .inl (cA, 8, .inr (.inl g)))] sz)) 0 0 (va_A [(h0, .inr (0, [.ref a0, .int f1, .int f2])), (a0, .inl (cA, 8, .inr (.inl g)))] sz) := by
  refine Met.ofW (cc := cX0_whole) (maxL := 4) (ret := (some .boolean)) (by decide) rfl ?_
  intro p e s m args below meth c s₁ B hml hv
  obtain ⟨rfl, hsz, hP, hK, hD0⟩ := hv
  have hx := B.exec
  have hb := B.bytes
  have hr := B.returns
  have hts := atoms_spec (ws := wsX0_whole) B.pre
  have hown : s.vm.findClass RX0 = some m.cls := findClass_of_methodNamed B.named
  have hlocks := B.notSynchronized
  subst hsz
  have hD := hD0.self (sz := s.heap.size)
  generalize hAe : va_A [(h0, .inr (0, [.ref a0, .int f1, .int f2])), (a0, .inl (cA, 8, .inr (.inl g)))] s.heap.size = A at hD ⊢
  have hA : ∀ q : Nat, s.heap.size ≤ q → A q := fun q h => by rw [← hAe]; exact Or.inr h
  have hS : va_S A s.heap s.heap [] := va_S.rf
  have hP : va_P (dC, dI) vwCl [(h0, .inr (0, [.ref a0, .int f1, .int f2])), (a0, .inl (cA, 8, .inr (.inl g)))] s.heap := hP
  have hin0 : ∀ w ∈ u_ws RX0 TX0 3, w ∈ wsX0_whole := by decide +kernel
  have hl := lv_entry ([.ref h0, .int x1, .int x2, .int x3]) (n := 4) (Nat.le_of_ble_eq_true rfl)
  rw [lg_entry_eq]
  generalize (lg_sl ([.ref h0, .int x1, .int x2, .int x3]) ++ List.replicate (4 - (lg_sl ([.ref h0, .int x1, .int x2, .int x3])).length) Slot.unset).toArray = ls at hl ⊢
  have hl : lv_has ls 4 [(0, .ref h0), (1, .int x1), (2, .int x2), (3, .int x3)] := hl
  refine lv_iload_n hx hb dX0_whole_0 rfl (lv_at hl 1 rfl) ?_
  refine bw_csi (rest := []) ⟨hx, hb, hml, hown, hts⟩ (bc_isRegister l x1) (va_cwS 1 hts gX0_whole_X0_isRegister rfl rfl rfl (by decide +kernel) ⟨Nat.le_of_ble_eq_true rfl, Nat.le_of_ble_eq_true rfl⟩) rfl hl.1 rfl (Nat.le_of_ble_eq_true rfl) dX0_whole_1 (Nat.zero_le _) (Nat.zero_le _) ?_
  refine lv_if_eq (tgt := 23) hx hb dX0_whole_4 (by decide) (fun h1 => ?_) (fun h1 => ?_)
  · refine lv_iconst (v := 0) hx hb dX0_whole_23 (by decide) ?_
    exact W.zret (v := (0 : Int32)) hx hb hr rfl (fun t ht hW => ⟨⟨(0 : Int32), (f1, f2, g), rfl, by rw [bf_whole, if_pos h1], by rw [ht]; exact hP, va_K.moved hW.alike hK, hD⟩, hS.F ht⟩) hS.2.2 dX0_whole_24
  · refine lv_iload_n hx hb dX0_whole_7 rfl (lv_at hl 2 rfl) ?_
    refine bw_csi (rest := []) ⟨hx, hb, hml, hown, hts⟩ (bc_isRegister l x2) (va_cwS 1 hts gX0_whole_X0_isRegister rfl rfl rfl (by decide +kernel) ⟨Nat.le_of_ble_eq_true rfl, Nat.le_of_ble_eq_true rfl⟩) rfl hl.1 rfl (Nat.le_of_ble_eq_true rfl) dX0_whole_8 (Nat.zero_le _) (Nat.zero_le _) ?_
    refine lv_if_eq (tgt := 23) hx hb dX0_whole_11 (by decide) (fun h2 => ?_) (fun h2 => ?_)
    · refine lv_iconst (v := 0) hx hb dX0_whole_23 (by decide) ?_
      exact W.zret (v := (0 : Int32)) hx hb hr rfl (fun t ht hW => ⟨⟨(0 : Int32), (f1, f2, g), rfl, by rw [bf_whole, if_neg h1, if_pos h2], by rw [ht]; exact hP, va_K.moved hW.alike hK, hD⟩, hS.F ht⟩) hS.2.2 dX0_whole_24
    · refine lv_iload_n hx hb dX0_whole_14 rfl (lv_at hl 3 rfl) ?_
      refine lv_if_lt (tgt := 23) hx hb dX0_whole_15 (by decide) (fun h3 => ?_) (fun h3 => ?_)
      · refine lv_iconst (v := 0) hx hb dX0_whole_23 (by decide) ?_
        exact W.zret (v := (0 : Int32)) hx hb hr rfl (fun t ht hW => ⟨⟨(0 : Int32), (f1, f2, g), rfl, by rw [bf_whole, if_neg h1, if_neg h2, if_pos h3], by rw [ht]; exact hP, va_K.moved hW.alike hK, hD⟩, hS.F ht⟩) hS.2.2 dX0_whole_24
      · refine lv_iload_n hx hb dX0_whole_18 rfl (lv_at hl 3 rfl) ?_
        refine lv_iconst (v := 3) hx hb dX0_whole_19 (by decide) ?_
        refine lv_icmp_le (tgt := 25) hx hb dX0_whole_20 (by decide) (fun h4 => ?_) (fun h4 => ?_)
        · refine lv_aload_n hx hb dX0_whole_25 rfl (lv_at hl 0 rfl) ?_
          refine va_get (D := (dC, dI)) (ci := 0) (v := .ref a0) (C := RX0) (T := TX0) (N := 3) hx hb hts hin0 hown hK hP 0 rfl rfl 0 (by decide) (hts (.fieldLink RX0 9 "BinaryFunctions" "registers" "[J") (by decide +kernel)) (fun _ h9 => h9) rfl dX0_whole_26 ?_
          refine lv_iload_n hx hb dX0_whole_29 rfl (lv_at hl 1 rfl) ?_
          refine lv_aload_n hx hb dX0_whole_30 rfl (lv_at hl 0 rfl) ?_
          refine lv_aload_n hx hb dX0_whole_31 rfl (lv_at hl 0 rfl) ?_
          refine va_get (D := (dC, dI)) (ci := 0) (v := .ref a0) (C := RX0) (T := TX0) (N := 3) hx hb hts hin0 hown hK hP 0 rfl rfl 0 (by decide) (hts (.fieldLink RX0 9 "BinaryFunctions" "registers" "[J") (by decide +kernel)) (fun _ h9 => h9) rfl dX0_whole_32 ?_
          refine lv_iload_n hx hb dX0_whole_35 rfl (lv_at hl 2 rfl) ?_
          refine va_lald hx hb hK hP 1 0 rfl rfl (bm_reg0 h2) dX0_whole_36 ?_
          refine lv_iload_n hx hb dX0_whole_37 rfl (lv_at hl 3 rfl) ?_
          refine bw_vl1 (rest := [.int x1, .ref a0]) 0 ⟨hx, hb, hml, hown, hts⟩ (bc_madeWhole l dC dI h0 a0 s.heap.size f1 f2 (g x2.toNatClampNeg) x3) (cwV 2 hts gX0_whole_X0_madeWhole rfl rfl rfl (by decide +kernel) ⟨Nat.le_of_ble_eq_true rfl, Nat.le_of_ble_eq_true rfl⟩) hK hP hD hS hA rfl rfl rfl hl.1 rfl (Nat.le_of_ble_eq_true rfl) dX0_whole_38 (Nat.zero_le _) (Nat.zero_le _) (fun H locs hP hD hS => ?_)
          have hP : va_P (dC, dI) vwCl [(h0, .inr (0, [.ref a0, .int ((bf_madeWhole f1 f2 (g x2.toNatClampNeg) x3).2.1), .int ((bf_madeWhole f1 f2 (g x2.toNatClampNeg) x3).2.2)])), (a0, .inl (cA, 8, .inr (.inl g)))] H := hP
          have hD : va_D A [(h0, .inr (0, [.ref a0, .int ((bf_madeWhole f1 f2 (g x2.toNatClampNeg) x3).2.1), .int ((bf_madeWhole f1 f2 (g x2.toNatClampNeg) x3).2.2)])), (a0, .inl (cA, 8, .inr (.inl g)))] := hD
          obtain ⟨r5, e5⟩ : ∃ r, (bf_madeWhole f1 f2 (g x2.toNatClampNeg) x3) = r := ⟨_, rfl⟩
          rw [e5] at hP hD ⊢
          refine va_last hx hb hK hP hD hS 1 0 rfl rfl (bm_reg0 h1) dX0_whole_41 (fun H locs hP hD hS => ?_)
          have hP : va_P (dC, dI) vwCl [(h0, .inr (0, [.ref a0, .int r5.2.1, .int r5.2.2])), (a0, .inl (cA, 8, .inr (.inl (vp_updL g x1.toNatClampNeg r5.1))))] H := hP
          have hD : va_D A [(h0, .inr (0, [.ref a0, .int r5.2.1, .int r5.2.2])), (a0, .inl (cA, 8, .inr (.inl (vp_updL g x1.toNatClampNeg r5.1))))] := hD
          refine lv_iconst (v := 1) hx hb dX0_whole_42 (by decide) ?_
          exact W.zret (v := (1 : Int32)) hx hb hr rfl (fun t ht hW => ⟨⟨(1 : Int32), (r5.2.1, r5.2.2, vp_updL g x1.toNatClampNeg r5.1), rfl, by rw [bf_whole, if_neg h1, if_neg h2, if_neg h3, if_pos h4, e5, bf_whole_k1], by rw [ht]; exact hP, va_K.moved hW.alike hK, hD⟩, hS.F ht⟩) hS.2.2 dX0_whole_43
        · refine lv_iconst (v := 0) hx hb dX0_whole_23 (by decide) ?_
          exact W.zret (v := (0 : Int32)) hx hb hr rfl (fun t ht hW => ⟨⟨(0 : Int32), (f1, f2, g), rfl, by rw [bf_whole, if_neg h1, if_neg h2, if_neg h3, if_neg h4], by rw [ht]; exact hP, va_K.moved hW.alike hK, hD⟩, hS.F ht⟩) hS.2.2 dX0_whole_24
set_option maxHeartbeats 4000000 in
set_option maxRecDepth 100000 in
theorem bc_left (l : Launch) (dC : Nat → ClassId) (dI : Nat → Nat → Nat) (h0 a0 : Nat) (cA : ClassId) (sz : Nat) (f1 : Int32) (f2 : Int32) (g : Nat → Int64) (x1 : Int32) (x2 : Int32) (x3 : Int32) (x4 : Int32) : Met l yX0_left wsX0_left ({ frames := 5, cells := 0, slots := 0, locals := 130 }) (va_Pc [.ref h0, .int x1, .int x2, .int x3, .int x4] (bw_I2 (dC, dI) vwCl sz h0 a0 cA (.inr (0, [.ref a0, .int f1, .int f2])) (.inl (cA, 8, .inr (.inl g))))) (va_Qi (fun (r : Int32) (u : Int32 × Int32 × (Nat → Int64)) => (r, u) = bf_left f1 f2 g x1 x2 x3 x4) (fun u t => bw_O2 (dC, dI) vwCl (va_A [(h0, .inr (0, [.ref a0, .int f1, .int f2])), (a0, .inl (cA, 8, .inr (.inl g)))] sz) h0 a0 cA (.inr (0, [.ref a0, .int u.1, .int u.2.1])) (.inl (cA, 8, .inr (.inl u.2.2))) t) (va_A [(h0, .inr (0, [.ref a0, .int f1, .int f2])), (a0, .inl (cA, 8, .inr (.inl g)))] sz)) 0 0 (va_A [(h0, .inr (0, [.ref a0, .int f1, .int f2])), (a0, .inl (cA, 8, .inr (.inl g)))] sz) := by
  refine Met.ofW (cc := cX0_left) (maxL := 5) (ret := (some .boolean)) (by decide) rfl ?_
  intro p e s m args below meth c s₁ B hml hv
  obtain ⟨rfl, hsz, hP, hK, hD0⟩ := hv
  have hx := B.exec
  have hb := B.bytes
  have hr := B.returns
  have hts := atoms_spec (ws := wsX0_left) B.pre
  have hown : s.vm.findClass RX0 = some m.cls := findClass_of_methodNamed B.named
  have hlocks := B.notSynchronized
  subst hsz
  have hD := hD0.self (sz := s.heap.size)
  generalize hAe : va_A [(h0, .inr (0, [.ref a0, .int f1, .int f2])), (a0, .inl (cA, 8, .inr (.inl g)))] s.heap.size = A at hD ⊢
  have hA : ∀ q : Nat, s.heap.size ≤ q → A q := fun q h => by rw [← hAe]; exact Or.inr h
  have hS : va_S A s.heap s.heap [] := va_S.rf
  have hP : va_P (dC, dI) vwCl [(h0, .inr (0, [.ref a0, .int f1, .int f2])), (a0, .inl (cA, 8, .inr (.inl g)))] s.heap := hP
  have hin0 : ∀ w ∈ u_ws RX0 TX0 3, w ∈ wsX0_left := by decide +kernel
  have hl := lv_entry ([.ref h0, .int x1, .int x2, .int x3, .int x4]) (n := 5) (Nat.le_of_ble_eq_true rfl)
  rw [lg_entry_eq]
  generalize (lg_sl ([.ref h0, .int x1, .int x2, .int x3, .int x4]) ++ List.replicate (5 - (lg_sl ([.ref h0, .int x1, .int x2, .int x3, .int x4])).length) Slot.unset).toArray = ls at hl ⊢
  have hl : lv_has ls 5 [(0, .ref h0), (1, .int x1), (2, .int x2), (3, .int x3), (4, .int x4)] := hl
  refine lv_iload_n hx hb dX0_left_0 rfl (lv_at hl 1 rfl) ?_
  refine bw_csi (rest := []) ⟨hx, hb, hml, hown, hts⟩ (bc_isRegister l x1) (va_cwS 1 hts gX0_left_X0_isRegister rfl rfl rfl (by decide +kernel) ⟨Nat.le_of_ble_eq_true rfl, Nat.le_of_ble_eq_true rfl⟩) rfl hl.1 rfl (Nat.le_of_ble_eq_true rfl) dX0_left_1 (Nat.zero_le _) (Nat.zero_le _) ?_
  refine lv_if_eq (tgt := 21) hx hb dX0_left_4 (by decide) (fun h1 => ?_) (fun h1 => ?_)
  · refine lv_iconst (v := 0) hx hb dX0_left_21 (by decide) ?_
    exact W.zret (v := (0 : Int32)) hx hb hr rfl (fun t ht hW => ⟨⟨(0 : Int32), (f1, f2, g), rfl, by rw [bf_left, if_pos h1], by rw [ht]; exact hP, va_K.moved hW.alike hK, hD⟩, hS.F ht⟩) hS.2.2 dX0_left_22
  · refine lv_iload_n hx hb dX0_left_7 rfl (lv_at hl 2 rfl) ?_
    refine bw_csi (rest := []) ⟨hx, hb, hml, hown, hts⟩ (bc_isRegister l x2) (va_cwS 1 hts gX0_left_X0_isRegister rfl rfl rfl (by decide +kernel) ⟨Nat.le_of_ble_eq_true rfl, Nat.le_of_ble_eq_true rfl⟩) rfl hl.1 rfl (Nat.le_of_ble_eq_true rfl) dX0_left_8 (Nat.zero_le _) (Nat.zero_le _) ?_
    refine lv_if_eq (tgt := 21) hx hb dX0_left_11 (by decide) (fun h2 => ?_) (fun h2 => ?_)
    · refine lv_iconst (v := 0) hx hb dX0_left_21 (by decide) ?_
      exact W.zret (v := (0 : Int32)) hx hb hr rfl (fun t ht hW => ⟨⟨(0 : Int32), (f1, f2, g), rfl, by rw [bf_left, if_neg h1, if_pos h2], by rw [ht]; exact hP, va_K.moved hW.alike hK, hD⟩, hS.F ht⟩) hS.2.2 dX0_left_22
    · refine lv_iload_n hx hb dX0_left_14 rfl (lv_at hl 3 rfl) ?_
      refine bw_csi (rest := []) ⟨hx, hb, hml, hown, hts⟩ (bc_isRegister l x3) (va_cwS 1 hts gX0_left_X0_isRegister rfl rfl rfl (by decide +kernel) ⟨Nat.le_of_ble_eq_true rfl, Nat.le_of_ble_eq_true rfl⟩) rfl hl.1 rfl (Nat.le_of_ble_eq_true rfl) dX0_left_15 (Nat.zero_le _) (Nat.zero_le _) ?_
      refine lv_if_ne (tgt := 23) hx hb dX0_left_18 (by decide) (fun h3 => ?_) (fun h3 => ?_)
      · refine lv_aload_n hx hb dX0_left_23 rfl (lv_at hl 0 rfl) ?_
        refine va_get (D := (dC, dI)) (ci := 0) (v := .ref a0) (C := RX0) (T := TX0) (N := 3) hx hb hts hin0 hown hK hP 0 rfl rfl 0 (by decide) (hts (.fieldLink RX0 9 "BinaryFunctions" "registers" "[J") (by decide +kernel)) (fun _ h9 => h9) rfl dX0_left_24 ?_
        refine lv_iload_n hx hb dX0_left_27 rfl (lv_at hl 1 rfl) ?_
        refine lv_aload_n hx hb dX0_left_28 rfl (lv_at hl 0 rfl) ?_
        refine lv_aload_n hx hb dX0_left_29 rfl (lv_at hl 0 rfl) ?_
        refine va_get (D := (dC, dI)) (ci := 0) (v := .ref a0) (C := RX0) (T := TX0) (N := 3) hx hb hts hin0 hown hK hP 0 rfl rfl 0 (by decide) (hts (.fieldLink RX0 9 "BinaryFunctions" "registers" "[J") (by decide +kernel)) (fun _ h9 => h9) rfl dX0_left_30 ?_
        refine lv_iload_n hx hb dX0_left_33 rfl (lv_at hl 2 rfl) ?_
        refine va_lald hx hb hK hP 1 0 rfl rfl (bm_reg0 h2) dX0_left_34 ?_
        refine lv_aload_n hx hb dX0_left_35 rfl (lv_at hl 0 rfl) ?_
        refine va_get (D := (dC, dI)) (ci := 0) (v := .ref a0) (C := RX0) (T := TX0) (N := 3) hx hb hts hin0 hown hK hP 0 rfl rfl 0 (by decide) (hts (.fieldLink RX0 9 "BinaryFunctions" "registers" "[J") (by decide +kernel)) (fun _ h9 => h9) rfl dX0_left_36 ?_
        refine lv_iload_n hx hb dX0_left_39 rfl (lv_at hl 3 rfl) ?_
        refine va_lald hx hb hK hP 1 0 rfl rfl (bm_reg0 h3) dX0_left_40 ?_
        refine lv_iload hx hb dX0_left_41 (lv_at hl 4 rfl) ?_
        refine bw_vl1 (rest := [.int x1, .ref a0]) 0 ⟨hx, hb, hml, hown, hts⟩ (bc_remainder l dC dI h0 a0 s.heap.size f1 f2 (g x2.toNatClampNeg) (g x3.toNatClampNeg) x4) (cwV 3 hts gX0_left_X0_remainder rfl rfl rfl (by decide +kernel) ⟨Nat.le_of_ble_eq_true rfl, Nat.le_of_ble_eq_true rfl⟩) hK hP hD hS hA rfl rfl rfl hl.1 rfl (Nat.le_of_ble_eq_true rfl) dX0_left_43 (Nat.zero_le _) (Nat.zero_le _) (fun H locs hP hD hS => ?_)
        have hP : va_P (dC, dI) vwCl [(h0, .inr (0, [.ref a0, .int ((bf_remainder f1 f2 (g x2.toNatClampNeg) (g x3.toNatClampNeg) x4).2.1), .int ((bf_remainder f1 f2 (g x2.toNatClampNeg) (g x3.toNatClampNeg) x4).2.2)])), (a0, .inl (cA, 8, .inr (.inl g)))] H := hP
        have hD : va_D A [(h0, .inr (0, [.ref a0, .int ((bf_remainder f1 f2 (g x2.toNatClampNeg) (g x3.toNatClampNeg) x4).2.1), .int ((bf_remainder f1 f2 (g x2.toNatClampNeg) (g x3.toNatClampNeg) x4).2.2)])), (a0, .inl (cA, 8, .inr (.inl g)))] := hD
        obtain ⟨r4, e4⟩ : ∃ r, (bf_remainder f1 f2 (g x2.toNatClampNeg) (g x3.toNatClampNeg) x4) = r := ⟨_, rfl⟩
        rw [e4] at hP hD ⊢
        refine va_last hx hb hK hP hD hS 1 0 rfl rfl (bm_reg0 h1) dX0_left_46 (fun H locs hP hD hS => ?_)
        have hP : va_P (dC, dI) vwCl [(h0, .inr (0, [.ref a0, .int r4.2.1, .int r4.2.2])), (a0, .inl (cA, 8, .inr (.inl (vp_updL g x1.toNatClampNeg r4.1))))] H := hP
        have hD : va_D A [(h0, .inr (0, [.ref a0, .int r4.2.1, .int r4.2.2])), (a0, .inl (cA, 8, .inr (.inl (vp_updL g x1.toNatClampNeg r4.1))))] := hD
        refine lv_iconst (v := 1) hx hb dX0_left_47 (by decide) ?_
        exact W.zret (v := (1 : Int32)) hx hb hr rfl (fun t ht hW => ⟨⟨(1 : Int32), (r4.2.1, r4.2.2, vp_updL g x1.toNatClampNeg r4.1), rfl, by rw [bf_left, if_neg h1, if_neg h2, if_neg h3, e4, bf_left_k1], by rw [ht]; exact hP, va_K.moved hW.alike hK, hD⟩, hS.F ht⟩) hS.2.2 dX0_left_48
      · refine lv_iconst (v := 0) hx hb dX0_left_21 (by decide) ?_
        exact W.zret (v := (0 : Int32)) hx hb hr rfl (fun t ht hW => ⟨⟨(0 : Int32), (f1, f2, g), rfl, by rw [bf_left, if_neg h1, if_neg h2, if_pos h3], by rw [ht]; exact hP, va_K.moved hW.alike hK, hD⟩, hS.F ht⟩) hS.2.2 dX0_left_22
set_option maxHeartbeats 4000000 in
set_option maxRecDepth 100000 in
theorem bc_quotient (l : Launch) (dC : Nat → ClassId) (dI : Nat → Nat → Nat) (h0 a0 : Nat) (cA : ClassId) (sz : Nat) (f1 : Int32) (f2 : Int32) (g : Nat → Int64) : Met l yX0_quotient wsX0_quotient ({ frames := 0, cells := 0, slots := 0, locals := 0 }) (va_Pc [.ref h0] (bw_I2 (dC, dI) vwCl sz h0 a0 cA (.inr (0, [.ref a0, .int f1, .int f2])) (.inl (cA, 8, .inr (.inl g))))) (va_Qi (fun (r : Int32) (u : Int32 × Int32 × (Nat → Int64)) => (r, u) = bf_quotient f1 f2 g) (fun u t => bw_O2 (dC, dI) vwCl (va_A [(h0, .inr (0, [.ref a0, .int f1, .int f2])), (a0, .inl (cA, 8, .inr (.inl g)))] sz) h0 a0 cA (.inr (0, [.ref a0, .int u.1, .int u.2.1])) (.inl (cA, 8, .inr (.inl u.2.2))) t) (va_A [(h0, .inr (0, [.ref a0, .int f1, .int f2])), (a0, .inl (cA, 8, .inr (.inl g)))] sz)) 0 0 (va_A [(h0, .inr (0, [.ref a0, .int f1, .int f2])), (a0, .inl (cA, 8, .inr (.inl g)))] sz) := by
  refine Met.ofW (cc := cX0_quotient) (maxL := 1) (ret := (some .int)) (by decide) rfl ?_
  intro p e s m args below meth c s₁ B hml hv
  obtain ⟨rfl, hsz, hP, hK, hD0⟩ := hv
  have hx := B.exec
  have hb := B.bytes
  have hr := B.returns
  have hts := atoms_spec (ws := wsX0_quotient) B.pre
  have hown : s.vm.findClass RX0 = some m.cls := findClass_of_methodNamed B.named
  have hlocks := B.notSynchronized
  subst hsz
  have hD := hD0.self (sz := s.heap.size)
  generalize hAe : va_A [(h0, .inr (0, [.ref a0, .int f1, .int f2])), (a0, .inl (cA, 8, .inr (.inl g)))] s.heap.size = A at hD ⊢
  have hA : ∀ q : Nat, s.heap.size ≤ q → A q := fun q h => by rw [← hAe]; exact Or.inr h
  have hS : va_S A s.heap s.heap [] := va_S.rf
  have hP : va_P (dC, dI) vwCl [(h0, .inr (0, [.ref a0, .int f1, .int f2])), (a0, .inl (cA, 8, .inr (.inl g)))] s.heap := hP
  have hin0 : ∀ w ∈ u_ws RX0 TX0 3, w ∈ wsX0_quotient := by decide +kernel
  have hl := lv_entry ([.ref h0]) (n := 1) (Nat.le_of_ble_eq_true rfl)
  rw [lg_entry_eq]
  generalize (lg_sl ([.ref h0]) ++ List.replicate (1 - (lg_sl ([.ref h0])).length) Slot.unset).toArray = ls at hl ⊢
  have hl : lv_has ls 1 [(0, .ref h0)] := hl
  refine lv_aload_n hx hb dX0_quotient_0 rfl (lv_at hl 0 rfl) ?_
  refine va_get (D := (dC, dI)) (ci := 0) (v := .int f2) (C := RX0) (T := TX0) (N := 3) hx hb hts hin0 hown hK hP 0 rfl rfl 2 (by decide) (hts (.fieldLink RX0 17 "BinaryFunctions" "lastQuotient" "I") (by decide +kernel)) (fun _ h9 => h9) rfl dX0_quotient_1 ?_
  exact W.iret (v := f2) hx hb hr (fun t ht hW => ⟨⟨f2, (f1, f2, g), rfl, by rw [bf_quotient], by rw [ht]; exact hP, va_K.moved hW.alike hK, hD⟩, hS.F ht⟩) hS.2.2 dX0_quotient_4
set_option maxHeartbeats 4000000 in
set_option maxRecDepth 100000 in
theorem bc_neighbour (l : Launch) (dC : Nat → ClassId) (dI : Nat → Nat → Nat) (h0 a0 : Nat) (cA : ClassId) (sz : Nat) (f1 : Int32) (f2 : Int32) (g : Nat → Int64) (x1 : Int32) (x2 : Int32) (x3 : Int32) : Met l yX0_neighbour wsX0_neighbour ({ frames := 2, cells := 0, slots := 0, locals := 46 }) (va_Pc [.ref h0, .int x1, .int x2, .int x3] (bw_I2 (dC, dI) vwCl sz h0 a0 cA (.inr (0, [.ref a0, .int f1, .int f2])) (.inl (cA, 8, .inr (.inl g))))) (va_Qi (fun (r : Int32) (u : Int32 × Int32 × (Nat → Int64)) => (r, u) = bf_neighbour f1 f2 g x1 x2 x3) (fun u t => bw_O2 (dC, dI) vwCl (va_A [(h0, .inr (0, [.ref a0, .int f1, .int f2])), (a0, .inl (cA, 8, .inr (.inl g)))] sz) h0 a0 cA (.inr (0, [.ref a0, .int u.1, .int u.2.1])) (.inl (cA, 8, .inr (.inl u.2.2))) t) (va_A [(h0, .inr (0, [.ref a0, .int f1, .int f2])), (a0, .inl (cA, 8, .inr (.inl g)))] sz)) 0 0 (va_A [(h0, .inr (0, [.ref a0, .int f1, .int f2])), (a0, .inl (cA, 8, .inr (.inl g)))] sz) := by
  refine Met.ofW (cc := cX0_neighbour) (maxL := 4) (ret := (some .boolean)) (by decide) rfl ?_
  intro p e s m args below meth c s₁ B hml hv
  obtain ⟨rfl, hsz, hP, hK, hD0⟩ := hv
  have hx := B.exec
  have hb := B.bytes
  have hr := B.returns
  have hts := atoms_spec (ws := wsX0_neighbour) B.pre
  have hown : s.vm.findClass RX0 = some m.cls := findClass_of_methodNamed B.named
  have hlocks := B.notSynchronized
  subst hsz
  have hD := hD0.self (sz := s.heap.size)
  generalize hAe : va_A [(h0, .inr (0, [.ref a0, .int f1, .int f2])), (a0, .inl (cA, 8, .inr (.inl g)))] s.heap.size = A at hD ⊢
  have hA : ∀ q : Nat, s.heap.size ≤ q → A q := fun q h => by rw [← hAe]; exact Or.inr h
  have hS : va_S A s.heap s.heap [] := va_S.rf
  have hP : va_P (dC, dI) vwCl [(h0, .inr (0, [.ref a0, .int f1, .int f2])), (a0, .inl (cA, 8, .inr (.inl g)))] s.heap := hP
  have hin0 : ∀ w ∈ u_ws RX0 TX0 3, w ∈ wsX0_neighbour := by decide +kernel
  have hl := lv_entry ([.ref h0, .int x1, .int x2, .int x3]) (n := 4) (Nat.le_of_ble_eq_true rfl)
  rw [lg_entry_eq]
  generalize (lg_sl ([.ref h0, .int x1, .int x2, .int x3]) ++ List.replicate (4 - (lg_sl ([.ref h0, .int x1, .int x2, .int x3])).length) Slot.unset).toArray = ls at hl ⊢
  have hl : lv_has ls 4 [(0, .ref h0), (1, .int x1), (2, .int x2), (3, .int x3)] := hl
  refine lv_iload_n hx hb dX0_neighbour_0 rfl (lv_at hl 1 rfl) ?_
  refine bw_csi (rest := []) ⟨hx, hb, hml, hown, hts⟩ (bc_isRegister l x1) (va_cwS 1 hts gX0_neighbour_X0_isRegister rfl rfl rfl (by decide +kernel) ⟨Nat.le_of_ble_eq_true rfl, Nat.le_of_ble_eq_true rfl⟩) rfl hl.1 rfl (Nat.le_of_ble_eq_true rfl) dX0_neighbour_1 (Nat.zero_le _) (Nat.zero_le _) ?_
  refine lv_if_eq (tgt := 21) hx hb dX0_neighbour_4 (by decide) (fun h1 => ?_) (fun h1 => ?_)
  · refine lv_iconst (v := 0) hx hb dX0_neighbour_21 (by decide) ?_
    exact W.zret (v := (0 : Int32)) hx hb hr rfl (fun t ht hW => ⟨⟨(0 : Int32), (f1, f2, g), rfl, by rw [bf_neighbour, if_pos h1], by rw [ht]; exact hP, va_K.moved hW.alike hK, hD⟩, hS.F ht⟩) hS.2.2 dX0_neighbour_22
  · refine lv_iload_n hx hb dX0_neighbour_7 rfl (lv_at hl 2 rfl) ?_
    refine bw_csi (rest := []) ⟨hx, hb, hml, hown, hts⟩ (bc_isRegister l x2) (va_cwS 1 hts gX0_neighbour_X0_isRegister rfl rfl rfl (by decide +kernel) ⟨Nat.le_of_ble_eq_true rfl, Nat.le_of_ble_eq_true rfl⟩) rfl hl.1 rfl (Nat.le_of_ble_eq_true rfl) dX0_neighbour_8 (Nat.zero_le _) (Nat.zero_le _) ?_
    refine lv_if_eq (tgt := 21) hx hb dX0_neighbour_11 (by decide) (fun h2 => ?_) (fun h2 => ?_)
    · refine lv_iconst (v := 0) hx hb dX0_neighbour_21 (by decide) ?_
      exact W.zret (v := (0 : Int32)) hx hb hr rfl (fun t ht hW => ⟨⟨(0 : Int32), (f1, f2, g), rfl, by rw [bf_neighbour, if_neg h1, if_pos h2], by rw [ht]; exact hP, va_K.moved hW.alike hK, hD⟩, hS.F ht⟩) hS.2.2 dX0_neighbour_22
    · refine lv_iload_n hx hb dX0_neighbour_14 rfl (lv_at hl 3 rfl) ?_
      refine bw_csi (rest := []) ⟨hx, hb, hml, hown, hts⟩ (bc_isRegister l x3) (va_cwS 1 hts gX0_neighbour_X0_isRegister rfl rfl rfl (by decide +kernel) ⟨Nat.le_of_ble_eq_true rfl, Nat.le_of_ble_eq_true rfl⟩) rfl hl.1 rfl (Nat.le_of_ble_eq_true rfl) dX0_neighbour_15 (Nat.zero_le _) (Nat.zero_le _) ?_
      refine lv_if_ne (tgt := 23) hx hb dX0_neighbour_18 (by decide) (fun h3 => ?_) (fun h3 => ?_)
      · refine lv_aload_n hx hb dX0_neighbour_23 rfl (lv_at hl 0 rfl) ?_
        refine va_get (D := (dC, dI)) (ci := 0) (v := .ref a0) (C := RX0) (T := TX0) (N := 3) hx hb hts hin0 hown hK hP 0 rfl rfl 0 (by decide) (hts (.fieldLink RX0 9 "BinaryFunctions" "registers" "[J") (by decide +kernel)) (fun _ h9 => h9) rfl dX0_neighbour_24 ?_
        refine lv_iload_n hx hb dX0_neighbour_27 rfl (lv_at hl 1 rfl) ?_
        refine lv_aload_n hx hb dX0_neighbour_28 rfl (lv_at hl 0 rfl) ?_
        refine va_get (D := (dC, dI)) (ci := 0) (v := .ref a0) (C := RX0) (T := TX0) (N := 3) hx hb hts hin0 hown hK hP 0 rfl rfl 0 (by decide) (hts (.fieldLink RX0 9 "BinaryFunctions" "registers" "[J") (by decide +kernel)) (fun _ h9 => h9) rfl dX0_neighbour_29 ?_
        refine lv_iload_n hx hb dX0_neighbour_32 rfl (lv_at hl 2 rfl) ?_
        refine va_lald hx hb hK hP 1 0 rfl rfl (bm_reg0 h2) dX0_neighbour_33 ?_
        refine lv_aload_n hx hb dX0_neighbour_34 rfl (lv_at hl 0 rfl) ?_
        refine va_get (D := (dC, dI)) (ci := 0) (v := .ref a0) (C := RX0) (T := TX0) (N := 3) hx hb hts hin0 hown hK hP 0 rfl rfl 0 (by decide) (hts (.fieldLink RX0 9 "BinaryFunctions" "registers" "[J") (by decide +kernel)) (fun _ h9 => h9) rfl dX0_neighbour_35 ?_
        refine lv_iload_n hx hb dX0_neighbour_38 rfl (lv_at hl 3 rfl) ?_
        refine va_lald hx hb hK hP 1 0 rfl rfl (bm_reg0 h3) dX0_neighbour_39 ?_
        refine bw_csl (rest := [.int x1, .ref a0]) ⟨hx, hb, hml, hown, hts⟩ (bc_nextTowards l (g x2.toNatClampNeg) (g x3.toNatClampNeg)) (va_cwS 2 hts gX0_neighbour_X0_nextTowards rfl rfl rfl (by decide +kernel) ⟨Nat.le_of_ble_eq_true rfl, Nat.le_of_ble_eq_true rfl⟩) rfl hl.1 rfl (Nat.le_of_ble_eq_true rfl) dX0_neighbour_40 (Nat.zero_le _) (Nat.zero_le _) ?_
        refine va_last hx hb hK hP hD hS 1 0 rfl rfl (bm_reg0 h1) dX0_neighbour_43 (fun H locs hP hD hS => ?_)
        have hP : va_P (dC, dI) vwCl [(h0, .inr (0, [.ref a0, .int f1, .int f2])), (a0, .inl (cA, 8, .inr (.inl (vp_updL g x1.toNatClampNeg (bf_nextTowards (g x2.toNatClampNeg) (g x3.toNatClampNeg))))))] H := hP
        have hD : va_D A [(h0, .inr (0, [.ref a0, .int f1, .int f2])), (a0, .inl (cA, 8, .inr (.inl (vp_updL g x1.toNatClampNeg (bf_nextTowards (g x2.toNatClampNeg) (g x3.toNatClampNeg))))))] := hD
        refine lv_iconst (v := 1) hx hb dX0_neighbour_44 (by decide) ?_
        exact W.zret (v := (1 : Int32)) hx hb hr rfl (fun t ht hW => ⟨⟨(1 : Int32), (f1, f2, vp_updL g x1.toNatClampNeg (bf_nextTowards (g x2.toNatClampNeg) (g x3.toNatClampNeg))), rfl, by rw [bf_neighbour, if_neg h1, if_neg h2, if_neg h3], by rw [ht]; exact hP, va_K.moved hW.alike hK, hD⟩, hS.F ht⟩) hS.2.2 dX0_neighbour_45
      · refine lv_iconst (v := 0) hx hb dX0_neighbour_21 (by decide) ?_
        exact W.zret (v := (0 : Int32)) hx hb hr rfl (fun t ht hW => ⟨⟨(0 : Int32), (f1, f2, g), rfl, by rw [bf_neighbour, if_neg h1, if_neg h2, if_pos h3], by rw [ht]; exact hP, va_K.moved hW.alike hK, hD⟩, hS.F ht⟩) hS.2.2 dX0_neighbour_22
set_option maxHeartbeats 4000000 in
set_option maxRecDepth 100000 in
theorem bc_scale (l : Launch) (dC : Nat → ClassId) (dI : Nat → Nat → Nat) (h0 a0 : Nat) (cA : ClassId) (sz : Nat) (f1 : Int32) (f2 : Int32) (g : Nat → Int64) (x1 : Int32) (x2 : Int32) (x3 : Int32) : Met l yX0_scale wsX0_scale ({ frames := 5, cells := 0, slots := 0, locals := 118 }) (va_Pc [.ref h0, .int x1, .int x2, .int x3] (bw_I2 (dC, dI) vwCl sz h0 a0 cA (.inr (0, [.ref a0, .int f1, .int f2])) (.inl (cA, 8, .inr (.inl g))))) (va_Qi (fun (r : Int32) (u : Int32 × Int32 × (Nat → Int64)) => (r, u) = bf_scale f1 f2 g x1 x2 x3) (fun u t => bw_O2 (dC, dI) vwCl (va_A [(h0, .inr (0, [.ref a0, .int f1, .int f2])), (a0, .inl (cA, 8, .inr (.inl g)))] sz) h0 a0 cA (.inr (0, [.ref a0, .int u.1, .int u.2.1])) (.inl (cA, 8, .inr (.inl u.2.2))) t) (va_A [(h0, .inr (0, [.ref a0, .int f1, .int f2])), (a0, .inl (cA, 8, .inr (.inl g)))] sz)) 0 0 (va_A [(h0, .inr (0, [.ref a0, .int f1, .int f2])), (a0, .inl (cA, 8, .inr (.inl g)))] sz) := by
  refine Met.ofW (cc := cX0_scale) (maxL := 4) (ret := (some .boolean)) (by decide) rfl ?_
  intro p e s m args below meth c s₁ B hml hv
  obtain ⟨rfl, hsz, hP, hK, hD0⟩ := hv
  have hx := B.exec
  have hb := B.bytes
  have hr := B.returns
  have hts := atoms_spec (ws := wsX0_scale) B.pre
  have hown : s.vm.findClass RX0 = some m.cls := findClass_of_methodNamed B.named
  have hlocks := B.notSynchronized
  subst hsz
  have hD := hD0.self (sz := s.heap.size)
  generalize hAe : va_A [(h0, .inr (0, [.ref a0, .int f1, .int f2])), (a0, .inl (cA, 8, .inr (.inl g)))] s.heap.size = A at hD ⊢
  have hA : ∀ q : Nat, s.heap.size ≤ q → A q := fun q h => by rw [← hAe]; exact Or.inr h
  have hS : va_S A s.heap s.heap [] := va_S.rf
  have hP : va_P (dC, dI) vwCl [(h0, .inr (0, [.ref a0, .int f1, .int f2])), (a0, .inl (cA, 8, .inr (.inl g)))] s.heap := hP
  have hin0 : ∀ w ∈ u_ws RX0 TX0 3, w ∈ wsX0_scale := by decide +kernel
  have hl := lv_entry ([.ref h0, .int x1, .int x2, .int x3]) (n := 4) (Nat.le_of_ble_eq_true rfl)
  rw [lg_entry_eq]
  generalize (lg_sl ([.ref h0, .int x1, .int x2, .int x3]) ++ List.replicate (4 - (lg_sl ([.ref h0, .int x1, .int x2, .int x3])).length) Slot.unset).toArray = ls at hl ⊢
  have hl : lv_has ls 4 [(0, .ref h0), (1, .int x1), (2, .int x2), (3, .int x3)] := hl
  refine lv_iload_n hx hb dX0_scale_0 rfl (lv_at hl 1 rfl) ?_
  refine bw_csi (rest := []) ⟨hx, hb, hml, hown, hts⟩ (bc_isRegister l x1) (va_cwS 1 hts gX0_scale_X0_isRegister rfl rfl rfl (by decide +kernel) ⟨Nat.le_of_ble_eq_true rfl, Nat.le_of_ble_eq_true rfl⟩) rfl hl.1 rfl (Nat.le_of_ble_eq_true rfl) dX0_scale_1 (Nat.zero_le _) (Nat.zero_le _) ?_
  refine lv_if_eq (tgt := 14) hx hb dX0_scale_4 (by decide) (fun h1 => ?_) (fun h1 => ?_)
  · refine lv_iconst (v := 0) hx hb dX0_scale_14 (by decide) ?_
    exact W.zret (v := (0 : Int32)) hx hb hr rfl (fun t ht hW => ⟨⟨(0 : Int32), (f1, f2, g), rfl, by rw [bf_scale, if_pos h1], by rw [ht]; exact hP, va_K.moved hW.alike hK, hD⟩, hS.F ht⟩) hS.2.2 dX0_scale_15
  · refine lv_iload_n hx hb dX0_scale_7 rfl (lv_at hl 2 rfl) ?_
    refine bw_csi (rest := []) ⟨hx, hb, hml, hown, hts⟩ (bc_isRegister l x2) (va_cwS 1 hts gX0_scale_X0_isRegister rfl rfl rfl (by decide +kernel) ⟨Nat.le_of_ble_eq_true rfl, Nat.le_of_ble_eq_true rfl⟩) rfl hl.1 rfl (Nat.le_of_ble_eq_true rfl) dX0_scale_8 (Nat.zero_le _) (Nat.zero_le _) ?_
    refine lv_if_ne (tgt := 16) hx hb dX0_scale_11 (by decide) (fun h2 => ?_) (fun h2 => ?_)
    · refine lv_aload_n hx hb dX0_scale_16 rfl (lv_at hl 0 rfl) ?_
      refine va_get (D := (dC, dI)) (ci := 0) (v := .ref a0) (C := RX0) (T := TX0) (N := 3) hx hb hts hin0 hown hK hP 0 rfl rfl 0 (by decide) (hts (.fieldLink RX0 9 "BinaryFunctions" "registers" "[J") (by decide +kernel)) (fun _ h9 => h9) rfl dX0_scale_17 ?_
      refine lv_iload_n hx hb dX0_scale_20 rfl (lv_at hl 1 rfl) ?_
      refine lv_aload_n hx hb dX0_scale_21 rfl (lv_at hl 0 rfl) ?_
      refine lv_aload_n hx hb dX0_scale_22 rfl (lv_at hl 0 rfl) ?_
      refine va_get (D := (dC, dI)) (ci := 0) (v := .ref a0) (C := RX0) (T := TX0) (N := 3) hx hb hts hin0 hown hK hP 0 rfl rfl 0 (by decide) (hts (.fieldLink RX0 9 "BinaryFunctions" "registers" "[J") (by decide +kernel)) (fun _ h9 => h9) rfl dX0_scale_23 ?_
      refine lv_iload_n hx hb dX0_scale_26 rfl (lv_at hl 2 rfl) ?_
      refine va_lald hx hb hK hP 1 0 rfl rfl (bm_reg0 h2) dX0_scale_27 ?_
      refine lv_iload_n hx hb dX0_scale_28 rfl (lv_at hl 3 rfl) ?_
      refine bw_vl1 (rest := [.int x1, .ref a0]) 0 ⟨hx, hb, hml, hown, hts⟩ (bc_timesPowerOfTwo l dC dI h0 a0 s.heap.size f1 f2 (g x2.toNatClampNeg) x3) (cwV 2 hts gX0_scale_X0_timesPowerOfTwo rfl rfl rfl (by decide +kernel) ⟨Nat.le_of_ble_eq_true rfl, Nat.le_of_ble_eq_true rfl⟩) hK hP hD hS hA rfl rfl rfl hl.1 rfl (Nat.le_of_ble_eq_true rfl) dX0_scale_29 (Nat.zero_le _) (Nat.zero_le _) (fun H locs hP hD hS => ?_)
      have hP : va_P (dC, dI) vwCl [(h0, .inr (0, [.ref a0, .int ((bf_timesPowerOfTwo f1 f2 (g x2.toNatClampNeg) x3).2.1), .int ((bf_timesPowerOfTwo f1 f2 (g x2.toNatClampNeg) x3).2.2)])), (a0, .inl (cA, 8, .inr (.inl g)))] H := hP
      have hD : va_D A [(h0, .inr (0, [.ref a0, .int ((bf_timesPowerOfTwo f1 f2 (g x2.toNatClampNeg) x3).2.1), .int ((bf_timesPowerOfTwo f1 f2 (g x2.toNatClampNeg) x3).2.2)])), (a0, .inl (cA, 8, .inr (.inl g)))] := hD
      obtain ⟨r3, e3⟩ : ∃ r, (bf_timesPowerOfTwo f1 f2 (g x2.toNatClampNeg) x3) = r := ⟨_, rfl⟩
      rw [e3] at hP hD ⊢
      refine va_last hx hb hK hP hD hS 1 0 rfl rfl (bm_reg0 h1) dX0_scale_32 (fun H locs hP hD hS => ?_)
      have hP : va_P (dC, dI) vwCl [(h0, .inr (0, [.ref a0, .int r3.2.1, .int r3.2.2])), (a0, .inl (cA, 8, .inr (.inl (vp_updL g x1.toNatClampNeg r3.1))))] H := hP
      have hD : va_D A [(h0, .inr (0, [.ref a0, .int r3.2.1, .int r3.2.2])), (a0, .inl (cA, 8, .inr (.inl (vp_updL g x1.toNatClampNeg r3.1))))] := hD
      refine lv_iconst (v := 1) hx hb dX0_scale_33 (by decide) ?_
      exact W.zret (v := (1 : Int32)) hx hb hr rfl (fun t ht hW => ⟨⟨(1 : Int32), (r3.2.1, r3.2.2, vp_updL g x1.toNatClampNeg r3.1), rfl, by rw [bf_scale, if_neg h1, if_neg h2, e3, bf_scale_k1], by rw [ht]; exact hP, va_K.moved hW.alike hK, hD⟩, hS.F ht⟩) hS.2.2 dX0_scale_34
    · refine lv_iconst (v := 0) hx hb dX0_scale_14 (by decide) ?_
      exact W.zret (v := (0 : Int32)) hx hb hr rfl (fun t ht hW => ⟨⟨(0 : Int32), (f1, f2, g), rfl, by rw [bf_scale, if_neg h1, if_pos h2], by rw [ht]; exact hP, va_K.moved hW.alike hK, hD⟩, hS.F ht⟩) hS.2.2 dX0_scale_15
set_option maxHeartbeats 4000000 in
set_option maxRecDepth 100000 in
theorem bc_exponent (l : Launch) (dC : Nat → ClassId) (dI : Nat → Nat → Nat) (h0 a0 : Nat) (cA : ClassId) (sz : Nat) (f1 : Int32) (f2 : Int32) (g : Nat → Int64) (x1 : Int32) : Met l yX0_exponent wsX0_exponent ({ frames := 4, cells := 0, slots := 0, locals := 86 }) (va_Pc [.ref h0, .int x1] (bw_I2 (dC, dI) vwCl sz h0 a0 cA (.inr (0, [.ref a0, .int f1, .int f2])) (.inl (cA, 8, .inr (.inl g))))) (va_Qi (fun (r : Int32) (u : Int32 × Int32 × (Nat → Int64)) => (r, u) = bf_exponent f1 f2 g x1) (fun u t => bw_O2 (dC, dI) vwCl (va_A [(h0, .inr (0, [.ref a0, .int f1, .int f2])), (a0, .inl (cA, 8, .inr (.inl g)))] sz) h0 a0 cA (.inr (0, [.ref a0, .int u.1, .int u.2.1])) (.inl (cA, 8, .inr (.inl u.2.2))) t) (va_A [(h0, .inr (0, [.ref a0, .int f1, .int f2])), (a0, .inl (cA, 8, .inr (.inl g)))] sz)) 0 0 (va_A [(h0, .inr (0, [.ref a0, .int f1, .int f2])), (a0, .inl (cA, 8, .inr (.inl g)))] sz) := by
  refine Met.ofW (cc := cX0_exponent) (maxL := 4) (ret := (some .int)) (by decide) rfl ?_
  intro p e s m args below meth c s₁ B hml hv
  obtain ⟨rfl, hsz, hP, hK, hD0⟩ := hv
  have hx := B.exec
  have hb := B.bytes
  have hr := B.returns
  have hts := atoms_spec (ws := wsX0_exponent) B.pre
  have hown : s.vm.findClass RX0 = some m.cls := findClass_of_methodNamed B.named
  have hlocks := B.notSynchronized
  subst hsz
  have hD := hD0.self (sz := s.heap.size)
  generalize hAe : va_A [(h0, .inr (0, [.ref a0, .int f1, .int f2])), (a0, .inl (cA, 8, .inr (.inl g)))] s.heap.size = A at hD ⊢
  have hA : ∀ q : Nat, s.heap.size ≤ q → A q := fun q h => by rw [← hAe]; exact Or.inr h
  have hS : va_S A s.heap s.heap [] := va_S.rf
  have hP : va_P (dC, dI) vwCl [(h0, .inr (0, [.ref a0, .int f1, .int f2])), (a0, .inl (cA, 8, .inr (.inl g)))] s.heap := hP
  have hin0 : ∀ w ∈ u_ws RX0 TX0 3, w ∈ wsX0_exponent := by decide +kernel
  have hl := lv_entry ([.ref h0, .int x1]) (n := 4) (Nat.le_of_ble_eq_true rfl)
  rw [lg_entry_eq]
  generalize (lg_sl ([.ref h0, .int x1]) ++ List.replicate (4 - (lg_sl ([.ref h0, .int x1])).length) Slot.unset).toArray = ls at hl ⊢
  have hl : lv_has ls 4 [(0, .ref h0), (1, .int x1)] := hl
  refine lv_iload_n hx hb dX0_exponent_0 rfl (lv_at hl 1 rfl) ?_
  refine bw_csi (rest := []) ⟨hx, hb, hml, hown, hts⟩ (bc_isRegister l x1) (va_cwS 1 hts gX0_exponent_X0_isRegister rfl rfl rfl (by decide +kernel) ⟨Nat.le_of_ble_eq_true rfl, Nat.le_of_ble_eq_true rfl⟩) rfl hl.1 rfl (Nat.le_of_ble_eq_true rfl) dX0_exponent_1 (Nat.zero_le _) (Nat.zero_le _) ?_
  refine lv_if_ne (tgt := 9) hx hb dX0_exponent_4 (by decide) (fun h1 => ?_) (fun h1 => ?_)
  · refine lv_aload_n hx hb dX0_exponent_9 rfl (lv_at hl 0 rfl) ?_
    refine va_get (D := (dC, dI)) (ci := 0) (v := .ref a0) (C := RX0) (T := TX0) (N := 3) hx hb hts hin0 hown hK hP 0 rfl rfl 0 (by decide) (hts (.fieldLink RX0 9 "BinaryFunctions" "registers" "[J") (by decide +kernel)) (fun _ h9 => h9) rfl dX0_exponent_10 ?_
    refine lv_iload_n hx hb dX0_exponent_13 rfl (lv_at hl 1 rfl) ?_
    refine va_lald hx hb hK hP 1 0 rfl rfl (bm_reg0 h1) dX0_exponent_14 ?_
    refine lv_lstore_n (nL := 4) (lv' := [(2, .long (g x1.toNatClampNeg)), (0, .ref h0), (1, .int x1)]) hx hb dX0_exponent_15 rfl hl (by decide) rfl (fun ls hl => ?_)
    refine lv_lload_n hx hb dX0_exponent_16 rfl (lv_at hl 0 rfl) ?_
    refine bw_csi (rest := []) ⟨hx, hb, hml, hown, hts⟩ (bc_isZero l (g x1.toNatClampNeg)) (va_cwS 1 hts gX0_exponent_X0_isZero rfl rfl rfl (by decide +kernel) ⟨Nat.le_of_ble_eq_true rfl, Nat.le_of_ble_eq_true rfl⟩) rfl hl.1 rfl (Nat.le_of_ble_eq_true rfl) dX0_exponent_17 (Nat.zero_le _) (Nat.zero_le _) ?_
    refine lv_if_eq (tgt := 26) hx hb dX0_exponent_20 (by decide) (fun h2 => ?_) (fun h2 => ?_)
    · refine lv_lload_n hx hb dX0_exponent_26 rfl (lv_at hl 0 rfl) ?_
      refine bw_csi (rest := []) ⟨hx, hb, hml, hown, hts⟩ (bc_isInfinity l (g x1.toNatClampNeg)) (va_cwS 1 hts gX0_exponent_X0_isInfinity rfl rfl rfl (by decide +kernel) ⟨Nat.le_of_ble_eq_true rfl, Nat.le_of_ble_eq_true rfl⟩) rfl hl.1 rfl (Nat.le_of_ble_eq_true rfl) dX0_exponent_27 (Nat.zero_le _) (Nat.zero_le _) ?_
      refine lv_if_ne (tgt := 40) hx hb dX0_exponent_30 (by decide) (fun h3 => ?_) (fun h3 => ?_)
      · refine lv_ldc hx hb hown (hts (.constant RX0 54 2147483647) (by decide +kernel)) dX0_exponent_40 ?_
        exact W.iret (v := (2147483647 : Int32)) hx hb hr (fun t ht hW => ⟨⟨(2147483647 : Int32), (f1, f2, g), rfl, by rw [bf_exponent, if_neg h1, if_pos h2, if_neg h3], by rw [ht]; exact hP, va_K.moved hW.alike hK, hD⟩, hS.F ht⟩) hS.2.2 dX0_exponent_42
      · refine lv_lload_n hx hb dX0_exponent_33 rfl (lv_at hl 0 rfl) ?_
        refine bw_csi (rest := []) ⟨hx, hb, hml, hown, hts⟩ (bc_isNan l (g x1.toNatClampNeg)) (va_cwS 1 hts gX0_exponent_X0_isNan rfl rfl rfl (by decide +kernel) ⟨Nat.le_of_ble_eq_true rfl, Nat.le_of_ble_eq_true rfl⟩) rfl hl.1 rfl (Nat.le_of_ble_eq_true rfl) dX0_exponent_34 (Nat.zero_le _) (Nat.zero_le _) ?_
        refine lv_if_eq (tgt := 43) hx hb dX0_exponent_37 (by decide) (fun h4 => ?_) (fun h4 => ?_)
        · refine lv_lload_n hx hb dX0_exponent_43 rfl (lv_at hl 0 rfl) ?_
          refine bw_csi (rest := []) ⟨hx, hb, hml, hown, hts⟩ (bc_fullPower l (g x1.toNatClampNeg)) (va_cwS 1 hts gX0_exponent_X0_fullPower rfl rfl rfl (by decide +kernel) ⟨Nat.le_of_ble_eq_true rfl, Nat.le_of_ble_eq_true rfl⟩) rfl hl.1 rfl (Nat.le_of_ble_eq_true rfl) dX0_exponent_44 (Nat.zero_le _) (Nat.zero_le _) ?_
          refine lv_bipush (v := 52) hx hb dX0_exponent_47 (by decide) ?_
          refine lv_iadd hx hb dX0_exponent_49 ?_
          exact W.iret (v := (bf_fullPower (g x1.toNatClampNeg)) + (52 : Int32)) hx hb hr (fun t ht hW => ⟨⟨(bf_fullPower (g x1.toNatClampNeg)) + (52 : Int32), (f1, f2, g), rfl, by rw [bf_exponent, if_neg h1, if_pos h2, if_pos h3, if_pos h4], by rw [ht]; exact hP, va_K.moved hW.alike hK, hD⟩, hS.F ht⟩) hS.2.2 dX0_exponent_50
        · refine lv_ldc hx hb hown (hts (.constant RX0 54 2147483647) (by decide +kernel)) dX0_exponent_40 ?_
          exact W.iret (v := (2147483647 : Int32)) hx hb hr (fun t ht hW => ⟨⟨(2147483647 : Int32), (f1, f2, g), rfl, by rw [bf_exponent, if_neg h1, if_pos h2, if_pos h3, if_neg h4], by rw [ht]; exact hP, va_K.moved hW.alike hK, hD⟩, hS.F ht⟩) hS.2.2 dX0_exponent_42
    · refine lv_ldc hx hb hown (hts (.constant RX0 47 (-2147483648)) (by decide +kernel)) dX0_exponent_23 ?_
      exact W.iret (v := (-2147483648 : Int32)) hx hb hr (fun t ht hW => ⟨⟨(-2147483648 : Int32), (f1, f2, g), rfl, by rw [bf_exponent, if_neg h1, if_neg h2], by rw [ht]; exact hP, va_K.moved hW.alike hK, hD⟩, hS.F ht⟩) hS.2.2 dX0_exponent_25
  · refine lv_iconst (v := 0) hx hb dX0_exponent_7 (by decide) ?_
    exact W.iret (v := (0 : Int32)) hx hb hr (fun t ht hW => ⟨⟨(0 : Int32), (f1, f2, g), rfl, by rw [bf_exponent, if_pos h1], by rw [ht]; exact hP, va_K.moved hW.alike hK, hD⟩, hS.F ht⟩) hS.2.2 dX0_exponent_8
set_option maxHeartbeats 4000000 in
set_option maxRecDepth 100000 in
theorem bc_compare (l : Launch) (dC : Nat → ClassId) (dI : Nat → Nat → Nat) (h0 a0 : Nat) (cA : ClassId) (sz : Nat) (f1 : Int32) (f2 : Int32) (g : Nat → Int64) (x1 : Int32) (x2 : Int32) : Met l yX0_compare wsX0_compare ({ frames := 1, cells := 0, slots := 0, locals := 21 }) (va_Pc [.ref h0, .int x1, .int x2] (bw_I2 (dC, dI) vwCl sz h0 a0 cA (.inr (0, [.ref a0, .int f1, .int f2])) (.inl (cA, 8, .inr (.inl g))))) (va_Qi (fun (r : Int32) (u : Int32 × Int32 × (Nat → Int64)) => (r, u) = bf_compare f1 f2 g x1 x2) (fun u t => bw_O2 (dC, dI) vwCl (va_A [(h0, .inr (0, [.ref a0, .int f1, .int f2])), (a0, .inl (cA, 8, .inr (.inl g)))] sz) h0 a0 cA (.inr (0, [.ref a0, .int u.1, .int u.2.1])) (.inl (cA, 8, .inr (.inl u.2.2))) t) (va_A [(h0, .inr (0, [.ref a0, .int f1, .int f2])), (a0, .inl (cA, 8, .inr (.inl g)))] sz)) 0 0 (va_A [(h0, .inr (0, [.ref a0, .int f1, .int f2])), (a0, .inl (cA, 8, .inr (.inl g)))] sz) := by
  refine Met.ofW (cc := cX0_compare) (maxL := 7) (ret := (some .int)) (by decide) rfl ?_
  intro p e s m args below meth c s₁ B hml hv
  obtain ⟨rfl, hsz, hP, hK, hD0⟩ := hv
  have hx := B.exec
  have hb := B.bytes
  have hr := B.returns
  have hts := atoms_spec (ws := wsX0_compare) B.pre
  have hown : s.vm.findClass RX0 = some m.cls := findClass_of_methodNamed B.named
  have hlocks := B.notSynchronized
  subst hsz
  have hD := hD0.self (sz := s.heap.size)
  generalize hAe : va_A [(h0, .inr (0, [.ref a0, .int f1, .int f2])), (a0, .inl (cA, 8, .inr (.inl g)))] s.heap.size = A at hD ⊢
  have hA : ∀ q : Nat, s.heap.size ≤ q → A q := fun q h => by rw [← hAe]; exact Or.inr h
  have hS : va_S A s.heap s.heap [] := va_S.rf
  have hP : va_P (dC, dI) vwCl [(h0, .inr (0, [.ref a0, .int f1, .int f2])), (a0, .inl (cA, 8, .inr (.inl g)))] s.heap := hP
  have hin0 : ∀ w ∈ u_ws RX0 TX0 3, w ∈ wsX0_compare := by decide +kernel
  have hl := lv_entry ([.ref h0, .int x1, .int x2]) (n := 7) (Nat.le_of_ble_eq_true rfl)
  rw [lg_entry_eq]
  generalize (lg_sl ([.ref h0, .int x1, .int x2]) ++ List.replicate (7 - (lg_sl ([.ref h0, .int x1, .int x2])).length) Slot.unset).toArray = ls at hl ⊢
  have hl : lv_has ls 7 [(0, .ref h0), (1, .int x1), (2, .int x2)] := hl
  refine lv_iload_n hx hb dX0_compare_0 rfl (lv_at hl 1 rfl) ?_
  refine bw_csi (rest := []) ⟨hx, hb, hml, hown, hts⟩ (bc_isRegister l x1) (va_cwS 1 hts gX0_compare_X0_isRegister rfl rfl rfl (by decide +kernel) ⟨Nat.le_of_ble_eq_true rfl, Nat.le_of_ble_eq_true rfl⟩) rfl hl.1 rfl (Nat.le_of_ble_eq_true rfl) dX0_compare_1 (Nat.zero_le _) (Nat.zero_le _) ?_
  refine lv_if_eq (tgt := 38) hx hb dX0_compare_4 (by decide) (fun h1 => ?_) (fun h1 => ?_)
  · refine lv_iconst (v := 2) hx hb dX0_compare_38 (by decide) ?_
    exact W.iret (v := (2 : Int32)) hx hb hr (fun t ht hW => ⟨⟨(2 : Int32), (f1, f2, g), rfl, by rw [bf_compare, if_pos h1], by rw [ht]; exact hP, va_K.moved hW.alike hK, hD⟩, hS.F ht⟩) hS.2.2 dX0_compare_39
  · refine lv_iload_n hx hb dX0_compare_7 rfl (lv_at hl 2 rfl) ?_
    refine bw_csi (rest := []) ⟨hx, hb, hml, hown, hts⟩ (bc_isRegister l x2) (va_cwS 1 hts gX0_compare_X0_isRegister rfl rfl rfl (by decide +kernel) ⟨Nat.le_of_ble_eq_true rfl, Nat.le_of_ble_eq_true rfl⟩) rfl hl.1 rfl (Nat.le_of_ble_eq_true rfl) dX0_compare_8 (Nat.zero_le _) (Nat.zero_le _) ?_
    refine lv_if_eq (tgt := 38) hx hb dX0_compare_11 (by decide) (fun h2 => ?_) (fun h2 => ?_)
    · refine lv_iconst (v := 2) hx hb dX0_compare_38 (by decide) ?_
      exact W.iret (v := (2 : Int32)) hx hb hr (fun t ht hW => ⟨⟨(2 : Int32), (f1, f2, g), rfl, by rw [bf_compare, if_neg h1, if_pos h2], by rw [ht]; exact hP, va_K.moved hW.alike hK, hD⟩, hS.F ht⟩) hS.2.2 dX0_compare_39
    · refine lv_aload_n hx hb dX0_compare_14 rfl (lv_at hl 0 rfl) ?_
      refine va_get (D := (dC, dI)) (ci := 0) (v := .ref a0) (C := RX0) (T := TX0) (N := 3) hx hb hts hin0 hown hK hP 0 rfl rfl 0 (by decide) (hts (.fieldLink RX0 9 "BinaryFunctions" "registers" "[J") (by decide +kernel)) (fun _ h9 => h9) rfl dX0_compare_15 ?_
      refine lv_iload_n hx hb dX0_compare_18 rfl (lv_at hl 1 rfl) ?_
      refine va_lald hx hb hK hP 1 0 rfl rfl (bm_reg0 h1) dX0_compare_19 ?_
      refine bw_csi (rest := []) ⟨hx, hb, hml, hown, hts⟩ (bc_isNan l (g x1.toNatClampNeg)) (va_cwS 1 hts gX0_compare_X0_isNan rfl rfl rfl (by decide +kernel) ⟨Nat.le_of_ble_eq_true rfl, Nat.le_of_ble_eq_true rfl⟩) rfl hl.1 rfl (Nat.le_of_ble_eq_true rfl) dX0_compare_20 (Nat.zero_le _) (Nat.zero_le _) ?_
      refine lv_if_ne (tgt := 38) hx hb dX0_compare_23 (by decide) (fun h3 => ?_) (fun h3 => ?_)
      · refine lv_iconst (v := 2) hx hb dX0_compare_38 (by decide) ?_
        exact W.iret (v := (2 : Int32)) hx hb hr (fun t ht hW => ⟨⟨(2 : Int32), (f1, f2, g), rfl, by rw [bf_compare, if_neg h1, if_neg h2, if_neg h3], by rw [ht]; exact hP, va_K.moved hW.alike hK, hD⟩, hS.F ht⟩) hS.2.2 dX0_compare_39
      · refine lv_aload_n hx hb dX0_compare_26 rfl (lv_at hl 0 rfl) ?_
        refine va_get (D := (dC, dI)) (ci := 0) (v := .ref a0) (C := RX0) (T := TX0) (N := 3) hx hb hts hin0 hown hK hP 0 rfl rfl 0 (by decide) (hts (.fieldLink RX0 9 "BinaryFunctions" "registers" "[J") (by decide +kernel)) (fun _ h9 => h9) rfl dX0_compare_27 ?_
        refine lv_iload_n hx hb dX0_compare_30 rfl (lv_at hl 2 rfl) ?_
        refine va_lald hx hb hK hP 1 0 rfl rfl (bm_reg0 h2) dX0_compare_31 ?_
        refine bw_csi (rest := []) ⟨hx, hb, hml, hown, hts⟩ (bc_isNan l (g x2.toNatClampNeg)) (va_cwS 1 hts gX0_compare_X0_isNan rfl rfl rfl (by decide +kernel) ⟨Nat.le_of_ble_eq_true rfl, Nat.le_of_ble_eq_true rfl⟩) rfl hl.1 rfl (Nat.le_of_ble_eq_true rfl) dX0_compare_32 (Nat.zero_le _) (Nat.zero_le _) ?_
        refine lv_if_eq (tgt := 40) hx hb dX0_compare_35 (by decide) (fun h4 => ?_) (fun h4 => ?_)
        · refine lv_aload_n hx hb dX0_compare_40 rfl (lv_at hl 0 rfl) ?_
          refine va_get (D := (dC, dI)) (ci := 0) (v := .ref a0) (C := RX0) (T := TX0) (N := 3) hx hb hts hin0 hown hK hP 0 rfl rfl 0 (by decide) (hts (.fieldLink RX0 9 "BinaryFunctions" "registers" "[J") (by decide +kernel)) (fun _ h9 => h9) rfl dX0_compare_41 ?_
          refine lv_iload_n hx hb dX0_compare_44 rfl (lv_at hl 1 rfl) ?_
          refine va_lald hx hb hK hP 1 0 rfl rfl (bm_reg0 h1) dX0_compare_45 ?_
          refine bw_csl (rest := []) ⟨hx, hb, hml, hown, hts⟩ (bc_place l (g x1.toNatClampNeg)) (va_cwS 1 hts gX0_compare_X0_place rfl rfl rfl (by decide +kernel) ⟨Nat.le_of_ble_eq_true rfl, Nat.le_of_ble_eq_true rfl⟩) rfl hl.1 rfl (Nat.le_of_ble_eq_true rfl) dX0_compare_46 (Nat.zero_le _) (Nat.zero_le _) ?_
          refine lv_lstore_n (nL := 7) (lv' := [(3, .long (bf_place (g x1.toNatClampNeg))), (0, .ref h0), (1, .int x1), (2, .int x2)]) hx hb dX0_compare_49 rfl hl (by decide) rfl (fun ls hl => ?_)
          refine lv_aload_n hx hb dX0_compare_50 rfl (lv_at hl 1 rfl) ?_
          refine va_get (D := (dC, dI)) (ci := 0) (v := .ref a0) (C := RX0) (T := TX0) (N := 3) hx hb hts hin0 hown hK hP 0 rfl rfl 0 (by decide) (hts (.fieldLink RX0 9 "BinaryFunctions" "registers" "[J") (by decide +kernel)) (fun _ h9 => h9) rfl dX0_compare_51 ?_
          refine lv_iload_n hx hb dX0_compare_54 rfl (lv_at hl 3 rfl) ?_
          refine va_lald hx hb hK hP 1 0 rfl rfl (bm_reg0 h2) dX0_compare_55 ?_
          refine bw_csl (rest := []) ⟨hx, hb, hml, hown, hts⟩ (bc_place l (g x2.toNatClampNeg)) (va_cwS 1 hts gX0_compare_X0_place rfl rfl rfl (by decide +kernel) ⟨Nat.le_of_ble_eq_true rfl, Nat.le_of_ble_eq_true rfl⟩) rfl hl.1 rfl (Nat.le_of_ble_eq_true rfl) dX0_compare_56 (Nat.zero_le _) (Nat.zero_le _) ?_
          refine lv_lstore (nL := 7) (lv' := [(5, .long (bf_place (g x2.toNatClampNeg))), (3, .long (bf_place (g x1.toNatClampNeg))), (0, .ref h0), (1, .int x1), (2, .int x2)]) hx hb dX0_compare_59 hl (by decide) rfl (fun ls hl => ?_)
          refine lv_lload_n hx hb dX0_compare_61 rfl (lv_at hl 1 rfl) ?_
          refine lv_lload hx hb dX0_compare_62 (lv_at hl 0 rfl) ?_
          refine bw_lc_ne (tgt := 70) hx hb dX0_compare_64 dX0_compare_65 (by decide) (fun h5 => ?_) (fun h5 => ?_)
          · refine lv_lload_n hx hb dX0_compare_70 rfl (lv_at hl 1 rfl) ?_
            refine lv_lload hx hb dX0_compare_71 (lv_at hl 0 rfl) ?_
            refine bw_lc_ge (tgt := 81) hx hb dX0_compare_73 dX0_compare_74 (by decide) (fun h6 => ?_) (fun h6 => ?_)
            · refine lv_iconst (v := 1) hx hb dX0_compare_81 (by decide) ?_
              exact W.iret (v := (1 : Int32)) hx hb hr (fun t ht hW => ⟨⟨(1 : Int32), (f1, f2, g), rfl, by rw [bf_compare, if_neg h1, if_neg h2, if_pos h3, if_pos h4, if_neg h5, if_pos h6], by rw [ht]; exact hP, va_K.moved hW.alike hK, hD⟩, hS.F ht⟩) hS.2.2 dX0_compare_82
            · refine lv_iconst (v := -1) hx hb dX0_compare_77 (by decide) ?_
              refine lv_goto (tgt := 82) hx hb dX0_compare_78 (by decide) ?_
              exact W.iret (v := (-1 : Int32)) hx hb hr (fun t ht hW => ⟨⟨(-1 : Int32), (f1, f2, g), rfl, by rw [bf_compare, if_neg h1, if_neg h2, if_pos h3, if_pos h4, if_neg h5, if_neg h6], by rw [ht]; exact hP, va_K.moved hW.alike hK, hD⟩, hS.F ht⟩) hS.2.2 dX0_compare_82
          · refine lv_iconst (v := 0) hx hb dX0_compare_68 (by decide) ?_
            exact W.iret (v := (0 : Int32)) hx hb hr (fun t ht hW => ⟨⟨(0 : Int32), (f1, f2, g), rfl, by rw [bf_compare, if_neg h1, if_neg h2, if_pos h3, if_pos h4, if_pos h5], by rw [ht]; exact hP, va_K.moved hW.alike hK, hD⟩, hS.F ht⟩) hS.2.2 dX0_compare_69
        · refine lv_iconst (v := 2) hx hb dX0_compare_38 (by decide) ?_
          exact W.iret (v := (2 : Int32)) hx hb hr (fun t ht hW => ⟨⟨(2 : Int32), (f1, f2, g), rfl, by rw [bf_compare, if_neg h1, if_neg h2, if_pos h3, if_neg h4], by rw [ht]; exact hP, va_K.moved hW.alike hK, hD⟩, hS.F ht⟩) hS.2.2 dX0_compare_39
set_option maxHeartbeats 4000000 in
set_option maxRecDepth 100000 in
theorem bc_sort (l : Launch) (dC : Nat → ClassId) (dI : Nat → Nat → Nat) (h0 a0 : Nat) (cA : ClassId) (sz : Nat) (f1 : Int32) (f2 : Int32) (g : Nat → Int64) (x1 : Int32) : Met l yX0_sort wsX0_sort ({ frames := 2, cells := 0, slots := 0, locals := 42 }) (va_Pc [.ref h0, .int x1] (bw_I2 (dC, dI) vwCl sz h0 a0 cA (.inr (0, [.ref a0, .int f1, .int f2])) (.inl (cA, 8, .inr (.inl g))))) (va_Qi (fun (r : Int32) (u : Int32 × Int32 × (Nat → Int64)) => (r, u) = bf_sort f1 f2 g x1) (fun u t => bw_O2 (dC, dI) vwCl (va_A [(h0, .inr (0, [.ref a0, .int f1, .int f2])), (a0, .inl (cA, 8, .inr (.inl g)))] sz) h0 a0 cA (.inr (0, [.ref a0, .int u.1, .int u.2.1])) (.inl (cA, 8, .inr (.inl u.2.2))) t) (va_A [(h0, .inr (0, [.ref a0, .int f1, .int f2])), (a0, .inl (cA, 8, .inr (.inl g)))] sz)) 0 0 (va_A [(h0, .inr (0, [.ref a0, .int f1, .int f2])), (a0, .inl (cA, 8, .inr (.inl g)))] sz) := by
  refine Met.ofW (cc := cX0_sort) (maxL := 4) (ret := (some .int)) (by decide) rfl ?_
  intro p e s m args below meth c s₁ B hml hv
  obtain ⟨rfl, hsz, hP, hK, hD0⟩ := hv
  have hx := B.exec
  have hb := B.bytes
  have hr := B.returns
  have hts := atoms_spec (ws := wsX0_sort) B.pre
  have hown : s.vm.findClass RX0 = some m.cls := findClass_of_methodNamed B.named
  have hlocks := B.notSynchronized
  subst hsz
  have hD := hD0.self (sz := s.heap.size)
  generalize hAe : va_A [(h0, .inr (0, [.ref a0, .int f1, .int f2])), (a0, .inl (cA, 8, .inr (.inl g)))] s.heap.size = A at hD ⊢
  have hA : ∀ q : Nat, s.heap.size ≤ q → A q := fun q h => by rw [← hAe]; exact Or.inr h
  have hS : va_S A s.heap s.heap [] := va_S.rf
  have hP : va_P (dC, dI) vwCl [(h0, .inr (0, [.ref a0, .int f1, .int f2])), (a0, .inl (cA, 8, .inr (.inl g)))] s.heap := hP
  have hin0 : ∀ w ∈ u_ws RX0 TX0 3, w ∈ wsX0_sort := by decide +kernel
  have hl := lv_entry ([.ref h0, .int x1]) (n := 4) (Nat.le_of_ble_eq_true rfl)
  rw [lg_entry_eq]
  generalize (lg_sl ([.ref h0, .int x1]) ++ List.replicate (4 - (lg_sl ([.ref h0, .int x1])).length) Slot.unset).toArray = ls at hl ⊢
  have hl : lv_has ls 4 [(0, .ref h0), (1, .int x1)] := hl
  refine lv_iload_n hx hb dX0_sort_0 rfl (lv_at hl 1 rfl) ?_
  refine bw_csi (rest := []) ⟨hx, hb, hml, hown, hts⟩ (bc_isRegister l x1) (va_cwS 1 hts gX0_sort_X0_isRegister rfl rfl rfl (by decide +kernel) ⟨Nat.le_of_ble_eq_true rfl, Nat.le_of_ble_eq_true rfl⟩) rfl hl.1 rfl (Nat.le_of_ble_eq_true rfl) dX0_sort_1 (Nat.zero_le _) (Nat.zero_le _) ?_
  refine lv_if_ne (tgt := 9) hx hb dX0_sort_4 (by decide) (fun h1 => ?_) (fun h1 => ?_)
  · refine lv_aload_n hx hb dX0_sort_9 rfl (lv_at hl 0 rfl) ?_
    refine va_get (D := (dC, dI)) (ci := 0) (v := .ref a0) (C := RX0) (T := TX0) (N := 3) hx hb hts hin0 hown hK hP 0 rfl rfl 0 (by decide) (hts (.fieldLink RX0 9 "BinaryFunctions" "registers" "[J") (by decide +kernel)) (fun _ h9 => h9) rfl dX0_sort_10 ?_
    refine lv_iload_n hx hb dX0_sort_13 rfl (lv_at hl 1 rfl) ?_
    refine va_lald hx hb hK hP 1 0 rfl rfl (bm_reg0 h1) dX0_sort_14 ?_
    refine lv_lstore_n (nL := 4) (lv' := [(2, .long (g x1.toNatClampNeg)), (0, .ref h0), (1, .int x1)]) hx hb dX0_sort_15 rfl hl (by decide) rfl (fun ls hl => ?_)
    refine lv_lload_n hx hb dX0_sort_16 rfl (lv_at hl 0 rfl) ?_
    refine lv_lconst (v := 0) hx hb dX0_sort_17 (by decide) ?_
    refine bw_lc_ge (tgt := 32) hx hb dX0_sort_18 dX0_sort_19 (by decide) (fun h2 => ?_) (fun h2 => ?_)
    · refine lv_lload_n hx hb dX0_sort_32 rfl (lv_at hl 0 rfl) ?_
      refine bw_csi (rest := []) ⟨hx, hb, hml, hown, hts⟩ (bc_sortOfAmount l (g x1.toNatClampNeg)) (va_cwS 1 hts gX0_sort_X0_sortOfAmount rfl rfl rfl (by decide +kernel) ⟨Nat.le_of_ble_eq_true rfl, Nat.le_of_ble_eq_true rfl⟩) rfl hl.1 rfl (Nat.le_of_ble_eq_true rfl) dX0_sort_33 (Nat.zero_le _) (Nat.zero_le _) ?_
      exact W.iret (v := bf_sortOfAmount (g x1.toNatClampNeg)) hx hb hr (fun t ht hW => ⟨⟨bf_sortOfAmount (g x1.toNatClampNeg), (f1, f2, g), rfl, by rw [bf_sort, if_neg h1, if_pos h2], by rw [ht]; exact hP, va_K.moved hW.alike hK, hD⟩, hS.F ht⟩) hS.2.2 dX0_sort_36
    · refine lv_lload_n hx hb dX0_sort_22 rfl (lv_at hl 0 rfl) ?_
      refine bw_csi (rest := []) ⟨hx, hb, hml, hown, hts⟩ (bc_sortOfAmount l (g x1.toNatClampNeg)) (va_cwS 1 hts gX0_sort_X0_sortOfAmount rfl rfl rfl (by decide +kernel) ⟨Nat.le_of_ble_eq_true rfl, Nat.le_of_ble_eq_true rfl⟩) rfl hl.1 rfl (Nat.le_of_ble_eq_true rfl) dX0_sort_23 (Nat.zero_le _) (Nat.zero_le _) ?_
      refine lv_bipush (v := 8) hx hb dX0_sort_26 (by decide) ?_
      refine lv_iadd hx hb dX0_sort_28 ?_
      refine lv_goto (tgt := 36) hx hb dX0_sort_29 (by decide) ?_
      exact W.iret (v := (bf_sortOfAmount (g x1.toNatClampNeg)) + (8 : Int32)) hx hb hr (fun t ht hW => ⟨⟨(bf_sortOfAmount (g x1.toNatClampNeg)) + (8 : Int32), (f1, f2, g), rfl, by rw [bf_sort, if_neg h1, if_neg h2], by rw [ht]; exact hP, va_K.moved hW.alike hK, hD⟩, hS.F ht⟩) hS.2.2 dX0_sort_36
  · refine lv_iconst (v := -1) hx hb dX0_sort_7 (by decide) ?_
    exact W.iret (v := (-1 : Int32)) hx hb hr (fun t ht hW => ⟨⟨(-1 : Int32), (f1, f2, g), rfl, by rw [bf_sort, if_pos h1], by rw [ht]; exact hP, va_K.moved hW.alike hK, hD⟩, hS.F ht⟩) hS.2.2 dX0_sort_8
set_option maxHeartbeats 4000000 in
set_option maxRecDepth 100000 in
theorem bc_flags (l : Launch) (dC : Nat → ClassId) (dI : Nat → Nat → Nat) (h0 a0 : Nat) (cA : ClassId) (sz : Nat) (f1 : Int32) (f2 : Int32) (g : Nat → Int64) : Met l yX0_flags wsX0_flags ({ frames := 0, cells := 0, slots := 0, locals := 0 }) (va_Pc [.ref h0] (bw_I2 (dC, dI) vwCl sz h0 a0 cA (.inr (0, [.ref a0, .int f1, .int f2])) (.inl (cA, 8, .inr (.inl g))))) (va_Qi (fun (r : Int32) (u : Int32 × Int32 × (Nat → Int64)) => (r, u) = bf_flags f1 f2 g) (fun u t => bw_O2 (dC, dI) vwCl (va_A [(h0, .inr (0, [.ref a0, .int f1, .int f2])), (a0, .inl (cA, 8, .inr (.inl g)))] sz) h0 a0 cA (.inr (0, [.ref a0, .int u.1, .int u.2.1])) (.inl (cA, 8, .inr (.inl u.2.2))) t) (va_A [(h0, .inr (0, [.ref a0, .int f1, .int f2])), (a0, .inl (cA, 8, .inr (.inl g)))] sz)) 0 0 (va_A [(h0, .inr (0, [.ref a0, .int f1, .int f2])), (a0, .inl (cA, 8, .inr (.inl g)))] sz) := by
  refine Met.ofW (cc := cX0_flags) (maxL := 1) (ret := (some .int)) (by decide) rfl ?_
  intro p e s m args below meth c s₁ B hml hv
  obtain ⟨rfl, hsz, hP, hK, hD0⟩ := hv
  have hx := B.exec
  have hb := B.bytes
  have hr := B.returns
  have hts := atoms_spec (ws := wsX0_flags) B.pre
  have hown : s.vm.findClass RX0 = some m.cls := findClass_of_methodNamed B.named
  have hlocks := B.notSynchronized
  subst hsz
  have hD := hD0.self (sz := s.heap.size)
  generalize hAe : va_A [(h0, .inr (0, [.ref a0, .int f1, .int f2])), (a0, .inl (cA, 8, .inr (.inl g)))] s.heap.size = A at hD ⊢
  have hA : ∀ q : Nat, s.heap.size ≤ q → A q := fun q h => by rw [← hAe]; exact Or.inr h
  have hS : va_S A s.heap s.heap [] := va_S.rf
  have hP : va_P (dC, dI) vwCl [(h0, .inr (0, [.ref a0, .int f1, .int f2])), (a0, .inl (cA, 8, .inr (.inl g)))] s.heap := hP
  have hin0 : ∀ w ∈ u_ws RX0 TX0 3, w ∈ wsX0_flags := by decide +kernel
  have hl := lv_entry ([.ref h0]) (n := 1) (Nat.le_of_ble_eq_true rfl)
  rw [lg_entry_eq]
  generalize (lg_sl ([.ref h0]) ++ List.replicate (1 - (lg_sl ([.ref h0])).length) Slot.unset).toArray = ls at hl ⊢
  have hl : lv_has ls 1 [(0, .ref h0)] := hl
  refine lv_aload_n hx hb dX0_flags_0 rfl (lv_at hl 0 rfl) ?_
  refine va_get (D := (dC, dI)) (ci := 0) (v := .int f1) (C := RX0) (T := TX0) (N := 3) hx hb hts hin0 hown hK hP 0 rfl rfl 1 (by decide) (hts (.fieldLink RX0 13 "BinaryFunctions" "raised" "I") (by decide +kernel)) (fun _ h9 => h9) rfl dX0_flags_1 ?_
  exact W.iret (v := f1) hx hb hr (fun t ht hW => ⟨⟨f1, (f1, f2, g), rfl, by rw [bf_flags], by rw [ht]; exact hP, va_K.moved hW.alike hK, hD⟩, hS.F ht⟩) hS.2.2 dX0_flags_4
set_option maxHeartbeats 4000000 in
set_option maxRecDepth 100000 in
theorem bc_clear (l : Launch) (dC : Nat → ClassId) (dI : Nat → Nat → Nat) (h0 a0 : Nat) (cA : ClassId) (sz : Nat) (f1 : Int32) (f2 : Int32) (g : Nat → Int64) : Met l yX0_clear wsX0_clear ({ frames := 0, cells := 0, slots := 0, locals := 0 }) (va_Pc [.ref h0] (bw_I2 (dC, dI) vwCl sz h0 a0 cA (.inr (0, [.ref a0, .int f1, .int f2])) (.inl (cA, 8, .inr (.inl g))))) (va_Qv (fun (u : Int32 × Int32 × (Nat → Int64)) => u = bf_clear f1 f2 g) (fun u t => bw_O2 (dC, dI) vwCl (va_A [(h0, .inr (0, [.ref a0, .int f1, .int f2])), (a0, .inl (cA, 8, .inr (.inl g)))] sz) h0 a0 cA (.inr (0, [.ref a0, .int u.1, .int u.2.1])) (.inl (cA, 8, .inr (.inl u.2.2))) t) (va_A [(h0, .inr (0, [.ref a0, .int f1, .int f2])), (a0, .inl (cA, 8, .inr (.inl g)))] sz)) 0 0 (va_A [(h0, .inr (0, [.ref a0, .int f1, .int f2])), (a0, .inl (cA, 8, .inr (.inl g)))] sz) := by
  refine Met.ofW (cc := cX0_clear) (maxL := 1) (ret := none) (by decide) rfl ?_
  intro p e s m args below meth c s₁ B hml hv
  obtain ⟨rfl, hsz, hP, hK, hD0⟩ := hv
  have hx := B.exec
  have hb := B.bytes
  have hr := B.returns
  have hts := atoms_spec (ws := wsX0_clear) B.pre
  have hown : s.vm.findClass RX0 = some m.cls := findClass_of_methodNamed B.named
  have hlocks := B.notSynchronized
  subst hsz
  have hD := hD0.self (sz := s.heap.size)
  generalize hAe : va_A [(h0, .inr (0, [.ref a0, .int f1, .int f2])), (a0, .inl (cA, 8, .inr (.inl g)))] s.heap.size = A at hD ⊢
  have hA : ∀ q : Nat, s.heap.size ≤ q → A q := fun q h => by rw [← hAe]; exact Or.inr h
  have hS : va_S A s.heap s.heap [] := va_S.rf
  have hP : va_P (dC, dI) vwCl [(h0, .inr (0, [.ref a0, .int f1, .int f2])), (a0, .inl (cA, 8, .inr (.inl g)))] s.heap := hP
  have hin0 : ∀ w ∈ u_ws RX0 TX0 3, w ∈ wsX0_clear := by decide +kernel
  have hl := lv_entry ([.ref h0]) (n := 1) (Nat.le_of_ble_eq_true rfl)
  rw [lg_entry_eq]
  generalize (lg_sl ([.ref h0]) ++ List.replicate (1 - (lg_sl ([.ref h0])).length) Slot.unset).toArray = ls at hl ⊢
  have hl : lv_has ls 1 [(0, .ref h0)] := hl
  refine lv_aload_n hx hb dX0_clear_0 rfl (lv_at hl 0 rfl) ?_
  refine lv_iconst (v := 0) hx hb dX0_clear_1 (by decide) ?_
  refine va_put (D := (dC, dI)) (ci := 0) (v := .int (0 : Int32)) (ty := .int) (C := RX0) (T := TX0) (N := 3) hx hb hts hin0 tyX0 tyX0_ok nmX0 hown hK hP hD hS 0 rfl rfl 1 (by decide) (hts (.fieldLink RX0 13 "BinaryFunctions" "raised" "I") (by decide +kernel)) (fun _ h9 => h9) rfl (by decide +kernel) rfl rfl (Nat.le_of_ble_eq_true rfl) dX0_clear_2 (fun H locs hP hD hS => ?_)
  have hP : va_P (dC, dI) vwCl [(h0, .inr (0, [.ref a0, .int (0 : Int32), .int f2])), (a0, .inl (cA, 8, .inr (.inl g)))] H := hP
  have hD : va_D A [(h0, .inr (0, [.ref a0, .int (0 : Int32), .int f2])), (a0, .inl (cA, 8, .inr (.inl g)))] := hD
  exact W.vret hx hb hr (fun t ht hW => ⟨⟨((0 : Int32), f2, g), rfl, by rw [bf_clear], by rw [ht]; exact hP, va_K.moved hW.alike hK, hD⟩, hS.F ht⟩) hS.2.2 dX0_clear_5
