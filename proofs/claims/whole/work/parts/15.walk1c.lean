/-! walks: the reference, public methods -/
set_option maxHeartbeats 4000000 in
set_option maxRecDepth 100000 in
theorem bd_load (l : Launch) (dC : Nat → ClassId) (dI : Nat → Nat → Nat) (h0 a0 : Nat) (cA : ClassId) (sz : Nat) (f1 : Int32) (f2 : Int32) (f3 : Int64) (f4 : Int64) (g : Nat → Int64) (x1 : Int32) (x2 : Int64) : Met l yX1_load wsX1_load ({ frames := 1, cells := 0, slots := 0, locals := 20 }) (va_Pc [.ref h0, .int x1, .long x2] (bw_I2 (dC, dI) vwCl sz h0 a0 cA (.inr (1, [.ref a0, .int f1, .int f2, .long f3, .long f4])) (.inl (cA, 8, .inr (.inl g))))) (va_Qi (fun (r : Int32) (u : Int32 × Int32 × Int64 × Int64 × (Nat → Int64)) => (r, u) = bg_load f1 f2 f3 f4 g x1 x2) (fun u t => bw_O2 (dC, dI) vwCl (va_A [(h0, .inr (1, [.ref a0, .int f1, .int f2, .long f3, .long f4])), (a0, .inl (cA, 8, .inr (.inl g)))] sz) h0 a0 cA (.inr (1, [.ref a0, .int u.1, .int u.2.1, .long u.2.2.1, .long u.2.2.2.1])) (.inl (cA, 8, .inr (.inl u.2.2.2.2))) t) (va_A [(h0, .inr (1, [.ref a0, .int f1, .int f2, .long f3, .long f4])), (a0, .inl (cA, 8, .inr (.inl g)))] sz)) 0 0 (va_A [(h0, .inr (1, [.ref a0, .int f1, .int f2, .long f3, .long f4])), (a0, .inl (cA, 8, .inr (.inl g)))] sz) := by
  refine Met.ofW (cc := cX1_load) (maxL := 4) (ret := (some .boolean)) (by decide) rfl ?_
  intro p e s m args below meth c s₁ B hml hv
  obtain ⟨rfl, hsz, hP, hK, hD0⟩ := hv
  have hx := B.exec
  have hb := B.bytes
  have hr := B.returns
  have hts := atoms_spec (ws := wsX1_load) B.pre
  have hown : s.vm.findClass RX1 = some m.cls := findClass_of_methodNamed B.named
  have hlocks := B.notSynchronized
  subst hsz
  have hD := hD0.self (sz := s.heap.size)
  generalize hAe : va_A [(h0, .inr (1, [.ref a0, .int f1, .int f2, .long f3, .long f4])), (a0, .inl (cA, 8, .inr (.inl g)))] s.heap.size = A at hD ⊢
  have hA : ∀ q : Nat, s.heap.size ≤ q → A q := fun q h => by rw [← hAe]; exact Or.inr h
  have hS : va_S A s.heap s.heap [] := va_S.rf
  have hP : va_P (dC, dI) vwCl [(h0, .inr (1, [.ref a0, .int f1, .int f2, .long f3, .long f4])), (a0, .inl (cA, 8, .inr (.inl g)))] s.heap := hP
  have hin0 : ∀ w ∈ u_ws RX1 TX1 5, w ∈ wsX1_load := by decide +kernel
  have hl := lv_entry ([.ref h0, .int x1, .long x2]) (n := 4) (Nat.le_of_ble_eq_true rfl)
  rw [lg_entry_eq]
  generalize (lg_sl ([.ref h0, .int x1, .long x2]) ++ List.replicate (4 - (lg_sl ([.ref h0, .int x1, .long x2])).length) Slot.unset).toArray = ls at hl ⊢
  have hl : lv_has ls 4 [(0, .ref h0), (1, .int x1), (2, .long x2)] := hl
  refine lv_iload_n hx hb dX1_load_0 rfl (lv_at hl 1 rfl) ?_
  refine bw_csi (rest := []) ⟨hx, hb, hml, hown, hts⟩ (bd_isRegister l x1) (va_cwS 1 hts gX1_load_X1_isRegister rfl rfl rfl (by decide +kernel) ⟨Nat.le_of_ble_eq_true rfl, Nat.le_of_ble_eq_true rfl⟩) rfl hl.1 rfl (Nat.le_of_ble_eq_true rfl) dX1_load_1 (Nat.zero_le _) (Nat.zero_le _) ?_
  refine lv_if_ne (tgt := 9) hx hb dX1_load_4 (by decide) (fun h1 => ?_) (fun h1 => ?_)
  · refine lv_aload_n hx hb dX1_load_9 rfl (lv_at hl 0 rfl) ?_
    refine va_get (D := (dC, dI)) (ci := 1) (v := .ref a0) (C := RX1) (T := TX1) (N := 5) hx hb hts hin0 hown hK hP 0 rfl rfl 0 (by decide) (hts (.fieldLink RX1 7 "BinaryFunctionsModel" "register" "[J") (by decide +kernel)) (fun _ h9 => h9) rfl dX1_load_10 ?_
    refine lv_iload_n hx hb dX1_load_13 rfl (lv_at hl 1 rfl) ?_
    refine lv_lload_n hx hb dX1_load_14 rfl (lv_at hl 2 rfl) ?_
    refine va_last hx hb hK hP hD hS 1 0 rfl rfl (bm_reg1 h1) dX1_load_15 (fun H locs hP hD hS => ?_)
    have hP : va_P (dC, dI) vwCl [(h0, .inr (1, [.ref a0, .int f1, .int f2, .long f3, .long f4])), (a0, .inl (cA, 8, .inr (.inl (vp_updL g x1.toNatClampNeg x2))))] H := hP
    have hD : va_D A [(h0, .inr (1, [.ref a0, .int f1, .int f2, .long f3, .long f4])), (a0, .inl (cA, 8, .inr (.inl (vp_updL g x1.toNatClampNeg x2))))] := hD
    refine lv_iconst (v := 1) hx hb dX1_load_16 (by decide) ?_
    exact W.zret (v := (1 : Int32)) hx hb hr rfl (fun t ht hW => ⟨⟨(1 : Int32), (f1, f2, f3, f4, vp_updL g x1.toNatClampNeg x2), rfl, by rw [bg_load, if_neg h1], by rw [ht]; exact hP, va_K.moved hW.alike hK, hD⟩, hS.F ht⟩) hS.2.2 dX1_load_17
  · refine lv_iconst (v := 0) hx hb dX1_load_7 (by decide) ?_
    exact W.zret (v := (0 : Int32)) hx hb hr rfl (fun t ht hW => ⟨⟨(0 : Int32), (f1, f2, f3, f4, g), rfl, by rw [bg_load, if_pos h1], by rw [ht]; exact hP, va_K.moved hW.alike hK, hD⟩, hS.F ht⟩) hS.2.2 dX1_load_8
set_option maxHeartbeats 4000000 in
set_option maxRecDepth 100000 in
theorem bd_bits (l : Launch) (dC : Nat → ClassId) (dI : Nat → Nat → Nat) (h0 a0 : Nat) (cA : ClassId) (sz : Nat) (f1 : Int32) (f2 : Int32) (f3 : Int64) (f4 : Int64) (g : Nat → Int64) (x1 : Int32) : Met l yX1_bits wsX1_bits ({ frames := 1, cells := 0, slots := 0, locals := 20 }) (va_Pc [.ref h0, .int x1] (bw_I2 (dC, dI) vwCl sz h0 a0 cA (.inr (1, [.ref a0, .int f1, .int f2, .long f3, .long f4])) (.inl (cA, 8, .inr (.inl g))))) (va_Ql (fun (r : Int64) (u : Int32 × Int32 × Int64 × Int64 × (Nat → Int64)) => (r, u) = bg_bits f1 f2 f3 f4 g x1) (fun u t => bw_O2 (dC, dI) vwCl (va_A [(h0, .inr (1, [.ref a0, .int f1, .int f2, .long f3, .long f4])), (a0, .inl (cA, 8, .inr (.inl g)))] sz) h0 a0 cA (.inr (1, [.ref a0, .int u.1, .int u.2.1, .long u.2.2.1, .long u.2.2.2.1])) (.inl (cA, 8, .inr (.inl u.2.2.2.2))) t) (va_A [(h0, .inr (1, [.ref a0, .int f1, .int f2, .long f3, .long f4])), (a0, .inl (cA, 8, .inr (.inl g)))] sz)) 0 0 (va_A [(h0, .inr (1, [.ref a0, .int f1, .int f2, .long f3, .long f4])), (a0, .inl (cA, 8, .inr (.inl g)))] sz) := by
  refine Met.ofW (cc := cX1_bits) (maxL := 2) (ret := (some .long)) (by decide) rfl ?_
  intro p e s m args below meth c s₁ B hml hv
  obtain ⟨rfl, hsz, hP, hK, hD0⟩ := hv
  have hx := B.exec
  have hb := B.bytes
  have hr := B.returns
  have hts := atoms_spec (ws := wsX1_bits) B.pre
  have hown : s.vm.findClass RX1 = some m.cls := findClass_of_methodNamed B.named
  have hlocks := B.notSynchronized
  subst hsz
  have hD := hD0.self (sz := s.heap.size)
  generalize hAe : va_A [(h0, .inr (1, [.ref a0, .int f1, .int f2, .long f3, .long f4])), (a0, .inl (cA, 8, .inr (.inl g)))] s.heap.size = A at hD ⊢
  have hA : ∀ q : Nat, s.heap.size ≤ q → A q := fun q h => by rw [← hAe]; exact Or.inr h
  have hS : va_S A s.heap s.heap [] := va_S.rf
  have hP : va_P (dC, dI) vwCl [(h0, .inr (1, [.ref a0, .int f1, .int f2, .long f3, .long f4])), (a0, .inl (cA, 8, .inr (.inl g)))] s.heap := hP
  have hin0 : ∀ w ∈ u_ws RX1 TX1 5, w ∈ wsX1_bits := by decide +kernel
  have hl := lv_entry ([.ref h0, .int x1]) (n := 2) (Nat.le_of_ble_eq_true rfl)
  rw [lg_entry_eq]
  generalize (lg_sl ([.ref h0, .int x1]) ++ List.replicate (2 - (lg_sl ([.ref h0, .int x1])).length) Slot.unset).toArray = ls at hl ⊢
  have hl : lv_has ls 2 [(0, .ref h0), (1, .int x1)] := hl
  refine lv_iload_n hx hb dX1_bits_0 rfl (lv_at hl 1 rfl) ?_
  refine bw_csi (rest := []) ⟨hx, hb, hml, hown, hts⟩ (bd_isRegister l x1) (va_cwS 1 hts gX1_bits_X1_isRegister rfl rfl rfl (by decide +kernel) ⟨Nat.le_of_ble_eq_true rfl, Nat.le_of_ble_eq_true rfl⟩) rfl hl.1 rfl (Nat.le_of_ble_eq_true rfl) dX1_bits_1 (Nat.zero_le _) (Nat.zero_le _) ?_
  refine lv_if_eq (tgt := 16) hx hb dX1_bits_4 (by decide) (fun h1 => ?_) (fun h1 => ?_)
  · refine lv_lconst (v := 0) hx hb dX1_bits_16 (by decide) ?_
    exact W.lret (v := (0 : Int64)) hx hb hr (fun t ht hW => ⟨⟨(0 : Int64), (f1, f2, f3, f4, g), rfl, by rw [bg_bits, if_pos h1], by rw [ht]; exact hP, va_K.moved hW.alike hK, hD⟩, hS.F ht⟩) hS.2.2 dX1_bits_17
  · refine lv_aload_n hx hb dX1_bits_7 rfl (lv_at hl 0 rfl) ?_
    refine va_get (D := (dC, dI)) (ci := 1) (v := .ref a0) (C := RX1) (T := TX1) (N := 5) hx hb hts hin0 hown hK hP 0 rfl rfl 0 (by decide) (hts (.fieldLink RX1 7 "BinaryFunctionsModel" "register" "[J") (by decide +kernel)) (fun _ h9 => h9) rfl dX1_bits_8 ?_
    refine lv_iload_n hx hb dX1_bits_11 rfl (lv_at hl 1 rfl) ?_
    refine va_lald hx hb hK hP 1 0 rfl rfl (bm_reg1 h1) dX1_bits_12 ?_
    refine lv_goto (tgt := 17) hx hb dX1_bits_13 (by decide) ?_
    exact W.lret (v := g x1.toNatClampNeg) hx hb hr (fun t ht hW => ⟨⟨g x1.toNatClampNeg, (f1, f2, f3, f4, g), rfl, by rw [bg_bits, if_neg h1], by rw [ht]; exact hP, va_K.moved hW.alike hK, hD⟩, hS.F ht⟩) hS.2.2 dX1_bits_17
set_option maxHeartbeats 4000000 in
set_option maxRecDepth 100000 in
theorem bd_sqrt (l : Launch) (dC : Nat → ClassId) (dI : Nat → Nat → Nat) (h0 a0 : Nat) (cA : ClassId) (sz : Nat) (f1 : Int32) (f2 : Int32) (f3 : Int64) (f4 : Int64) (g : Nat → Int64) (x1 : Int32) (x2 : Int32) : Met l yX1_sqrt wsX1_sqrt ({ frames := 3, cells := 0, slots := 0, locals := 101 }) (va_Pc [.ref h0, .int x1, .int x2] (bw_I2 (dC, dI) vwCl sz h0 a0 cA (.inr (1, [.ref a0, .int f1, .int f2, .long f3, .long f4])) (.inl (cA, 8, .inr (.inl g))))) (va_Qi (fun (r : Int32) (u : Int32 × Int32 × Int64 × Int64 × (Nat → Int64)) => (r, u) = bg_sqrt f1 f2 f3 f4 g x1 x2) (fun u t => bw_O2 (dC, dI) vwCl (va_A [(h0, .inr (1, [.ref a0, .int f1, .int f2, .long f3, .long f4])), (a0, .inl (cA, 8, .inr (.inl g)))] sz) h0 a0 cA (.inr (1, [.ref a0, .int u.1, .int u.2.1, .long u.2.2.1, .long u.2.2.2.1])) (.inl (cA, 8, .inr (.inl u.2.2.2.2))) t) (va_A [(h0, .inr (1, [.ref a0, .int f1, .int f2, .long f3, .long f4])), (a0, .inl (cA, 8, .inr (.inl g)))] sz)) 0 0 (va_A [(h0, .inr (1, [.ref a0, .int f1, .int f2, .long f3, .long f4])), (a0, .inl (cA, 8, .inr (.inl g)))] sz) := by
  refine Met.ofW (cc := cX1_sqrt) (maxL := 5) (ret := (some .boolean)) (by decide) rfl ?_
  intro p e s m args below meth c s₁ B hml hv
  obtain ⟨rfl, hsz, hP, hK, hD0⟩ := hv
  have hx := B.exec
  have hb := B.bytes
  have hr := B.returns
  have hts := atoms_spec (ws := wsX1_sqrt) B.pre
  have hown : s.vm.findClass RX1 = some m.cls := findClass_of_methodNamed B.named
  have hlocks := B.notSynchronized
  subst hsz
  have hD := hD0.self (sz := s.heap.size)
  generalize hAe : va_A [(h0, .inr (1, [.ref a0, .int f1, .int f2, .long f3, .long f4])), (a0, .inl (cA, 8, .inr (.inl g)))] s.heap.size = A at hD ⊢
  have hA : ∀ q : Nat, s.heap.size ≤ q → A q := fun q h => by rw [← hAe]; exact Or.inr h
  have hS : va_S A s.heap s.heap [] := va_S.rf
  have hP : va_P (dC, dI) vwCl [(h0, .inr (1, [.ref a0, .int f1, .int f2, .long f3, .long f4])), (a0, .inl (cA, 8, .inr (.inl g)))] s.heap := hP
  have hin0 : ∀ w ∈ u_ws RX1 TX1 5, w ∈ wsX1_sqrt := by decide +kernel
  have hl := lv_entry ([.ref h0, .int x1, .int x2]) (n := 5) (Nat.le_of_ble_eq_true rfl)
  rw [lg_entry_eq]
  generalize (lg_sl ([.ref h0, .int x1, .int x2]) ++ List.replicate (5 - (lg_sl ([.ref h0, .int x1, .int x2])).length) Slot.unset).toArray = ls at hl ⊢
  have hl : lv_has ls 5 [(0, .ref h0), (1, .int x1), (2, .int x2)] := hl
  refine lv_iload_n hx hb dX1_sqrt_0 rfl (lv_at hl 1 rfl) ?_
  refine bw_csi (rest := []) ⟨hx, hb, hml, hown, hts⟩ (bd_isRegister l x1) (va_cwS 1 hts gX1_sqrt_X1_isRegister rfl rfl rfl (by decide +kernel) ⟨Nat.le_of_ble_eq_true rfl, Nat.le_of_ble_eq_true rfl⟩) rfl hl.1 rfl (Nat.le_of_ble_eq_true rfl) dX1_sqrt_1 (Nat.zero_le _) (Nat.zero_le _) ?_
  refine lv_if_eq (tgt := 14) hx hb dX1_sqrt_4 (by decide) (fun h1 => ?_) (fun h1 => ?_)
  · refine lv_iconst (v := 0) hx hb dX1_sqrt_14 (by decide) ?_
    exact W.zret (v := (0 : Int32)) hx hb hr rfl (fun t ht hW => ⟨⟨(0 : Int32), (f1, f2, f3, f4, g), rfl, by rw [bg_sqrt, if_pos h1], by rw [ht]; exact hP, va_K.moved hW.alike hK, hD⟩, hS.F ht⟩) hS.2.2 dX1_sqrt_15
  · refine lv_iload_n hx hb dX1_sqrt_7 rfl (lv_at hl 2 rfl) ?_
    refine bw_csi (rest := []) ⟨hx, hb, hml, hown, hts⟩ (bd_isRegister l x2) (va_cwS 1 hts gX1_sqrt_X1_isRegister rfl rfl rfl (by decide +kernel) ⟨Nat.le_of_ble_eq_true rfl, Nat.le_of_ble_eq_true rfl⟩) rfl hl.1 rfl (Nat.le_of_ble_eq_true rfl) dX1_sqrt_8 (Nat.zero_le _) (Nat.zero_le _) ?_
    refine lv_if_ne (tgt := 16) hx hb dX1_sqrt_11 (by decide) (fun h2 => ?_) (fun h2 => ?_)
    · refine lv_aload_n hx hb dX1_sqrt_16 rfl (lv_at hl 0 rfl) ?_
      refine va_get (D := (dC, dI)) (ci := 1) (v := .ref a0) (C := RX1) (T := TX1) (N := 5) hx hb hts hin0 hown hK hP 0 rfl rfl 0 (by decide) (hts (.fieldLink RX1 7 "BinaryFunctionsModel" "register" "[J") (by decide +kernel)) (fun _ h9 => h9) rfl dX1_sqrt_17 ?_
      refine lv_iload_n hx hb dX1_sqrt_20 rfl (lv_at hl 2 rfl) ?_
      refine va_lald hx hb hK hP 1 0 rfl rfl (bm_reg1 h2) dX1_sqrt_21 ?_
      refine lv_lstore_n (nL := 5) (lv' := [(3, .long (g x2.toNatClampNeg)), (0, .ref h0), (1, .int x1), (2, .int x2)]) hx hb dX1_sqrt_22 rfl hl (by decide) rfl (fun ls hl => ?_)
      refine lv_lload_n hx hb dX1_sqrt_23 rfl (lv_at hl 0 rfl) ?_
      refine bw_csi (rest := []) ⟨hx, hb, hml, hown, hts⟩ (bd_isNan l (g x2.toNatClampNeg)) (va_cwS 1 hts gX1_sqrt_X1_isNan rfl rfl rfl (by decide +kernel) ⟨Nat.le_of_ble_eq_true rfl, Nat.le_of_ble_eq_true rfl⟩) rfl hl.1 rfl (Nat.le_of_ble_eq_true rfl) dX1_sqrt_24 (Nat.zero_le _) (Nat.zero_le _) ?_
      refine lv_if_eq (tgt := 42) hx hb dX1_sqrt_27 (by decide) (fun h3 => ?_) (fun h3 => ?_)
      · refine lv_lload_n hx hb dX1_sqrt_42 rfl (lv_at hl 0 rfl) ?_
        refine bw_csi (rest := []) ⟨hx, hb, hml, hown, hts⟩ (bd_isZero l (g x2.toNatClampNeg)) (va_cwS 1 hts gX1_sqrt_X1_isZero rfl rfl rfl (by decide +kernel) ⟨Nat.le_of_ble_eq_true rfl, Nat.le_of_ble_eq_true rfl⟩) rfl hl.1 rfl (Nat.le_of_ble_eq_true rfl) dX1_sqrt_43 (Nat.zero_le _) (Nat.zero_le _) ?_
        refine lv_if_ne (tgt := 57) hx hb dX1_sqrt_46 (by decide) (fun h4 => ?_) (fun h4 => ?_)
        · refine lv_aload_n hx hb dX1_sqrt_57 rfl (lv_at hl 1 rfl) ?_
          refine va_get (D := (dC, dI)) (ci := 1) (v := .ref a0) (C := RX1) (T := TX1) (N := 5) hx hb hts hin0 hown hK hP 0 rfl rfl 0 (by decide) (hts (.fieldLink RX1 7 "BinaryFunctionsModel" "register" "[J") (by decide +kernel)) (fun _ h9 => h9) rfl dX1_sqrt_58 ?_
          refine lv_iload_n hx hb dX1_sqrt_61 rfl (lv_at hl 2 rfl) ?_
          refine lv_lload_n hx hb dX1_sqrt_62 rfl (lv_at hl 0 rfl) ?_
          refine va_last hx hb hK hP hD hS 1 0 rfl rfl (bm_reg1 h1) dX1_sqrt_63 (fun H locs hP hD hS => ?_)
          have hP : va_P (dC, dI) vwCl [(h0, .inr (1, [.ref a0, .int f1, .int f2, .long f3, .long f4])), (a0, .inl (cA, 8, .inr (.inl (vp_updL g x1.toNatClampNeg (g x2.toNatClampNeg)))))] H := hP
          have hD : va_D A [(h0, .inr (1, [.ref a0, .int f1, .int f2, .long f3, .long f4])), (a0, .inl (cA, 8, .inr (.inl (vp_updL g x1.toNatClampNeg (g x2.toNatClampNeg)))))] := hD
          refine lv_goto (tgt := 107) hx hb dX1_sqrt_64 (by decide) ?_
          refine lv_iconst (v := 1) hx hb dX1_sqrt_107 (by decide) ?_
          exact W.zret (v := (1 : Int32)) hx hb hr rfl (fun t ht hW => ⟨⟨(1 : Int32), (f1, f2, f3, f4, vp_updL g x1.toNatClampNeg (g x2.toNatClampNeg)), rfl, by rw [bg_sqrt, if_neg h1, if_neg h2, if_pos h3, if_neg h4], by rw [ht]; exact hP, va_K.moved hW.alike hK, hD⟩, hS.F ht⟩) hS.2.2 dX1_sqrt_108
        · refine lv_lload_n hx hb dX1_sqrt_49 rfl (lv_at hl 0 rfl) ?_
          refine lv_ldc2 hx hb hown (hts (.constantLong RX1 21 9218868437227405312) (by decide +kernel)) dX1_sqrt_50 ?_
          refine bw_lc_ne (tgt := 67) hx hb dX1_sqrt_53 dX1_sqrt_54 (by decide) (fun h5 => ?_) (fun h5 => ?_)
          · refine lv_lload_n hx hb dX1_sqrt_67 rfl (lv_at hl 0 rfl) ?_
            refine bw_csi (rest := []) ⟨hx, hb, hml, hown, hts⟩ (bd_negative l (g x2.toNatClampNeg)) (va_cwS 1 hts gX1_sqrt_X1_negative rfl rfl rfl (by decide +kernel) ⟨Nat.le_of_ble_eq_true rfl, Nat.le_of_ble_eq_true rfl⟩) rfl hl.1 rfl (Nat.le_of_ble_eq_true rfl) dX1_sqrt_68 (Nat.zero_le _) (Nat.zero_le _) ?_
            refine lv_if_eq (tgt := 96) hx hb dX1_sqrt_71 (by decide) (fun h6 => ?_) (fun h6 => ?_)
            · refine lv_aload_n hx hb dX1_sqrt_96 rfl (lv_at hl 1 rfl) ?_
              refine va_get (D := (dC, dI)) (ci := 1) (v := .ref a0) (C := RX1) (T := TX1) (N := 5) hx hb hts hin0 hown hK hP 0 rfl rfl 0 (by decide) (hts (.fieldLink RX1 7 "BinaryFunctionsModel" "register" "[J") (by decide +kernel)) (fun _ h9 => h9) rfl dX1_sqrt_97 ?_
              refine lv_iload_n hx hb dX1_sqrt_100 rfl (lv_at hl 2 rfl) ?_
              refine lv_aload_n hx hb dX1_sqrt_101 rfl (lv_at hl 1 rfl) ?_
              refine lv_lload_n hx hb dX1_sqrt_102 rfl (lv_at hl 0 rfl) ?_
              refine bw_vl1 (rest := [.int x1, .ref a0]) 0 ⟨hx, hb, hml, hown, hts⟩ (bd_root l dC dI h0 a0 s.heap.size f1 f2 f3 f4 (g x2.toNatClampNeg)) (cwV 1 hts gX1_sqrt_X1_root rfl rfl rfl (by decide +kernel) ⟨Nat.le_of_ble_eq_true rfl, Nat.le_of_ble_eq_true rfl⟩) hK hP hD hS hA rfl rfl rfl hl.1 rfl (Nat.le_of_ble_eq_true rfl) dX1_sqrt_103 (Nat.zero_le _) (Nat.zero_le _) (fun H locs hP hD hS => ?_)
              have hP : va_P (dC, dI) vwCl [(h0, .inr (1, [.ref a0, .int ((bg_root f1 f2 f3 f4 (g x2.toNatClampNeg)).2.1), .int ((bg_root f1 f2 f3 f4 (g x2.toNatClampNeg)).2.2.1), .long ((bg_root f1 f2 f3 f4 (g x2.toNatClampNeg)).2.2.2.1), .long ((bg_root f1 f2 f3 f4 (g x2.toNatClampNeg)).2.2.2.2)])), (a0, .inl (cA, 8, .inr (.inl g)))] H := hP
              have hD : va_D A [(h0, .inr (1, [.ref a0, .int ((bg_root f1 f2 f3 f4 (g x2.toNatClampNeg)).2.1), .int ((bg_root f1 f2 f3 f4 (g x2.toNatClampNeg)).2.2.1), .long ((bg_root f1 f2 f3 f4 (g x2.toNatClampNeg)).2.2.2.1), .long ((bg_root f1 f2 f3 f4 (g x2.toNatClampNeg)).2.2.2.2)])), (a0, .inl (cA, 8, .inr (.inl g)))] := hD
              obtain ⟨r7, e7⟩ : ∃ r, (bg_root f1 f2 f3 f4 (g x2.toNatClampNeg)) = r := ⟨_, rfl⟩
              rw [e7] at hP hD ⊢
              refine va_last hx hb hK hP hD hS 1 0 rfl rfl (bm_reg1 h1) dX1_sqrt_106 (fun H locs hP hD hS => ?_)
              have hP : va_P (dC, dI) vwCl [(h0, .inr (1, [.ref a0, .int r7.2.1, .int r7.2.2.1, .long r7.2.2.2.1, .long r7.2.2.2.2])), (a0, .inl (cA, 8, .inr (.inl (vp_updL g x1.toNatClampNeg r7.1))))] H := hP
              have hD : va_D A [(h0, .inr (1, [.ref a0, .int r7.2.1, .int r7.2.2.1, .long r7.2.2.2.1, .long r7.2.2.2.2])), (a0, .inl (cA, 8, .inr (.inl (vp_updL g x1.toNatClampNeg r7.1))))] := hD
              refine lv_iconst (v := 1) hx hb dX1_sqrt_107 (by decide) ?_
              exact W.zret (v := (1 : Int32)) hx hb hr rfl (fun t ht hW => ⟨⟨(1 : Int32), (r7.2.1, r7.2.2.1, r7.2.2.2.1, r7.2.2.2.2, vp_updL g x1.toNatClampNeg r7.1), rfl, by rw [bg_sqrt, if_neg h1, if_neg h2, if_pos h3, if_pos h4, if_neg h5, if_pos h6, e7, bg_sqrt_k1], by rw [ht]; exact hP, va_K.moved hW.alike hK, hD⟩, hS.F ht⟩) hS.2.2 dX1_sqrt_108
            · refine lv_aload_n hx hb dX1_sqrt_74 rfl (lv_at hl 1 rfl) ?_
              refine va_get (D := (dC, dI)) (ci := 1) (v := .ref a0) (C := RX1) (T := TX1) (N := 5) hx hb hts hin0 hown hK hP 0 rfl rfl 0 (by decide) (hts (.fieldLink RX1 7 "BinaryFunctionsModel" "register" "[J") (by decide +kernel)) (fun _ h9 => h9) rfl dX1_sqrt_75 ?_
              refine lv_iload_n hx hb dX1_sqrt_78 rfl (lv_at hl 2 rfl) ?_
              refine lv_ldc2 hx hb hown (hts (.constantLong RX1 75 9221120237041090560) (by decide +kernel)) dX1_sqrt_79 ?_
              refine va_last hx hb hK hP hD hS 1 0 rfl rfl (bm_reg1 h1) dX1_sqrt_82 (fun H locs hP hD hS => ?_)
              have hP : va_P (dC, dI) vwCl [(h0, .inr (1, [.ref a0, .int f1, .int f2, .long f3, .long f4])), (a0, .inl (cA, 8, .inr (.inl (vp_updL g x1.toNatClampNeg (9221120237041090560 : Int64)))))] H := hP
              have hD : va_D A [(h0, .inr (1, [.ref a0, .int f1, .int f2, .long f3, .long f4])), (a0, .inl (cA, 8, .inr (.inl (vp_updL g x1.toNatClampNeg (9221120237041090560 : Int64)))))] := hD
              refine lv_aload_n hx hb dX1_sqrt_83 rfl (lv_at hl 1 rfl) ?_
              refine lv_aload_n hx hb dX1_sqrt_84 rfl (lv_at hl 1 rfl) ?_
              refine va_get (D := (dC, dI)) (ci := 1) (v := .int f1) (C := RX1) (T := TX1) (N := 5) hx hb hts hin0 hown hK hP 0 rfl rfl 1 (by decide) (hts (.fieldLink RX1 61 "BinaryFunctionsModel" "flag" "I") (by decide +kernel)) (fun _ h9 => h9) rfl dX1_sqrt_85 ?_
              refine lv_iconst (v := 1) hx hb dX1_sqrt_88 (by decide) ?_
              refine lv_ior hx hb dX1_sqrt_89 ?_
              refine va_put (D := (dC, dI)) (ci := 1) (v := .int (f1 ||| (1 : Int32))) (ty := .int) (C := RX1) (T := TX1) (N := 5) hx hb hts hin0 tyX1 tyX1_ok nmX1 hown hK hP hD hS 0 rfl rfl 1 (by decide) (hts (.fieldLink RX1 61 "BinaryFunctionsModel" "flag" "I") (by decide +kernel)) (fun _ h9 => h9) rfl (by decide +kernel) rfl rfl (Nat.le_of_ble_eq_true rfl) dX1_sqrt_90 (fun H locs hP hD hS => ?_)
              have hP : va_P (dC, dI) vwCl [(h0, .inr (1, [.ref a0, .int (f1 ||| (1 : Int32)), .int f2, .long f3, .long f4])), (a0, .inl (cA, 8, .inr (.inl (vp_updL g x1.toNatClampNeg (9221120237041090560 : Int64)))))] H := hP
              have hD : va_D A [(h0, .inr (1, [.ref a0, .int (f1 ||| (1 : Int32)), .int f2, .long f3, .long f4])), (a0, .inl (cA, 8, .inr (.inl (vp_updL g x1.toNatClampNeg (9221120237041090560 : Int64)))))] := hD
              refine lv_goto (tgt := 107) hx hb dX1_sqrt_93 (by decide) ?_
              refine lv_iconst (v := 1) hx hb dX1_sqrt_107 (by decide) ?_
              exact W.zret (v := (1 : Int32)) hx hb hr rfl (fun t ht hW => ⟨⟨(1 : Int32), (f1 ||| (1 : Int32), f2, f3, f4, vp_updL g x1.toNatClampNeg (9221120237041090560 : Int64)), rfl, by rw [bg_sqrt, if_neg h1, if_neg h2, if_pos h3, if_pos h4, if_neg h5, if_neg h6], by rw [ht]; exact hP, va_K.moved hW.alike hK, hD⟩, hS.F ht⟩) hS.2.2 dX1_sqrt_108
          · refine lv_aload_n hx hb dX1_sqrt_57 rfl (lv_at hl 1 rfl) ?_
            refine va_get (D := (dC, dI)) (ci := 1) (v := .ref a0) (C := RX1) (T := TX1) (N := 5) hx hb hts hin0 hown hK hP 0 rfl rfl 0 (by decide) (hts (.fieldLink RX1 7 "BinaryFunctionsModel" "register" "[J") (by decide +kernel)) (fun _ h9 => h9) rfl dX1_sqrt_58 ?_
            refine lv_iload_n hx hb dX1_sqrt_61 rfl (lv_at hl 2 rfl) ?_
            refine lv_lload_n hx hb dX1_sqrt_62 rfl (lv_at hl 0 rfl) ?_
            refine va_last hx hb hK hP hD hS 1 0 rfl rfl (bm_reg1 h1) dX1_sqrt_63 (fun H locs hP hD hS => ?_)
            have hP : va_P (dC, dI) vwCl [(h0, .inr (1, [.ref a0, .int f1, .int f2, .long f3, .long f4])), (a0, .inl (cA, 8, .inr (.inl (vp_updL g x1.toNatClampNeg (g x2.toNatClampNeg)))))] H := hP
            have hD : va_D A [(h0, .inr (1, [.ref a0, .int f1, .int f2, .long f3, .long f4])), (a0, .inl (cA, 8, .inr (.inl (vp_updL g x1.toNatClampNeg (g x2.toNatClampNeg)))))] := hD
            refine lv_goto (tgt := 107) hx hb dX1_sqrt_64 (by decide) ?_
            refine lv_iconst (v := 1) hx hb dX1_sqrt_107 (by decide) ?_
            exact W.zret (v := (1 : Int32)) hx hb hr rfl (fun t ht hW => ⟨⟨(1 : Int32), (f1, f2, f3, f4, vp_updL g x1.toNatClampNeg (g x2.toNatClampNeg)), rfl, by rw [bg_sqrt, if_neg h1, if_neg h2, if_pos h3, if_pos h4, if_pos h5], by rw [ht]; exact hP, va_K.moved hW.alike hK, hD⟩, hS.F ht⟩) hS.2.2 dX1_sqrt_108
      · refine lv_aload_n hx hb dX1_sqrt_30 rfl (lv_at hl 1 rfl) ?_
        refine va_get (D := (dC, dI)) (ci := 1) (v := .ref a0) (C := RX1) (T := TX1) (N := 5) hx hb hts hin0 hown hK hP 0 rfl rfl 0 (by decide) (hts (.fieldLink RX1 7 "BinaryFunctionsModel" "register" "[J") (by decide +kernel)) (fun _ h9 => h9) rfl dX1_sqrt_31 ?_
        refine lv_iload_n hx hb dX1_sqrt_34 rfl (lv_at hl 2 rfl) ?_
        refine lv_ldc2 hx hb hown (hts (.constantLong RX1 75 9221120237041090560) (by decide +kernel)) dX1_sqrt_35 ?_
        refine va_last hx hb hK hP hD hS 1 0 rfl rfl (bm_reg1 h1) dX1_sqrt_38 (fun H locs hP hD hS => ?_)
        have hP : va_P (dC, dI) vwCl [(h0, .inr (1, [.ref a0, .int f1, .int f2, .long f3, .long f4])), (a0, .inl (cA, 8, .inr (.inl (vp_updL g x1.toNatClampNeg (9221120237041090560 : Int64)))))] H := hP
        have hD : va_D A [(h0, .inr (1, [.ref a0, .int f1, .int f2, .long f3, .long f4])), (a0, .inl (cA, 8, .inr (.inl (vp_updL g x1.toNatClampNeg (9221120237041090560 : Int64)))))] := hD
        refine lv_goto (tgt := 107) hx hb dX1_sqrt_39 (by decide) ?_
        refine lv_iconst (v := 1) hx hb dX1_sqrt_107 (by decide) ?_
        exact W.zret (v := (1 : Int32)) hx hb hr rfl (fun t ht hW => ⟨⟨(1 : Int32), (f1, f2, f3, f4, vp_updL g x1.toNatClampNeg (9221120237041090560 : Int64)), rfl, by rw [bg_sqrt, if_neg h1, if_neg h2, if_neg h3], by rw [ht]; exact hP, va_K.moved hW.alike hK, hD⟩, hS.F ht⟩) hS.2.2 dX1_sqrt_108
    · refine lv_iconst (v := 0) hx hb dX1_sqrt_14 (by decide) ?_
      exact W.zret (v := (0 : Int32)) hx hb hr rfl (fun t ht hW => ⟨⟨(0 : Int32), (f1, f2, f3, f4, g), rfl, by rw [bg_sqrt, if_neg h1, if_pos h2], by rw [ht]; exact hP, va_K.moved hW.alike hK, hD⟩, hS.F ht⟩) hS.2.2 dX1_sqrt_15
set_option maxHeartbeats 4000000 in
set_option maxRecDepth 100000 in
theorem bd_whole (l : Launch) (dC : Nat → ClassId) (dI : Nat → Nat → Nat) (h0 a0 : Nat) (cA : ClassId) (sz : Nat) (f1 : Int32) (f2 : Int32) (f3 : Int64) (f4 : Int64) (g : Nat → Int64) (x1 : Int32) (x2 : Int32) (x3 : Int32) : Met l yX1_whole wsX1_whole ({ frames := 2, cells := 0, slots := 0, locals := 44 }) (va_Pc [.ref h0, .int x1, .int x2, .int x3] (bw_I2 (dC, dI) vwCl sz h0 a0 cA (.inr (1, [.ref a0, .int f1, .int f2, .long f3, .long f4])) (.inl (cA, 8, .inr (.inl g))))) (va_Qi (fun (r : Int32) (u : Int32 × Int32 × Int64 × Int64 × (Nat → Int64)) => (r, u) = bg_whole f1 f2 f3 f4 g x1 x2 x3) (fun u t => bw_O2 (dC, dI) vwCl (va_A [(h0, .inr (1, [.ref a0, .int f1, .int f2, .long f3, .long f4])), (a0, .inl (cA, 8, .inr (.inl g)))] sz) h0 a0 cA (.inr (1, [.ref a0, .int u.1, .int u.2.1, .long u.2.2.1, .long u.2.2.2.1])) (.inl (cA, 8, .inr (.inl u.2.2.2.2))) t) (va_A [(h0, .inr (1, [.ref a0, .int f1, .int f2, .long f3, .long f4])), (a0, .inl (cA, 8, .inr (.inl g)))] sz)) 0 0 (va_A [(h0, .inr (1, [.ref a0, .int f1, .int f2, .long f3, .long f4])), (a0, .inl (cA, 8, .inr (.inl g)))] sz) := by
  refine Met.ofW (cc := cX1_whole) (maxL := 10) (ret := (some .boolean)) (by decide) rfl ?_
  intro p e s m args below meth c s₁ B hml hv
  obtain ⟨rfl, hsz, hP, hK, hD0⟩ := hv
  have hx := B.exec
  have hb := B.bytes
  have hr := B.returns
  have hts := atoms_spec (ws := wsX1_whole) B.pre
  have hown : s.vm.findClass RX1 = some m.cls := findClass_of_methodNamed B.named
  have hlocks := B.notSynchronized
  subst hsz
  have hD := hD0.self (sz := s.heap.size)
  generalize hAe : va_A [(h0, .inr (1, [.ref a0, .int f1, .int f2, .long f3, .long f4])), (a0, .inl (cA, 8, .inr (.inl g)))] s.heap.size = A at hD ⊢
  have hA : ∀ q : Nat, s.heap.size ≤ q → A q := fun q h => by rw [← hAe]; exact Or.inr h
  have hS : va_S A s.heap s.heap [] := va_S.rf
  have hP : va_P (dC, dI) vwCl [(h0, .inr (1, [.ref a0, .int f1, .int f2, .long f3, .long f4])), (a0, .inl (cA, 8, .inr (.inl g)))] s.heap := hP
  have hin0 : ∀ w ∈ u_ws RX1 TX1 5, w ∈ wsX1_whole := by decide +kernel
  have hl := lv_entry ([.ref h0, .int x1, .int x2, .int x3]) (n := 10) (Nat.le_of_ble_eq_true rfl)
  rw [lg_entry_eq]
  generalize (lg_sl ([.ref h0, .int x1, .int x2, .int x3]) ++ List.replicate (10 - (lg_sl ([.ref h0, .int x1, .int x2, .int x3])).length) Slot.unset).toArray = ls at hl ⊢
  have hl : lv_has ls 10 [(0, .ref h0), (1, .int x1), (2, .int x2), (3, .int x3)] := hl
  refine lv_iload_n hx hb dX1_whole_0 rfl (lv_at hl 1 rfl) ?_
  refine bw_csi (rest := []) ⟨hx, hb, hml, hown, hts⟩ (bd_isRegister l x1) (va_cwS 1 hts gX1_whole_X1_isRegister rfl rfl rfl (by decide +kernel) ⟨Nat.le_of_ble_eq_true rfl, Nat.le_of_ble_eq_true rfl⟩) rfl hl.1 rfl (Nat.le_of_ble_eq_true rfl) dX1_whole_1 (Nat.zero_le _) (Nat.zero_le _) ?_
  refine lv_if_eq (tgt := 23) hx hb dX1_whole_4 (by decide) (fun h1 => ?_) (fun h1 => ?_)
  · refine lv_iconst (v := 0) hx hb dX1_whole_23 (by decide) ?_
    exact W.zret (v := (0 : Int32)) hx hb hr rfl (fun t ht hW => ⟨⟨(0 : Int32), (f1, f2, f3, f4, g), rfl, by rw [bg_whole, if_pos h1], by rw [ht]; exact hP, va_K.moved hW.alike hK, hD⟩, hS.F ht⟩) hS.2.2 dX1_whole_24
  · refine lv_iload_n hx hb dX1_whole_7 rfl (lv_at hl 2 rfl) ?_
    refine bw_csi (rest := []) ⟨hx, hb, hml, hown, hts⟩ (bd_isRegister l x2) (va_cwS 1 hts gX1_whole_X1_isRegister rfl rfl rfl (by decide +kernel) ⟨Nat.le_of_ble_eq_true rfl, Nat.le_of_ble_eq_true rfl⟩) rfl hl.1 rfl (Nat.le_of_ble_eq_true rfl) dX1_whole_8 (Nat.zero_le _) (Nat.zero_le _) ?_
    refine lv_if_eq (tgt := 23) hx hb dX1_whole_11 (by decide) (fun h2 => ?_) (fun h2 => ?_)
    · refine lv_iconst (v := 0) hx hb dX1_whole_23 (by decide) ?_
      exact W.zret (v := (0 : Int32)) hx hb hr rfl (fun t ht hW => ⟨⟨(0 : Int32), (f1, f2, f3, f4, g), rfl, by rw [bg_whole, if_neg h1, if_pos h2], by rw [ht]; exact hP, va_K.moved hW.alike hK, hD⟩, hS.F ht⟩) hS.2.2 dX1_whole_24
    · refine lv_iload_n hx hb dX1_whole_14 rfl (lv_at hl 3 rfl) ?_
      refine lv_if_lt (tgt := 23) hx hb dX1_whole_15 (by decide) (fun h3 => ?_) (fun h3 => ?_)
      · refine lv_iconst (v := 0) hx hb dX1_whole_23 (by decide) ?_
        exact W.zret (v := (0 : Int32)) hx hb hr rfl (fun t ht hW => ⟨⟨(0 : Int32), (f1, f2, f3, f4, g), rfl, by rw [bg_whole, if_neg h1, if_neg h2, if_pos h3], by rw [ht]; exact hP, va_K.moved hW.alike hK, hD⟩, hS.F ht⟩) hS.2.2 dX1_whole_24
      · refine lv_iload_n hx hb dX1_whole_18 rfl (lv_at hl 3 rfl) ?_
        refine lv_iconst (v := 3) hx hb dX1_whole_19 (by decide) ?_
        refine lv_icmp_le (tgt := 25) hx hb dX1_whole_20 (by decide) (fun h4 => ?_) (fun h4 => ?_)
        · refine lv_aload_n hx hb dX1_whole_25 rfl (lv_at hl 0 rfl) ?_
          refine va_get (D := (dC, dI)) (ci := 1) (v := .ref a0) (C := RX1) (T := TX1) (N := 5) hx hb hts hin0 hown hK hP 0 rfl rfl 0 (by decide) (hts (.fieldLink RX1 7 "BinaryFunctionsModel" "register" "[J") (by decide +kernel)) (fun _ h9 => h9) rfl dX1_whole_26 ?_
          refine lv_iload_n hx hb dX1_whole_29 rfl (lv_at hl 2 rfl) ?_
          refine va_lald hx hb hK hP 1 0 rfl rfl (bm_reg1 h2) dX1_whole_30 ?_
          refine lv_lstore (nL := 10) (lv' := [(4, .long (g x2.toNatClampNeg)), (0, .ref h0), (1, .int x1), (2, .int x2), (3, .int x3)]) hx hb dX1_whole_31 hl (by decide) rfl (fun ls hl => ?_)
          refine lv_lload hx hb dX1_whole_33 (lv_at hl 0 rfl) ?_
          refine bw_csi (rest := []) ⟨hx, hb, hml, hown, hts⟩ (bd_isNan l (g x2.toNatClampNeg)) (va_cwS 1 hts gX1_whole_X1_isNan rfl rfl rfl (by decide +kernel) ⟨Nat.le_of_ble_eq_true rfl, Nat.le_of_ble_eq_true rfl⟩) rfl hl.1 rfl (Nat.le_of_ble_eq_true rfl) dX1_whole_35 (Nat.zero_le _) (Nat.zero_le _) ?_
          refine lv_if_eq (tgt := 52) hx hb dX1_whole_38 (by decide) (fun h5 => ?_) (fun h5 => ?_)
          · refine lv_lload hx hb dX1_whole_52 (lv_at hl 0 rfl) ?_
            refine bw_csi (rest := []) ⟨hx, hb, hml, hown, hts⟩ (bd_isInfinite l (g x2.toNatClampNeg)) (va_cwS 1 hts gX1_whole_X1_isInfinite rfl rfl rfl (by decide +kernel) ⟨Nat.le_of_ble_eq_true rfl, Nat.le_of_ble_eq_true rfl⟩) rfl hl.1 rfl (Nat.le_of_ble_eq_true rfl) dX1_whole_54 (Nat.zero_le _) (Nat.zero_le _) ?_
            refine lv_if_ne (tgt := 68) hx hb dX1_whole_57 (by decide) (fun h6 => ?_) (fun h6 => ?_)
            · refine lv_aload_n hx hb dX1_whole_68 rfl (lv_at hl 1 rfl) ?_
              refine va_get (D := (dC, dI)) (ci := 1) (v := .ref a0) (C := RX1) (T := TX1) (N := 5) hx hb hts hin0 hown hK hP 0 rfl rfl 0 (by decide) (hts (.fieldLink RX1 7 "BinaryFunctionsModel" "register" "[J") (by decide +kernel)) (fun _ h9 => h9) rfl dX1_whole_69 ?_
              refine lv_iload_n hx hb dX1_whole_72 rfl (lv_at hl 2 rfl) ?_
              refine lv_lload hx hb dX1_whole_73 (lv_at hl 0 rfl) ?_
              refine va_last hx hb hK hP hD hS 1 0 rfl rfl (bm_reg1 h1) dX1_whole_75 (fun H locs hP hD hS => ?_)
              have hP : va_P (dC, dI) vwCl [(h0, .inr (1, [.ref a0, .int f1, .int f2, .long f3, .long f4])), (a0, .inl (cA, 8, .inr (.inl (vp_updL g x1.toNatClampNeg (g x2.toNatClampNeg)))))] H := hP
              have hD : va_D A [(h0, .inr (1, [.ref a0, .int f1, .int f2, .long f3, .long f4])), (a0, .inl (cA, 8, .inr (.inl (vp_updL g x1.toNatClampNeg (g x2.toNatClampNeg)))))] := hD
              refine lv_iconst (v := 1) hx hb dX1_whole_76 (by decide) ?_
              exact W.zret (v := (1 : Int32)) hx hb hr rfl (fun t ht hW => ⟨⟨(1 : Int32), (f1, f2, f3, f4, vp_updL g x1.toNatClampNeg (g x2.toNatClampNeg)), rfl, by rw [bg_whole, if_neg h1, if_neg h2, if_neg h3, if_pos h4, if_pos h5, if_neg h6], by rw [ht]; exact hP, va_K.moved hW.alike hK, hD⟩, hS.F ht⟩) hS.2.2 dX1_whole_77
            · refine lv_lload hx hb dX1_whole_60 (lv_at hl 0 rfl) ?_
              refine bw_csi (rest := []) ⟨hx, hb, hml, hown, hts⟩ (bd_power l (g x2.toNatClampNeg)) (va_cwS 1 hts gX1_whole_X1_power rfl rfl rfl (by decide +kernel) ⟨Nat.le_of_ble_eq_true rfl, Nat.le_of_ble_eq_true rfl⟩) rfl hl.1 rfl (Nat.le_of_ble_eq_true rfl) dX1_whole_62 (Nat.zero_le _) (Nat.zero_le _) ?_
              refine lv_if_lt (tgt := 78) hx hb dX1_whole_65 (by decide) (fun h7 => ?_) (fun h7 => ?_)
              · refine lv_lload hx hb dX1_whole_78 (lv_at hl 0 rfl) ?_
                refine bw_csl (rest := []) ⟨hx, hb, hml, hown, hts⟩ (bd_number l (g x2.toNatClampNeg)) (va_cwS 1 hts gX1_whole_X1_number rfl rfl rfl (by decide +kernel) ⟨Nat.le_of_ble_eq_true rfl, Nat.le_of_ble_eq_true rfl⟩) rfl hl.1 rfl (Nat.le_of_ble_eq_true rfl) dX1_whole_80 (Nat.zero_le _) (Nat.zero_le _) ?_
                refine lv_lload hx hb dX1_whole_83 (lv_at hl 0 rfl) ?_
                refine bw_csi (rest := [.long (bg_number (g x2.toNatClampNeg))]) ⟨hx, hb, hml, hown, hts⟩ (bd_power l (g x2.toNatClampNeg)) (va_cwS 1 hts gX1_whole_X1_power rfl rfl rfl (by decide +kernel) ⟨Nat.le_of_ble_eq_true rfl, Nat.le_of_ble_eq_true rfl⟩) rfl hl.1 rfl (Nat.le_of_ble_eq_true rfl) dX1_whole_85 (Nat.zero_le _) (Nat.zero_le _) ?_
                refine lv_ineg hx hb dX1_whole_88 ?_
                refine lv_iload_n hx hb dX1_whole_89 rfl (lv_at hl 4 rfl) ?_
                refine lv_if_ne (tgt := 97) hx hb dX1_whole_90 (by decide) (fun h8 => ?_) (fun h8 => ?_)
                · refine lv_iconst (v := 0) hx hb dX1_whole_97 (by decide) ?_
                  refine lv_iload_n hx hb dX1_whole_98 rfl (lv_at hl 4 rfl) ?_
                  refine lv_iconst (v := 1) hx hb dX1_whole_99 (by decide) ?_
                  refine lv_icmp_ne (tgt := 111) hx hb dX1_whole_100 (by decide) (fun h9 => ?_) (fun h9 => ?_)
                  · refine lv_iload_n hx hb dX1_whole_111 rfl (lv_at hl 4 rfl) ?_
                    refine lv_iconst (v := 2) hx hb dX1_whole_112 (by decide) ?_
                    refine lv_icmp_ne (tgt := 128) hx hb dX1_whole_113 (by decide) (fun h10 => ?_) (fun h10 => ?_)
                    · refine lv_iconst (v := 0) hx hb dX1_whole_128 (by decide) ?_
                      refine bw_csl (rest := []) ⟨hx, hb, hml, hown, hts⟩ (bd_cut l (bg_number (g x2.toNatClampNeg)) (-(bg_power (g x2.toNatClampNeg))) (0 : Int32) (0 : Int32)) (va_cwS 4 hts gX1_whole_X1_cut rfl rfl rfl (by decide +kernel) ⟨Nat.le_of_ble_eq_true rfl, Nat.le_of_ble_eq_true rfl⟩) rfl hl.1 rfl (Nat.le_of_ble_eq_true rfl) dX1_whole_129 (Nat.zero_le _) (Nat.zero_le _) ?_
                      refine lv_lstore (nL := 10) (lv' := [(6, .long (bg_cut (bg_number (g x2.toNatClampNeg)) (-(bg_power (g x2.toNatClampNeg))) (0 : Int32) (0 : Int32))), (4, .long (g x2.toNatClampNeg)), (0, .ref h0), (1, .int x1), (2, .int x2), (3, .int x3)]) hx hb dX1_whole_132 hl (by decide) rfl (fun ls hl => ?_)
                      refine lv_lload hx hb dX1_whole_134 (lv_at hl 0 rfl) ?_
                      refine lv_iconst (v := 0) hx hb dX1_whole_136 (by decide) ?_
                      refine bw_csl (rest := []) ⟨hx, hb, hml, hown, hts⟩ (bd_exact l (bg_cut (bg_number (g x2.toNatClampNeg)) (-(bg_power (g x2.toNatClampNeg))) (0 : Int32) (0 : Int32)) (0 : Int32)) (va_cwS 2 hts gX1_whole_X1_exact rfl rfl rfl (by decide +kernel) ⟨Nat.le_of_ble_eq_true rfl, Nat.le_of_ble_eq_true rfl⟩) rfl hl.1 rfl (Nat.le_of_ble_eq_true rfl) dX1_whole_137 (Nat.zero_le _) (Nat.zero_le _) ?_
                      refine lv_lstore (nL := 10) (lv' := [(8, .long (bg_exact (bg_cut (bg_number (g x2.toNatClampNeg)) (-(bg_power (g x2.toNatClampNeg))) (0 : Int32) (0 : Int32)) (0 : Int32))), (6, .long (bg_cut (bg_number (g x2.toNatClampNeg)) (-(bg_power (g x2.toNatClampNeg))) (0 : Int32) (0 : Int32))), (4, .long (g x2.toNatClampNeg)), (0, .ref h0), (1, .int x1), (2, .int x2), (3, .int x3)]) hx hb dX1_whole_140 hl (by decide) rfl (fun ls hl => ?_)
                      refine lv_aload_n hx hb dX1_whole_142 rfl (lv_at hl 3 rfl) ?_
                      refine lv_iload_n hx hb dX1_whole_143 rfl (lv_at hl 6 rfl) ?_
                      refine lv_if_ne (tgt := 167) hx hb dX1_whole_144 (by decide) (fun h11 => ?_) (fun h11 => ?_)
                      rotate_left
                      · exact absurd h11 h8
                      refine lv_aload_n hx hb dX1_whole_167 rfl (lv_at hl 3 rfl) ?_
                      refine va_get (D := (dC, dI)) (ci := 1) (v := .int f1) (C := RX1) (T := TX1) (N := 5) hx hb hts hin0 hown hK hP 0 rfl rfl 1 (by decide) (hts (.fieldLink RX1 61 "BinaryFunctionsModel" "flag" "I") (by decide +kernel)) (fun _ h9 => h9) rfl dX1_whole_168 ?_
                      refine va_put (D := (dC, dI)) (ci := 1) (v := .int f1) (ty := .int) (C := RX1) (T := TX1) (N := 5) hx hb hts hin0 tyX1 tyX1_ok nmX1 hown hK hP hD hS 0 rfl rfl 1 (by decide) (hts (.fieldLink RX1 61 "BinaryFunctionsModel" "flag" "I") (by decide +kernel)) (fun _ h9 => h9) rfl (by decide +kernel) rfl rfl (Nat.le_of_ble_eq_true rfl) dX1_whole_171 (fun H locs hP hD hS => ?_)
                      have hP : va_P (dC, dI) vwCl [(h0, .inr (1, [.ref a0, .int f1, .int f2, .long f3, .long f4])), (a0, .inl (cA, 8, .inr (.inl g)))] H := hP
                      have hD : va_D A [(h0, .inr (1, [.ref a0, .int f1, .int f2, .long f3, .long f4])), (a0, .inl (cA, 8, .inr (.inl g)))] := hD
                      refine lv_aload_n hx hb dX1_whole_174 rfl (lv_at hl 3 rfl) ?_
                      refine va_get (D := (dC, dI)) (ci := 1) (v := .ref a0) (C := RX1) (T := TX1) (N := 5) hx hb hts hin0 hown hK hP 0 rfl rfl 0 (by decide) (hts (.fieldLink RX1 7 "BinaryFunctionsModel" "register" "[J") (by decide +kernel)) (fun _ h9 => h9) rfl dX1_whole_175 ?_
                      refine lv_iload_n hx hb dX1_whole_178 rfl (lv_at hl 4 rfl) ?_
                      refine lv_lload hx hb dX1_whole_179 (lv_at hl 0 rfl) ?_
                      refine lv_lload hx hb dX1_whole_181 (lv_at hl 2 rfl) ?_
                      refine bw_csi (rest := [.long (bg_exact (bg_cut (bg_number (g x2.toNatClampNeg)) (-(bg_power (g x2.toNatClampNeg))) (0 : Int32) (0 : Int32)) (0 : Int32)), .int x1, .ref a0]) ⟨hx, hb, hml, hown, hts⟩ (bd_negative l (g x2.toNatClampNeg)) (va_cwS 1 hts gX1_whole_X1_negative rfl rfl rfl (by decide +kernel) ⟨Nat.le_of_ble_eq_true rfl, Nat.le_of_ble_eq_true rfl⟩) rfl hl.1 rfl (Nat.le_of_ble_eq_true rfl) dX1_whole_183 (Nat.zero_le _) (Nat.zero_le _) ?_
                      refine bw_csl (rest := [.int x1, .ref a0]) ⟨hx, hb, hml, hown, hts⟩ (bd_signed l (bg_exact (bg_cut (bg_number (g x2.toNatClampNeg)) (-(bg_power (g x2.toNatClampNeg))) (0 : Int32) (0 : Int32)) (0 : Int32)) (bg_negative (g x2.toNatClampNeg))) (va_cwS 2 hts gX1_whole_X1_signed rfl rfl rfl (by decide +kernel) ⟨Nat.le_of_ble_eq_true rfl, Nat.le_of_ble_eq_true rfl⟩) rfl hl.1 rfl (Nat.le_of_ble_eq_true rfl) dX1_whole_186 (Nat.zero_le _) (Nat.zero_le _) ?_
                      refine va_last hx hb hK hP hD hS 1 0 rfl rfl (bm_reg1 h1) dX1_whole_189 (fun H locs hP hD hS => ?_)
                      have hP : va_P (dC, dI) vwCl [(h0, .inr (1, [.ref a0, .int f1, .int f2, .long f3, .long f4])), (a0, .inl (cA, 8, .inr (.inl (vp_updL g x1.toNatClampNeg (bg_signed (bg_exact (bg_cut (bg_number (g x2.toNatClampNeg)) (-(bg_power (g x2.toNatClampNeg))) (0 : Int32) (0 : Int32)) (0 : Int32)) (bg_negative (g x2.toNatClampNeg)))))))] H := hP
                      have hD : va_D A [(h0, .inr (1, [.ref a0, .int f1, .int f2, .long f3, .long f4])), (a0, .inl (cA, 8, .inr (.inl (vp_updL g x1.toNatClampNeg (bg_signed (bg_exact (bg_cut (bg_number (g x2.toNatClampNeg)) (-(bg_power (g x2.toNatClampNeg))) (0 : Int32) (0 : Int32)) (0 : Int32)) (bg_negative (g x2.toNatClampNeg)))))))] := hD
                      refine lv_iconst (v := 1) hx hb dX1_whole_190 (by decide) ?_
                      exact W.zret (v := (1 : Int32)) hx hb hr rfl (fun t ht hW => ⟨⟨(1 : Int32), (f1, f2, f3, f4, vp_updL g x1.toNatClampNeg (bg_signed (bg_exact (bg_cut (bg_number (g x2.toNatClampNeg)) (-(bg_power (g x2.toNatClampNeg))) (0 : Int32) (0 : Int32)) (0 : Int32)) (bg_negative (g x2.toNatClampNeg)))), rfl, by rw [bg_whole, if_neg h1, if_neg h2, if_neg h3, if_pos h4, if_pos h5, if_pos h6, if_pos h7, if_neg h8, if_neg h9, if_neg h10], by rw [ht]; exact hP, va_K.moved hW.alike hK, hD⟩, hS.F ht⟩) hS.2.2 dX1_whole_191
                    · refine lv_lload hx hb dX1_whole_116 (lv_at hl 0 rfl) ?_
                      refine bw_csi (rest := [.int (0 : Int32), .int (-(bg_power (g x2.toNatClampNeg))), .long (bg_number (g x2.toNatClampNeg))]) ⟨hx, hb, hml, hown, hts⟩ (bd_negative l (g x2.toNatClampNeg)) (va_cwS 1 hts gX1_whole_X1_negative rfl rfl rfl (by decide +kernel) ⟨Nat.le_of_ble_eq_true rfl, Nat.le_of_ble_eq_true rfl⟩) rfl hl.1 rfl (Nat.le_of_ble_eq_true rfl) dX1_whole_118 (Nat.zero_le _) (Nat.zero_le _) ?_
                      refine lv_if_ne (tgt := 128) hx hb dX1_whole_121 (by decide) (fun h12 => ?_) (fun h12 => ?_)
                      · refine lv_iconst (v := 0) hx hb dX1_whole_128 (by decide) ?_
                        refine bw_csl (rest := []) ⟨hx, hb, hml, hown, hts⟩ (bd_cut l (bg_number (g x2.toNatClampNeg)) (-(bg_power (g x2.toNatClampNeg))) (0 : Int32) (0 : Int32)) (va_cwS 4 hts gX1_whole_X1_cut rfl rfl rfl (by decide +kernel) ⟨Nat.le_of_ble_eq_true rfl, Nat.le_of_ble_eq_true rfl⟩) rfl hl.1 rfl (Nat.le_of_ble_eq_true rfl) dX1_whole_129 (Nat.zero_le _) (Nat.zero_le _) ?_
                        refine lv_lstore (nL := 10) (lv' := [(6, .long (bg_cut (bg_number (g x2.toNatClampNeg)) (-(bg_power (g x2.toNatClampNeg))) (0 : Int32) (0 : Int32))), (4, .long (g x2.toNatClampNeg)), (0, .ref h0), (1, .int x1), (2, .int x2), (3, .int x3)]) hx hb dX1_whole_132 hl (by decide) rfl (fun ls hl => ?_)
                        refine lv_lload hx hb dX1_whole_134 (lv_at hl 0 rfl) ?_
                        refine lv_iconst (v := 0) hx hb dX1_whole_136 (by decide) ?_
                        refine bw_csl (rest := []) ⟨hx, hb, hml, hown, hts⟩ (bd_exact l (bg_cut (bg_number (g x2.toNatClampNeg)) (-(bg_power (g x2.toNatClampNeg))) (0 : Int32) (0 : Int32)) (0 : Int32)) (va_cwS 2 hts gX1_whole_X1_exact rfl rfl rfl (by decide +kernel) ⟨Nat.le_of_ble_eq_true rfl, Nat.le_of_ble_eq_true rfl⟩) rfl hl.1 rfl (Nat.le_of_ble_eq_true rfl) dX1_whole_137 (Nat.zero_le _) (Nat.zero_le _) ?_
                        refine lv_lstore (nL := 10) (lv' := [(8, .long (bg_exact (bg_cut (bg_number (g x2.toNatClampNeg)) (-(bg_power (g x2.toNatClampNeg))) (0 : Int32) (0 : Int32)) (0 : Int32))), (6, .long (bg_cut (bg_number (g x2.toNatClampNeg)) (-(bg_power (g x2.toNatClampNeg))) (0 : Int32) (0 : Int32))), (4, .long (g x2.toNatClampNeg)), (0, .ref h0), (1, .int x1), (2, .int x2), (3, .int x3)]) hx hb dX1_whole_140 hl (by decide) rfl (fun ls hl => ?_)
                        refine lv_aload_n hx hb dX1_whole_142 rfl (lv_at hl 3 rfl) ?_
                        refine lv_iload_n hx hb dX1_whole_143 rfl (lv_at hl 6 rfl) ?_
                        refine lv_if_ne (tgt := 167) hx hb dX1_whole_144 (by decide) (fun h13 => ?_) (fun h13 => ?_)
                        rotate_left
                        · exact absurd h13 h8
                        refine lv_aload_n hx hb dX1_whole_167 rfl (lv_at hl 3 rfl) ?_
                        refine va_get (D := (dC, dI)) (ci := 1) (v := .int f1) (C := RX1) (T := TX1) (N := 5) hx hb hts hin0 hown hK hP 0 rfl rfl 1 (by decide) (hts (.fieldLink RX1 61 "BinaryFunctionsModel" "flag" "I") (by decide +kernel)) (fun _ h9 => h9) rfl dX1_whole_168 ?_
                        refine va_put (D := (dC, dI)) (ci := 1) (v := .int f1) (ty := .int) (C := RX1) (T := TX1) (N := 5) hx hb hts hin0 tyX1 tyX1_ok nmX1 hown hK hP hD hS 0 rfl rfl 1 (by decide) (hts (.fieldLink RX1 61 "BinaryFunctionsModel" "flag" "I") (by decide +kernel)) (fun _ h9 => h9) rfl (by decide +kernel) rfl rfl (Nat.le_of_ble_eq_true rfl) dX1_whole_171 (fun H locs hP hD hS => ?_)
                        have hP : va_P (dC, dI) vwCl [(h0, .inr (1, [.ref a0, .int f1, .int f2, .long f3, .long f4])), (a0, .inl (cA, 8, .inr (.inl g)))] H := hP
                        have hD : va_D A [(h0, .inr (1, [.ref a0, .int f1, .int f2, .long f3, .long f4])), (a0, .inl (cA, 8, .inr (.inl g)))] := hD
                        refine lv_aload_n hx hb dX1_whole_174 rfl (lv_at hl 3 rfl) ?_
                        refine va_get (D := (dC, dI)) (ci := 1) (v := .ref a0) (C := RX1) (T := TX1) (N := 5) hx hb hts hin0 hown hK hP 0 rfl rfl 0 (by decide) (hts (.fieldLink RX1 7 "BinaryFunctionsModel" "register" "[J") (by decide +kernel)) (fun _ h9 => h9) rfl dX1_whole_175 ?_
                        refine lv_iload_n hx hb dX1_whole_178 rfl (lv_at hl 4 rfl) ?_
                        refine lv_lload hx hb dX1_whole_179 (lv_at hl 0 rfl) ?_
                        refine lv_lload hx hb dX1_whole_181 (lv_at hl 2 rfl) ?_
                        refine bw_csi (rest := [.long (bg_exact (bg_cut (bg_number (g x2.toNatClampNeg)) (-(bg_power (g x2.toNatClampNeg))) (0 : Int32) (0 : Int32)) (0 : Int32)), .int x1, .ref a0]) ⟨hx, hb, hml, hown, hts⟩ (bd_negative l (g x2.toNatClampNeg)) (va_cwS 1 hts gX1_whole_X1_negative rfl rfl rfl (by decide +kernel) ⟨Nat.le_of_ble_eq_true rfl, Nat.le_of_ble_eq_true rfl⟩) rfl hl.1 rfl (Nat.le_of_ble_eq_true rfl) dX1_whole_183 (Nat.zero_le _) (Nat.zero_le _) ?_
                        refine bw_csl (rest := [.int x1, .ref a0]) ⟨hx, hb, hml, hown, hts⟩ (bd_signed l (bg_exact (bg_cut (bg_number (g x2.toNatClampNeg)) (-(bg_power (g x2.toNatClampNeg))) (0 : Int32) (0 : Int32)) (0 : Int32)) (bg_negative (g x2.toNatClampNeg))) (va_cwS 2 hts gX1_whole_X1_signed rfl rfl rfl (by decide +kernel) ⟨Nat.le_of_ble_eq_true rfl, Nat.le_of_ble_eq_true rfl⟩) rfl hl.1 rfl (Nat.le_of_ble_eq_true rfl) dX1_whole_186 (Nat.zero_le _) (Nat.zero_le _) ?_
                        refine va_last hx hb hK hP hD hS 1 0 rfl rfl (bm_reg1 h1) dX1_whole_189 (fun H locs hP hD hS => ?_)
                        have hP : va_P (dC, dI) vwCl [(h0, .inr (1, [.ref a0, .int f1, .int f2, .long f3, .long f4])), (a0, .inl (cA, 8, .inr (.inl (vp_updL g x1.toNatClampNeg (bg_signed (bg_exact (bg_cut (bg_number (g x2.toNatClampNeg)) (-(bg_power (g x2.toNatClampNeg))) (0 : Int32) (0 : Int32)) (0 : Int32)) (bg_negative (g x2.toNatClampNeg)))))))] H := hP
                        have hD : va_D A [(h0, .inr (1, [.ref a0, .int f1, .int f2, .long f3, .long f4])), (a0, .inl (cA, 8, .inr (.inl (vp_updL g x1.toNatClampNeg (bg_signed (bg_exact (bg_cut (bg_number (g x2.toNatClampNeg)) (-(bg_power (g x2.toNatClampNeg))) (0 : Int32) (0 : Int32)) (0 : Int32)) (bg_negative (g x2.toNatClampNeg)))))))] := hD
                        refine lv_iconst (v := 1) hx hb dX1_whole_190 (by decide) ?_
                        exact W.zret (v := (1 : Int32)) hx hb hr rfl (fun t ht hW => ⟨⟨(1 : Int32), (f1, f2, f3, f4, vp_updL g x1.toNatClampNeg (bg_signed (bg_exact (bg_cut (bg_number (g x2.toNatClampNeg)) (-(bg_power (g x2.toNatClampNeg))) (0 : Int32) (0 : Int32)) (0 : Int32)) (bg_negative (g x2.toNatClampNeg)))), rfl, by rw [bg_whole, if_neg h1, if_neg h2, if_neg h3, if_pos h4, if_pos h5, if_pos h6, if_pos h7, if_neg h8, if_neg h9, if_pos h10, if_neg h12], by rw [ht]; exact hP, va_K.moved hW.alike hK, hD⟩, hS.F ht⟩) hS.2.2 dX1_whole_191
                      · refine lv_iconst (v := 1) hx hb dX1_whole_124 (by decide) ?_
                        refine lv_goto (tgt := 129) hx hb dX1_whole_125 (by decide) ?_
                        refine bw_csl (rest := []) ⟨hx, hb, hml, hown, hts⟩ (bd_cut l (bg_number (g x2.toNatClampNeg)) (-(bg_power (g x2.toNatClampNeg))) (0 : Int32) (1 : Int32)) (va_cwS 4 hts gX1_whole_X1_cut rfl rfl rfl (by decide +kernel) ⟨Nat.le_of_ble_eq_true rfl, Nat.le_of_ble_eq_true rfl⟩) rfl hl.1 rfl (Nat.le_of_ble_eq_true rfl) dX1_whole_129 (Nat.zero_le _) (Nat.zero_le _) ?_
                        refine lv_lstore (nL := 10) (lv' := [(6, .long (bg_cut (bg_number (g x2.toNatClampNeg)) (-(bg_power (g x2.toNatClampNeg))) (0 : Int32) (1 : Int32))), (4, .long (g x2.toNatClampNeg)), (0, .ref h0), (1, .int x1), (2, .int x2), (3, .int x3)]) hx hb dX1_whole_132 hl (by decide) rfl (fun ls hl => ?_)
                        refine lv_lload hx hb dX1_whole_134 (lv_at hl 0 rfl) ?_
                        refine lv_iconst (v := 0) hx hb dX1_whole_136 (by decide) ?_
                        refine bw_csl (rest := []) ⟨hx, hb, hml, hown, hts⟩ (bd_exact l (bg_cut (bg_number (g x2.toNatClampNeg)) (-(bg_power (g x2.toNatClampNeg))) (0 : Int32) (1 : Int32)) (0 : Int32)) (va_cwS 2 hts gX1_whole_X1_exact rfl rfl rfl (by decide +kernel) ⟨Nat.le_of_ble_eq_true rfl, Nat.le_of_ble_eq_true rfl⟩) rfl hl.1 rfl (Nat.le_of_ble_eq_true rfl) dX1_whole_137 (Nat.zero_le _) (Nat.zero_le _) ?_
                        refine lv_lstore (nL := 10) (lv' := [(8, .long (bg_exact (bg_cut (bg_number (g x2.toNatClampNeg)) (-(bg_power (g x2.toNatClampNeg))) (0 : Int32) (1 : Int32)) (0 : Int32))), (6, .long (bg_cut (bg_number (g x2.toNatClampNeg)) (-(bg_power (g x2.toNatClampNeg))) (0 : Int32) (1 : Int32))), (4, .long (g x2.toNatClampNeg)), (0, .ref h0), (1, .int x1), (2, .int x2), (3, .int x3)]) hx hb dX1_whole_140 hl (by decide) rfl (fun ls hl => ?_)
                        refine lv_aload_n hx hb dX1_whole_142 rfl (lv_at hl 3 rfl) ?_
                        refine lv_iload_n hx hb dX1_whole_143 rfl (lv_at hl 6 rfl) ?_
                        refine lv_if_ne (tgt := 167) hx hb dX1_whole_144 (by decide) (fun h14 => ?_) (fun h14 => ?_)
                        rotate_left
                        · exact absurd h14 h8
                        refine lv_aload_n hx hb dX1_whole_167 rfl (lv_at hl 3 rfl) ?_
                        refine va_get (D := (dC, dI)) (ci := 1) (v := .int f1) (C := RX1) (T := TX1) (N := 5) hx hb hts hin0 hown hK hP 0 rfl rfl 1 (by decide) (hts (.fieldLink RX1 61 "BinaryFunctionsModel" "flag" "I") (by decide +kernel)) (fun _ h9 => h9) rfl dX1_whole_168 ?_
                        refine va_put (D := (dC, dI)) (ci := 1) (v := .int f1) (ty := .int) (C := RX1) (T := TX1) (N := 5) hx hb hts hin0 tyX1 tyX1_ok nmX1 hown hK hP hD hS 0 rfl rfl 1 (by decide) (hts (.fieldLink RX1 61 "BinaryFunctionsModel" "flag" "I") (by decide +kernel)) (fun _ h9 => h9) rfl (by decide +kernel) rfl rfl (Nat.le_of_ble_eq_true rfl) dX1_whole_171 (fun H locs hP hD hS => ?_)
                        have hP : va_P (dC, dI) vwCl [(h0, .inr (1, [.ref a0, .int f1, .int f2, .long f3, .long f4])), (a0, .inl (cA, 8, .inr (.inl g)))] H := hP
                        have hD : va_D A [(h0, .inr (1, [.ref a0, .int f1, .int f2, .long f3, .long f4])), (a0, .inl (cA, 8, .inr (.inl g)))] := hD
                        refine lv_aload_n hx hb dX1_whole_174 rfl (lv_at hl 3 rfl) ?_
                        refine va_get (D := (dC, dI)) (ci := 1) (v := .ref a0) (C := RX1) (T := TX1) (N := 5) hx hb hts hin0 hown hK hP 0 rfl rfl 0 (by decide) (hts (.fieldLink RX1 7 "BinaryFunctionsModel" "register" "[J") (by decide +kernel)) (fun _ h9 => h9) rfl dX1_whole_175 ?_
                        refine lv_iload_n hx hb dX1_whole_178 rfl (lv_at hl 4 rfl) ?_
                        refine lv_lload hx hb dX1_whole_179 (lv_at hl 0 rfl) ?_
                        refine lv_lload hx hb dX1_whole_181 (lv_at hl 2 rfl) ?_
                        refine bw_csi (rest := [.long (bg_exact (bg_cut (bg_number (g x2.toNatClampNeg)) (-(bg_power (g x2.toNatClampNeg))) (0 : Int32) (1 : Int32)) (0 : Int32)), .int x1, .ref a0]) ⟨hx, hb, hml, hown, hts⟩ (bd_negative l (g x2.toNatClampNeg)) (va_cwS 1 hts gX1_whole_X1_negative rfl rfl rfl (by decide +kernel) ⟨Nat.le_of_ble_eq_true rfl, Nat.le_of_ble_eq_true rfl⟩) rfl hl.1 rfl (Nat.le_of_ble_eq_true rfl) dX1_whole_183 (Nat.zero_le _) (Nat.zero_le _) ?_
                        refine bw_csl (rest := [.int x1, .ref a0]) ⟨hx, hb, hml, hown, hts⟩ (bd_signed l (bg_exact (bg_cut (bg_number (g x2.toNatClampNeg)) (-(bg_power (g x2.toNatClampNeg))) (0 : Int32) (1 : Int32)) (0 : Int32)) (bg_negative (g x2.toNatClampNeg))) (va_cwS 2 hts gX1_whole_X1_signed rfl rfl rfl (by decide +kernel) ⟨Nat.le_of_ble_eq_true rfl, Nat.le_of_ble_eq_true rfl⟩) rfl hl.1 rfl (Nat.le_of_ble_eq_true rfl) dX1_whole_186 (Nat.zero_le _) (Nat.zero_le _) ?_
                        refine va_last hx hb hK hP hD hS 1 0 rfl rfl (bm_reg1 h1) dX1_whole_189 (fun H locs hP hD hS => ?_)
                        have hP : va_P (dC, dI) vwCl [(h0, .inr (1, [.ref a0, .int f1, .int f2, .long f3, .long f4])), (a0, .inl (cA, 8, .inr (.inl (vp_updL g x1.toNatClampNeg (bg_signed (bg_exact (bg_cut (bg_number (g x2.toNatClampNeg)) (-(bg_power (g x2.toNatClampNeg))) (0 : Int32) (1 : Int32)) (0 : Int32)) (bg_negative (g x2.toNatClampNeg)))))))] H := hP
                        have hD : va_D A [(h0, .inr (1, [.ref a0, .int f1, .int f2, .long f3, .long f4])), (a0, .inl (cA, 8, .inr (.inl (vp_updL g x1.toNatClampNeg (bg_signed (bg_exact (bg_cut (bg_number (g x2.toNatClampNeg)) (-(bg_power (g x2.toNatClampNeg))) (0 : Int32) (1 : Int32)) (0 : Int32)) (bg_negative (g x2.toNatClampNeg)))))))] := hD
                        refine lv_iconst (v := 1) hx hb dX1_whole_190 (by decide) ?_
                        exact W.zret (v := (1 : Int32)) hx hb hr rfl (fun t ht hW => ⟨⟨(1 : Int32), (f1, f2, f3, f4, vp_updL g x1.toNatClampNeg (bg_signed (bg_exact (bg_cut (bg_number (g x2.toNatClampNeg)) (-(bg_power (g x2.toNatClampNeg))) (0 : Int32) (1 : Int32)) (0 : Int32)) (bg_negative (g x2.toNatClampNeg)))), rfl, by rw [bg_whole, if_neg h1, if_neg h2, if_neg h3, if_pos h4, if_pos h5, if_pos h6, if_pos h7, if_neg h8, if_neg h9, if_pos h10, if_pos h12], by rw [ht]; exact hP, va_K.moved hW.alike hK, hD⟩, hS.F ht⟩) hS.2.2 dX1_whole_191
                  · refine lv_lload hx hb dX1_whole_103 (lv_at hl 0 rfl) ?_
                    refine bw_csi (rest := [.int (0 : Int32), .int (-(bg_power (g x2.toNatClampNeg))), .long (bg_number (g x2.toNatClampNeg))]) ⟨hx, hb, hml, hown, hts⟩ (bd_negative l (g x2.toNatClampNeg)) (va_cwS 1 hts gX1_whole_X1_negative rfl rfl rfl (by decide +kernel) ⟨Nat.le_of_ble_eq_true rfl, Nat.le_of_ble_eq_true rfl⟩) rfl hl.1 rfl (Nat.le_of_ble_eq_true rfl) dX1_whole_105 (Nat.zero_le _) (Nat.zero_le _) ?_
                    refine lv_if_ne (tgt := 124) hx hb dX1_whole_108 (by decide) (fun h15 => ?_) (fun h15 => ?_)
                    · refine lv_iconst (v := 1) hx hb dX1_whole_124 (by decide) ?_
                      refine lv_goto (tgt := 129) hx hb dX1_whole_125 (by decide) ?_
                      refine bw_csl (rest := []) ⟨hx, hb, hml, hown, hts⟩ (bd_cut l (bg_number (g x2.toNatClampNeg)) (-(bg_power (g x2.toNatClampNeg))) (0 : Int32) (1 : Int32)) (va_cwS 4 hts gX1_whole_X1_cut rfl rfl rfl (by decide +kernel) ⟨Nat.le_of_ble_eq_true rfl, Nat.le_of_ble_eq_true rfl⟩) rfl hl.1 rfl (Nat.le_of_ble_eq_true rfl) dX1_whole_129 (Nat.zero_le _) (Nat.zero_le _) ?_
                      refine lv_lstore (nL := 10) (lv' := [(6, .long (bg_cut (bg_number (g x2.toNatClampNeg)) (-(bg_power (g x2.toNatClampNeg))) (0 : Int32) (1 : Int32))), (4, .long (g x2.toNatClampNeg)), (0, .ref h0), (1, .int x1), (2, .int x2), (3, .int x3)]) hx hb dX1_whole_132 hl (by decide) rfl (fun ls hl => ?_)
                      refine lv_lload hx hb dX1_whole_134 (lv_at hl 0 rfl) ?_
                      refine lv_iconst (v := 0) hx hb dX1_whole_136 (by decide) ?_
                      refine bw_csl (rest := []) ⟨hx, hb, hml, hown, hts⟩ (bd_exact l (bg_cut (bg_number (g x2.toNatClampNeg)) (-(bg_power (g x2.toNatClampNeg))) (0 : Int32) (1 : Int32)) (0 : Int32)) (va_cwS 2 hts gX1_whole_X1_exact rfl rfl rfl (by decide +kernel) ⟨Nat.le_of_ble_eq_true rfl, Nat.le_of_ble_eq_true rfl⟩) rfl hl.1 rfl (Nat.le_of_ble_eq_true rfl) dX1_whole_137 (Nat.zero_le _) (Nat.zero_le _) ?_
                      refine lv_lstore (nL := 10) (lv' := [(8, .long (bg_exact (bg_cut (bg_number (g x2.toNatClampNeg)) (-(bg_power (g x2.toNatClampNeg))) (0 : Int32) (1 : Int32)) (0 : Int32))), (6, .long (bg_cut (bg_number (g x2.toNatClampNeg)) (-(bg_power (g x2.toNatClampNeg))) (0 : Int32) (1 : Int32))), (4, .long (g x2.toNatClampNeg)), (0, .ref h0), (1, .int x1), (2, .int x2), (3, .int x3)]) hx hb dX1_whole_140 hl (by decide) rfl (fun ls hl => ?_)
                      refine lv_aload_n hx hb dX1_whole_142 rfl (lv_at hl 3 rfl) ?_
                      refine lv_iload_n hx hb dX1_whole_143 rfl (lv_at hl 6 rfl) ?_
                      refine lv_if_ne (tgt := 167) hx hb dX1_whole_144 (by decide) (fun h16 => ?_) (fun h16 => ?_)
                      rotate_left
                      · exact absurd h16 h8
                      refine lv_aload_n hx hb dX1_whole_167 rfl (lv_at hl 3 rfl) ?_
                      refine va_get (D := (dC, dI)) (ci := 1) (v := .int f1) (C := RX1) (T := TX1) (N := 5) hx hb hts hin0 hown hK hP 0 rfl rfl 1 (by decide) (hts (.fieldLink RX1 61 "BinaryFunctionsModel" "flag" "I") (by decide +kernel)) (fun _ h9 => h9) rfl dX1_whole_168 ?_
                      refine va_put (D := (dC, dI)) (ci := 1) (v := .int f1) (ty := .int) (C := RX1) (T := TX1) (N := 5) hx hb hts hin0 tyX1 tyX1_ok nmX1 hown hK hP hD hS 0 rfl rfl 1 (by decide) (hts (.fieldLink RX1 61 "BinaryFunctionsModel" "flag" "I") (by decide +kernel)) (fun _ h9 => h9) rfl (by decide +kernel) rfl rfl (Nat.le_of_ble_eq_true rfl) dX1_whole_171 (fun H locs hP hD hS => ?_)
                      have hP : va_P (dC, dI) vwCl [(h0, .inr (1, [.ref a0, .int f1, .int f2, .long f3, .long f4])), (a0, .inl (cA, 8, .inr (.inl g)))] H := hP
                      have hD : va_D A [(h0, .inr (1, [.ref a0, .int f1, .int f2, .long f3, .long f4])), (a0, .inl (cA, 8, .inr (.inl g)))] := hD
                      refine lv_aload_n hx hb dX1_whole_174 rfl (lv_at hl 3 rfl) ?_
                      refine va_get (D := (dC, dI)) (ci := 1) (v := .ref a0) (C := RX1) (T := TX1) (N := 5) hx hb hts hin0 hown hK hP 0 rfl rfl 0 (by decide) (hts (.fieldLink RX1 7 "BinaryFunctionsModel" "register" "[J") (by decide +kernel)) (fun _ h9 => h9) rfl dX1_whole_175 ?_
                      refine lv_iload_n hx hb dX1_whole_178 rfl (lv_at hl 4 rfl) ?_
                      refine lv_lload hx hb dX1_whole_179 (lv_at hl 0 rfl) ?_
                      refine lv_lload hx hb dX1_whole_181 (lv_at hl 2 rfl) ?_
                      refine bw_csi (rest := [.long (bg_exact (bg_cut (bg_number (g x2.toNatClampNeg)) (-(bg_power (g x2.toNatClampNeg))) (0 : Int32) (1 : Int32)) (0 : Int32)), .int x1, .ref a0]) ⟨hx, hb, hml, hown, hts⟩ (bd_negative l (g x2.toNatClampNeg)) (va_cwS 1 hts gX1_whole_X1_negative rfl rfl rfl (by decide +kernel) ⟨Nat.le_of_ble_eq_true rfl, Nat.le_of_ble_eq_true rfl⟩) rfl hl.1 rfl (Nat.le_of_ble_eq_true rfl) dX1_whole_183 (Nat.zero_le _) (Nat.zero_le _) ?_
                      refine bw_csl (rest := [.int x1, .ref a0]) ⟨hx, hb, hml, hown, hts⟩ (bd_signed l (bg_exact (bg_cut (bg_number (g x2.toNatClampNeg)) (-(bg_power (g x2.toNatClampNeg))) (0 : Int32) (1 : Int32)) (0 : Int32)) (bg_negative (g x2.toNatClampNeg))) (va_cwS 2 hts gX1_whole_X1_signed rfl rfl rfl (by decide +kernel) ⟨Nat.le_of_ble_eq_true rfl, Nat.le_of_ble_eq_true rfl⟩) rfl hl.1 rfl (Nat.le_of_ble_eq_true rfl) dX1_whole_186 (Nat.zero_le _) (Nat.zero_le _) ?_
                      refine va_last hx hb hK hP hD hS 1 0 rfl rfl (bm_reg1 h1) dX1_whole_189 (fun H locs hP hD hS => ?_)
                      have hP : va_P (dC, dI) vwCl [(h0, .inr (1, [.ref a0, .int f1, .int f2, .long f3, .long f4])), (a0, .inl (cA, 8, .inr (.inl (vp_updL g x1.toNatClampNeg (bg_signed (bg_exact (bg_cut (bg_number (g x2.toNatClampNeg)) (-(bg_power (g x2.toNatClampNeg))) (0 : Int32) (1 : Int32)) (0 : Int32)) (bg_negative (g x2.toNatClampNeg)))))))] H := hP
                      have hD : va_D A [(h0, .inr (1, [.ref a0, .int f1, .int f2, .long f3, .long f4])), (a0, .inl (cA, 8, .inr (.inl (vp_updL g x1.toNatClampNeg (bg_signed (bg_exact (bg_cut (bg_number (g x2.toNatClampNeg)) (-(bg_power (g x2.toNatClampNeg))) (0 : Int32) (1 : Int32)) (0 : Int32)) (bg_negative (g x2.toNatClampNeg)))))))] := hD
                      refine lv_iconst (v := 1) hx hb dX1_whole_190 (by decide) ?_
                      exact W.zret (v := (1 : Int32)) hx hb hr rfl (fun t ht hW => ⟨⟨(1 : Int32), (f1, f2, f3, f4, vp_updL g x1.toNatClampNeg (bg_signed (bg_exact (bg_cut (bg_number (g x2.toNatClampNeg)) (-(bg_power (g x2.toNatClampNeg))) (0 : Int32) (1 : Int32)) (0 : Int32)) (bg_negative (g x2.toNatClampNeg)))), rfl, by rw [bg_whole, if_neg h1, if_neg h2, if_neg h3, if_pos h4, if_pos h5, if_pos h6, if_pos h7, if_neg h8, if_pos h9, if_neg h15], by rw [ht]; exact hP, va_K.moved hW.alike hK, hD⟩, hS.F ht⟩) hS.2.2 dX1_whole_191
                    · refine lv_iload_n hx hb dX1_whole_111 rfl (lv_at hl 4 rfl) ?_
                      refine lv_iconst (v := 2) hx hb dX1_whole_112 (by decide) ?_
                      refine lv_icmp_ne (tgt := 128) hx hb dX1_whole_113 (by decide) (fun h17 => ?_) (fun h17 => ?_)
                      · refine lv_iconst (v := 0) hx hb dX1_whole_128 (by decide) ?_
                        refine bw_csl (rest := []) ⟨hx, hb, hml, hown, hts⟩ (bd_cut l (bg_number (g x2.toNatClampNeg)) (-(bg_power (g x2.toNatClampNeg))) (0 : Int32) (0 : Int32)) (va_cwS 4 hts gX1_whole_X1_cut rfl rfl rfl (by decide +kernel) ⟨Nat.le_of_ble_eq_true rfl, Nat.le_of_ble_eq_true rfl⟩) rfl hl.1 rfl (Nat.le_of_ble_eq_true rfl) dX1_whole_129 (Nat.zero_le _) (Nat.zero_le _) ?_
                        refine lv_lstore (nL := 10) (lv' := [(6, .long (bg_cut (bg_number (g x2.toNatClampNeg)) (-(bg_power (g x2.toNatClampNeg))) (0 : Int32) (0 : Int32))), (4, .long (g x2.toNatClampNeg)), (0, .ref h0), (1, .int x1), (2, .int x2), (3, .int x3)]) hx hb dX1_whole_132 hl (by decide) rfl (fun ls hl => ?_)
                        refine lv_lload hx hb dX1_whole_134 (lv_at hl 0 rfl) ?_
                        refine lv_iconst (v := 0) hx hb dX1_whole_136 (by decide) ?_
                        refine bw_csl (rest := []) ⟨hx, hb, hml, hown, hts⟩ (bd_exact l (bg_cut (bg_number (g x2.toNatClampNeg)) (-(bg_power (g x2.toNatClampNeg))) (0 : Int32) (0 : Int32)) (0 : Int32)) (va_cwS 2 hts gX1_whole_X1_exact rfl rfl rfl (by decide +kernel) ⟨Nat.le_of_ble_eq_true rfl, Nat.le_of_ble_eq_true rfl⟩) rfl hl.1 rfl (Nat.le_of_ble_eq_true rfl) dX1_whole_137 (Nat.zero_le _) (Nat.zero_le _) ?_
                        refine lv_lstore (nL := 10) (lv' := [(8, .long (bg_exact (bg_cut (bg_number (g x2.toNatClampNeg)) (-(bg_power (g x2.toNatClampNeg))) (0 : Int32) (0 : Int32)) (0 : Int32))), (6, .long (bg_cut (bg_number (g x2.toNatClampNeg)) (-(bg_power (g x2.toNatClampNeg))) (0 : Int32) (0 : Int32))), (4, .long (g x2.toNatClampNeg)), (0, .ref h0), (1, .int x1), (2, .int x2), (3, .int x3)]) hx hb dX1_whole_140 hl (by decide) rfl (fun ls hl => ?_)
                        refine lv_aload_n hx hb dX1_whole_142 rfl (lv_at hl 3 rfl) ?_
                        refine lv_iload_n hx hb dX1_whole_143 rfl (lv_at hl 6 rfl) ?_
                        refine lv_if_ne (tgt := 167) hx hb dX1_whole_144 (by decide) (fun h18 => ?_) (fun h18 => ?_)
                        rotate_left
                        · exact absurd h18 h8
                        refine lv_aload_n hx hb dX1_whole_167 rfl (lv_at hl 3 rfl) ?_
                        refine va_get (D := (dC, dI)) (ci := 1) (v := .int f1) (C := RX1) (T := TX1) (N := 5) hx hb hts hin0 hown hK hP 0 rfl rfl 1 (by decide) (hts (.fieldLink RX1 61 "BinaryFunctionsModel" "flag" "I") (by decide +kernel)) (fun _ h9 => h9) rfl dX1_whole_168 ?_
                        refine va_put (D := (dC, dI)) (ci := 1) (v := .int f1) (ty := .int) (C := RX1) (T := TX1) (N := 5) hx hb hts hin0 tyX1 tyX1_ok nmX1 hown hK hP hD hS 0 rfl rfl 1 (by decide) (hts (.fieldLink RX1 61 "BinaryFunctionsModel" "flag" "I") (by decide +kernel)) (fun _ h9 => h9) rfl (by decide +kernel) rfl rfl (Nat.le_of_ble_eq_true rfl) dX1_whole_171 (fun H locs hP hD hS => ?_)
                        have hP : va_P (dC, dI) vwCl [(h0, .inr (1, [.ref a0, .int f1, .int f2, .long f3, .long f4])), (a0, .inl (cA, 8, .inr (.inl g)))] H := hP
                        have hD : va_D A [(h0, .inr (1, [.ref a0, .int f1, .int f2, .long f3, .long f4])), (a0, .inl (cA, 8, .inr (.inl g)))] := hD
                        refine lv_aload_n hx hb dX1_whole_174 rfl (lv_at hl 3 rfl) ?_
                        refine va_get (D := (dC, dI)) (ci := 1) (v := .ref a0) (C := RX1) (T := TX1) (N := 5) hx hb hts hin0 hown hK hP 0 rfl rfl 0 (by decide) (hts (.fieldLink RX1 7 "BinaryFunctionsModel" "register" "[J") (by decide +kernel)) (fun _ h9 => h9) rfl dX1_whole_175 ?_
                        refine lv_iload_n hx hb dX1_whole_178 rfl (lv_at hl 4 rfl) ?_
                        refine lv_lload hx hb dX1_whole_179 (lv_at hl 0 rfl) ?_
                        refine lv_lload hx hb dX1_whole_181 (lv_at hl 2 rfl) ?_
                        refine bw_csi (rest := [.long (bg_exact (bg_cut (bg_number (g x2.toNatClampNeg)) (-(bg_power (g x2.toNatClampNeg))) (0 : Int32) (0 : Int32)) (0 : Int32)), .int x1, .ref a0]) ⟨hx, hb, hml, hown, hts⟩ (bd_negative l (g x2.toNatClampNeg)) (va_cwS 1 hts gX1_whole_X1_negative rfl rfl rfl (by decide +kernel) ⟨Nat.le_of_ble_eq_true rfl, Nat.le_of_ble_eq_true rfl⟩) rfl hl.1 rfl (Nat.le_of_ble_eq_true rfl) dX1_whole_183 (Nat.zero_le _) (Nat.zero_le _) ?_
                        refine bw_csl (rest := [.int x1, .ref a0]) ⟨hx, hb, hml, hown, hts⟩ (bd_signed l (bg_exact (bg_cut (bg_number (g x2.toNatClampNeg)) (-(bg_power (g x2.toNatClampNeg))) (0 : Int32) (0 : Int32)) (0 : Int32)) (bg_negative (g x2.toNatClampNeg))) (va_cwS 2 hts gX1_whole_X1_signed rfl rfl rfl (by decide +kernel) ⟨Nat.le_of_ble_eq_true rfl, Nat.le_of_ble_eq_true rfl⟩) rfl hl.1 rfl (Nat.le_of_ble_eq_true rfl) dX1_whole_186 (Nat.zero_le _) (Nat.zero_le _) ?_
                        refine va_last hx hb hK hP hD hS 1 0 rfl rfl (bm_reg1 h1) dX1_whole_189 (fun H locs hP hD hS => ?_)
                        have hP : va_P (dC, dI) vwCl [(h0, .inr (1, [.ref a0, .int f1, .int f2, .long f3, .long f4])), (a0, .inl (cA, 8, .inr (.inl (vp_updL g x1.toNatClampNeg (bg_signed (bg_exact (bg_cut (bg_number (g x2.toNatClampNeg)) (-(bg_power (g x2.toNatClampNeg))) (0 : Int32) (0 : Int32)) (0 : Int32)) (bg_negative (g x2.toNatClampNeg)))))))] H := hP
                        have hD : va_D A [(h0, .inr (1, [.ref a0, .int f1, .int f2, .long f3, .long f4])), (a0, .inl (cA, 8, .inr (.inl (vp_updL g x1.toNatClampNeg (bg_signed (bg_exact (bg_cut (bg_number (g x2.toNatClampNeg)) (-(bg_power (g x2.toNatClampNeg))) (0 : Int32) (0 : Int32)) (0 : Int32)) (bg_negative (g x2.toNatClampNeg)))))))] := hD
                        refine lv_iconst (v := 1) hx hb dX1_whole_190 (by decide) ?_
                        exact W.zret (v := (1 : Int32)) hx hb hr rfl (fun t ht hW => ⟨⟨(1 : Int32), (f1, f2, f3, f4, vp_updL g x1.toNatClampNeg (bg_signed (bg_exact (bg_cut (bg_number (g x2.toNatClampNeg)) (-(bg_power (g x2.toNatClampNeg))) (0 : Int32) (0 : Int32)) (0 : Int32)) (bg_negative (g x2.toNatClampNeg)))), rfl, by rw [bg_whole, if_neg h1, if_neg h2, if_neg h3, if_pos h4, if_pos h5, if_pos h6, if_pos h7, if_neg h8, if_pos h9, if_pos h15, if_neg h17], by rw [ht]; exact hP, va_K.moved hW.alike hK, hD⟩, hS.F ht⟩) hS.2.2 dX1_whole_191
                      · refine lv_lload hx hb dX1_whole_116 (lv_at hl 0 rfl) ?_
                        refine bw_csi (rest := [.int (0 : Int32), .int (-(bg_power (g x2.toNatClampNeg))), .long (bg_number (g x2.toNatClampNeg))]) ⟨hx, hb, hml, hown, hts⟩ (bd_negative l (g x2.toNatClampNeg)) (va_cwS 1 hts gX1_whole_X1_negative rfl rfl rfl (by decide +kernel) ⟨Nat.le_of_ble_eq_true rfl, Nat.le_of_ble_eq_true rfl⟩) rfl hl.1 rfl (Nat.le_of_ble_eq_true rfl) dX1_whole_118 (Nat.zero_le _) (Nat.zero_le _) ?_
                        refine lv_if_ne (tgt := 128) hx hb dX1_whole_121 (by decide) (fun h19 => ?_) (fun h19 => ?_)
                        · exact absurd h15 h19
                        refine lv_iconst (v := 1) hx hb dX1_whole_124 (by decide) ?_
                        refine lv_goto (tgt := 129) hx hb dX1_whole_125 (by decide) ?_
                        refine bw_csl (rest := []) ⟨hx, hb, hml, hown, hts⟩ (bd_cut l (bg_number (g x2.toNatClampNeg)) (-(bg_power (g x2.toNatClampNeg))) (0 : Int32) (1 : Int32)) (va_cwS 4 hts gX1_whole_X1_cut rfl rfl rfl (by decide +kernel) ⟨Nat.le_of_ble_eq_true rfl, Nat.le_of_ble_eq_true rfl⟩) rfl hl.1 rfl (Nat.le_of_ble_eq_true rfl) dX1_whole_129 (Nat.zero_le _) (Nat.zero_le _) ?_
                        refine lv_lstore (nL := 10) (lv' := [(6, .long (bg_cut (bg_number (g x2.toNatClampNeg)) (-(bg_power (g x2.toNatClampNeg))) (0 : Int32) (1 : Int32))), (4, .long (g x2.toNatClampNeg)), (0, .ref h0), (1, .int x1), (2, .int x2), (3, .int x3)]) hx hb dX1_whole_132 hl (by decide) rfl (fun ls hl => ?_)
                        refine lv_lload hx hb dX1_whole_134 (lv_at hl 0 rfl) ?_
                        refine lv_iconst (v := 0) hx hb dX1_whole_136 (by decide) ?_
                        refine bw_csl (rest := []) ⟨hx, hb, hml, hown, hts⟩ (bd_exact l (bg_cut (bg_number (g x2.toNatClampNeg)) (-(bg_power (g x2.toNatClampNeg))) (0 : Int32) (1 : Int32)) (0 : Int32)) (va_cwS 2 hts gX1_whole_X1_exact rfl rfl rfl (by decide +kernel) ⟨Nat.le_of_ble_eq_true rfl, Nat.le_of_ble_eq_true rfl⟩) rfl hl.1 rfl (Nat.le_of_ble_eq_true rfl) dX1_whole_137 (Nat.zero_le _) (Nat.zero_le _) ?_
                        refine lv_lstore (nL := 10) (lv' := [(8, .long (bg_exact (bg_cut (bg_number (g x2.toNatClampNeg)) (-(bg_power (g x2.toNatClampNeg))) (0 : Int32) (1 : Int32)) (0 : Int32))), (6, .long (bg_cut (bg_number (g x2.toNatClampNeg)) (-(bg_power (g x2.toNatClampNeg))) (0 : Int32) (1 : Int32))), (4, .long (g x2.toNatClampNeg)), (0, .ref h0), (1, .int x1), (2, .int x2), (3, .int x3)]) hx hb dX1_whole_140 hl (by decide) rfl (fun ls hl => ?_)
                        refine lv_aload_n hx hb dX1_whole_142 rfl (lv_at hl 3 rfl) ?_
                        refine lv_iload_n hx hb dX1_whole_143 rfl (lv_at hl 6 rfl) ?_
                        refine lv_if_ne (tgt := 167) hx hb dX1_whole_144 (by decide) (fun h20 => ?_) (fun h20 => ?_)
                        rotate_left
                        · exact absurd h20 h8
                        refine lv_aload_n hx hb dX1_whole_167 rfl (lv_at hl 3 rfl) ?_
                        refine va_get (D := (dC, dI)) (ci := 1) (v := .int f1) (C := RX1) (T := TX1) (N := 5) hx hb hts hin0 hown hK hP 0 rfl rfl 1 (by decide) (hts (.fieldLink RX1 61 "BinaryFunctionsModel" "flag" "I") (by decide +kernel)) (fun _ h9 => h9) rfl dX1_whole_168 ?_
                        refine va_put (D := (dC, dI)) (ci := 1) (v := .int f1) (ty := .int) (C := RX1) (T := TX1) (N := 5) hx hb hts hin0 tyX1 tyX1_ok nmX1 hown hK hP hD hS 0 rfl rfl 1 (by decide) (hts (.fieldLink RX1 61 "BinaryFunctionsModel" "flag" "I") (by decide +kernel)) (fun _ h9 => h9) rfl (by decide +kernel) rfl rfl (Nat.le_of_ble_eq_true rfl) dX1_whole_171 (fun H locs hP hD hS => ?_)
                        have hP : va_P (dC, dI) vwCl [(h0, .inr (1, [.ref a0, .int f1, .int f2, .long f3, .long f4])), (a0, .inl (cA, 8, .inr (.inl g)))] H := hP
                        have hD : va_D A [(h0, .inr (1, [.ref a0, .int f1, .int f2, .long f3, .long f4])), (a0, .inl (cA, 8, .inr (.inl g)))] := hD
                        refine lv_aload_n hx hb dX1_whole_174 rfl (lv_at hl 3 rfl) ?_
                        refine va_get (D := (dC, dI)) (ci := 1) (v := .ref a0) (C := RX1) (T := TX1) (N := 5) hx hb hts hin0 hown hK hP 0 rfl rfl 0 (by decide) (hts (.fieldLink RX1 7 "BinaryFunctionsModel" "register" "[J") (by decide +kernel)) (fun _ h9 => h9) rfl dX1_whole_175 ?_
                        refine lv_iload_n hx hb dX1_whole_178 rfl (lv_at hl 4 rfl) ?_
                        refine lv_lload hx hb dX1_whole_179 (lv_at hl 0 rfl) ?_
                        refine lv_lload hx hb dX1_whole_181 (lv_at hl 2 rfl) ?_
                        refine bw_csi (rest := [.long (bg_exact (bg_cut (bg_number (g x2.toNatClampNeg)) (-(bg_power (g x2.toNatClampNeg))) (0 : Int32) (1 : Int32)) (0 : Int32)), .int x1, .ref a0]) ⟨hx, hb, hml, hown, hts⟩ (bd_negative l (g x2.toNatClampNeg)) (va_cwS 1 hts gX1_whole_X1_negative rfl rfl rfl (by decide +kernel) ⟨Nat.le_of_ble_eq_true rfl, Nat.le_of_ble_eq_true rfl⟩) rfl hl.1 rfl (Nat.le_of_ble_eq_true rfl) dX1_whole_183 (Nat.zero_le _) (Nat.zero_le _) ?_
                        refine bw_csl (rest := [.int x1, .ref a0]) ⟨hx, hb, hml, hown, hts⟩ (bd_signed l (bg_exact (bg_cut (bg_number (g x2.toNatClampNeg)) (-(bg_power (g x2.toNatClampNeg))) (0 : Int32) (1 : Int32)) (0 : Int32)) (bg_negative (g x2.toNatClampNeg))) (va_cwS 2 hts gX1_whole_X1_signed rfl rfl rfl (by decide +kernel) ⟨Nat.le_of_ble_eq_true rfl, Nat.le_of_ble_eq_true rfl⟩) rfl hl.1 rfl (Nat.le_of_ble_eq_true rfl) dX1_whole_186 (Nat.zero_le _) (Nat.zero_le _) ?_
                        refine va_last hx hb hK hP hD hS 1 0 rfl rfl (bm_reg1 h1) dX1_whole_189 (fun H locs hP hD hS => ?_)
                        have hP : va_P (dC, dI) vwCl [(h0, .inr (1, [.ref a0, .int f1, .int f2, .long f3, .long f4])), (a0, .inl (cA, 8, .inr (.inl (vp_updL g x1.toNatClampNeg (bg_signed (bg_exact (bg_cut (bg_number (g x2.toNatClampNeg)) (-(bg_power (g x2.toNatClampNeg))) (0 : Int32) (1 : Int32)) (0 : Int32)) (bg_negative (g x2.toNatClampNeg)))))))] H := hP
                        have hD : va_D A [(h0, .inr (1, [.ref a0, .int f1, .int f2, .long f3, .long f4])), (a0, .inl (cA, 8, .inr (.inl (vp_updL g x1.toNatClampNeg (bg_signed (bg_exact (bg_cut (bg_number (g x2.toNatClampNeg)) (-(bg_power (g x2.toNatClampNeg))) (0 : Int32) (1 : Int32)) (0 : Int32)) (bg_negative (g x2.toNatClampNeg)))))))] := hD
                        refine lv_iconst (v := 1) hx hb dX1_whole_190 (by decide) ?_
                        exact W.zret (v := (1 : Int32)) hx hb hr rfl (fun t ht hW => ⟨⟨(1 : Int32), (f1, f2, f3, f4, vp_updL g x1.toNatClampNeg (bg_signed (bg_exact (bg_cut (bg_number (g x2.toNatClampNeg)) (-(bg_power (g x2.toNatClampNeg))) (0 : Int32) (1 : Int32)) (0 : Int32)) (bg_negative (g x2.toNatClampNeg)))), rfl, by rw [bg_whole, if_neg h1, if_neg h2, if_neg h3, if_pos h4, if_pos h5, if_pos h6, if_pos h7, if_neg h8, if_pos h9, if_pos h15, if_pos h17], by rw [ht]; exact hP, va_K.moved hW.alike hK, hD⟩, hS.F ht⟩) hS.2.2 dX1_whole_191
                · refine lv_iconst (v := 1) hx hb dX1_whole_93 (by decide) ?_
                  refine lv_goto (tgt := 98) hx hb dX1_whole_94 (by decide) ?_
                  refine lv_iload_n hx hb dX1_whole_98 rfl (lv_at hl 4 rfl) ?_
                  refine lv_iconst (v := 1) hx hb dX1_whole_99 (by decide) ?_
                  refine lv_icmp_ne (tgt := 111) hx hb dX1_whole_100 (by decide) (fun h21 => ?_) (fun h21 => ?_)
                  · refine lv_iload_n hx hb dX1_whole_111 rfl (lv_at hl 4 rfl) ?_
                    refine lv_iconst (v := 2) hx hb dX1_whole_112 (by decide) ?_
                    refine lv_icmp_ne (tgt := 128) hx hb dX1_whole_113 (by decide) (fun h22 => ?_) (fun h22 => ?_)
                    · refine lv_iconst (v := 0) hx hb dX1_whole_128 (by decide) ?_
                      refine bw_csl (rest := []) ⟨hx, hb, hml, hown, hts⟩ (bd_cut l (bg_number (g x2.toNatClampNeg)) (-(bg_power (g x2.toNatClampNeg))) (1 : Int32) (0 : Int32)) (va_cwS 4 hts gX1_whole_X1_cut rfl rfl rfl (by decide +kernel) ⟨Nat.le_of_ble_eq_true rfl, Nat.le_of_ble_eq_true rfl⟩) rfl hl.1 rfl (Nat.le_of_ble_eq_true rfl) dX1_whole_129 (Nat.zero_le _) (Nat.zero_le _) ?_
                      refine lv_lstore (nL := 10) (lv' := [(6, .long (bg_cut (bg_number (g x2.toNatClampNeg)) (-(bg_power (g x2.toNatClampNeg))) (1 : Int32) (0 : Int32))), (4, .long (g x2.toNatClampNeg)), (0, .ref h0), (1, .int x1), (2, .int x2), (3, .int x3)]) hx hb dX1_whole_132 hl (by decide) rfl (fun ls hl => ?_)
                      refine lv_lload hx hb dX1_whole_134 (lv_at hl 0 rfl) ?_
                      refine lv_iconst (v := 0) hx hb dX1_whole_136 (by decide) ?_
                      refine bw_csl (rest := []) ⟨hx, hb, hml, hown, hts⟩ (bd_exact l (bg_cut (bg_number (g x2.toNatClampNeg)) (-(bg_power (g x2.toNatClampNeg))) (1 : Int32) (0 : Int32)) (0 : Int32)) (va_cwS 2 hts gX1_whole_X1_exact rfl rfl rfl (by decide +kernel) ⟨Nat.le_of_ble_eq_true rfl, Nat.le_of_ble_eq_true rfl⟩) rfl hl.1 rfl (Nat.le_of_ble_eq_true rfl) dX1_whole_137 (Nat.zero_le _) (Nat.zero_le _) ?_
                      refine lv_lstore (nL := 10) (lv' := [(8, .long (bg_exact (bg_cut (bg_number (g x2.toNatClampNeg)) (-(bg_power (g x2.toNatClampNeg))) (1 : Int32) (0 : Int32)) (0 : Int32))), (6, .long (bg_cut (bg_number (g x2.toNatClampNeg)) (-(bg_power (g x2.toNatClampNeg))) (1 : Int32) (0 : Int32))), (4, .long (g x2.toNatClampNeg)), (0, .ref h0), (1, .int x1), (2, .int x2), (3, .int x3)]) hx hb dX1_whole_140 hl (by decide) rfl (fun ls hl => ?_)
                      refine lv_aload_n hx hb dX1_whole_142 rfl (lv_at hl 3 rfl) ?_
                      refine lv_iload_n hx hb dX1_whole_143 rfl (lv_at hl 6 rfl) ?_
                      refine lv_if_ne (tgt := 167) hx hb dX1_whole_144 (by decide) (fun h23 => ?_) (fun h23 => ?_)
                      · exact absurd h8 h23
                      refine lv_lload hx hb dX1_whole_147 (lv_at hl 0 rfl) ?_
                      refine lv_lload hx hb dX1_whole_149 (lv_at hl 2 rfl) ?_
                      refine bw_csl (rest := [.long (bg_exact (bg_cut (bg_number (g x2.toNatClampNeg)) (-(bg_power (g x2.toNatClampNeg))) (1 : Int32) (0 : Int32)) (0 : Int32)), .ref h0]) ⟨hx, hb, hml, hown, hts⟩ (bd_plain l (g x2.toNatClampNeg)) (va_cwS 1 hts gX1_whole_X1_plain rfl rfl rfl (by decide +kernel) ⟨Nat.le_of_ble_eq_true rfl, Nat.le_of_ble_eq_true rfl⟩) rfl hl.1 rfl (Nat.le_of_ble_eq_true rfl) dX1_whole_151 (Nat.zero_le _) (Nat.zero_le _) ?_
                      refine bw_lc_eq (tgt := 167) hx hb dX1_whole_154 dX1_whole_155 (by decide) (fun h24 => ?_) (fun h24 => ?_)
                      · refine lv_aload_n hx hb dX1_whole_167 rfl (lv_at hl 3 rfl) ?_
                        refine va_get (D := (dC, dI)) (ci := 1) (v := .int f1) (C := RX1) (T := TX1) (N := 5) hx hb hts hin0 hown hK hP 0 rfl rfl 1 (by decide) (hts (.fieldLink RX1 61 "BinaryFunctionsModel" "flag" "I") (by decide +kernel)) (fun _ h9 => h9) rfl dX1_whole_168 ?_
                        refine va_put (D := (dC, dI)) (ci := 1) (v := .int f1) (ty := .int) (C := RX1) (T := TX1) (N := 5) hx hb hts hin0 tyX1 tyX1_ok nmX1 hown hK hP hD hS 0 rfl rfl 1 (by decide) (hts (.fieldLink RX1 61 "BinaryFunctionsModel" "flag" "I") (by decide +kernel)) (fun _ h9 => h9) rfl (by decide +kernel) rfl rfl (Nat.le_of_ble_eq_true rfl) dX1_whole_171 (fun H locs hP hD hS => ?_)
                        have hP : va_P (dC, dI) vwCl [(h0, .inr (1, [.ref a0, .int f1, .int f2, .long f3, .long f4])), (a0, .inl (cA, 8, .inr (.inl g)))] H := hP
                        have hD : va_D A [(h0, .inr (1, [.ref a0, .int f1, .int f2, .long f3, .long f4])), (a0, .inl (cA, 8, .inr (.inl g)))] := hD
                        refine lv_aload_n hx hb dX1_whole_174 rfl (lv_at hl 3 rfl) ?_
                        refine va_get (D := (dC, dI)) (ci := 1) (v := .ref a0) (C := RX1) (T := TX1) (N := 5) hx hb hts hin0 hown hK hP 0 rfl rfl 0 (by decide) (hts (.fieldLink RX1 7 "BinaryFunctionsModel" "register" "[J") (by decide +kernel)) (fun _ h9 => h9) rfl dX1_whole_175 ?_
                        refine lv_iload_n hx hb dX1_whole_178 rfl (lv_at hl 4 rfl) ?_
                        refine lv_lload hx hb dX1_whole_179 (lv_at hl 0 rfl) ?_
                        refine lv_lload hx hb dX1_whole_181 (lv_at hl 2 rfl) ?_
                        refine bw_csi (rest := [.long (bg_exact (bg_cut (bg_number (g x2.toNatClampNeg)) (-(bg_power (g x2.toNatClampNeg))) (1 : Int32) (0 : Int32)) (0 : Int32)), .int x1, .ref a0]) ⟨hx, hb, hml, hown, hts⟩ (bd_negative l (g x2.toNatClampNeg)) (va_cwS 1 hts gX1_whole_X1_negative rfl rfl rfl (by decide +kernel) ⟨Nat.le_of_ble_eq_true rfl, Nat.le_of_ble_eq_true rfl⟩) rfl hl.1 rfl (Nat.le_of_ble_eq_true rfl) dX1_whole_183 (Nat.zero_le _) (Nat.zero_le _) ?_
                        refine bw_csl (rest := [.int x1, .ref a0]) ⟨hx, hb, hml, hown, hts⟩ (bd_signed l (bg_exact (bg_cut (bg_number (g x2.toNatClampNeg)) (-(bg_power (g x2.toNatClampNeg))) (1 : Int32) (0 : Int32)) (0 : Int32)) (bg_negative (g x2.toNatClampNeg))) (va_cwS 2 hts gX1_whole_X1_signed rfl rfl rfl (by decide +kernel) ⟨Nat.le_of_ble_eq_true rfl, Nat.le_of_ble_eq_true rfl⟩) rfl hl.1 rfl (Nat.le_of_ble_eq_true rfl) dX1_whole_186 (Nat.zero_le _) (Nat.zero_le _) ?_
                        refine va_last hx hb hK hP hD hS 1 0 rfl rfl (bm_reg1 h1) dX1_whole_189 (fun H locs hP hD hS => ?_)
                        have hP : va_P (dC, dI) vwCl [(h0, .inr (1, [.ref a0, .int f1, .int f2, .long f3, .long f4])), (a0, .inl (cA, 8, .inr (.inl (vp_updL g x1.toNatClampNeg (bg_signed (bg_exact (bg_cut (bg_number (g x2.toNatClampNeg)) (-(bg_power (g x2.toNatClampNeg))) (1 : Int32) (0 : Int32)) (0 : Int32)) (bg_negative (g x2.toNatClampNeg)))))))] H := hP
                        have hD : va_D A [(h0, .inr (1, [.ref a0, .int f1, .int f2, .long f3, .long f4])), (a0, .inl (cA, 8, .inr (.inl (vp_updL g x1.toNatClampNeg (bg_signed (bg_exact (bg_cut (bg_number (g x2.toNatClampNeg)) (-(bg_power (g x2.toNatClampNeg))) (1 : Int32) (0 : Int32)) (0 : Int32)) (bg_negative (g x2.toNatClampNeg)))))))] := hD
                        refine lv_iconst (v := 1) hx hb dX1_whole_190 (by decide) ?_
                        exact W.zret (v := (1 : Int32)) hx hb hr rfl (fun t ht hW => ⟨⟨(1 : Int32), (f1, f2, f3, f4, vp_updL g x1.toNatClampNeg (bg_signed (bg_exact (bg_cut (bg_number (g x2.toNatClampNeg)) (-(bg_power (g x2.toNatClampNeg))) (1 : Int32) (0 : Int32)) (0 : Int32)) (bg_negative (g x2.toNatClampNeg)))), rfl, by rw [bg_whole, if_neg h1, if_neg h2, if_neg h3, if_pos h4, if_pos h5, if_pos h6, if_pos h7, if_pos h8, if_neg h21, if_neg h22, if_pos h24], by rw [ht]; exact hP, va_K.moved hW.alike hK, hD⟩, hS.F ht⟩) hS.2.2 dX1_whole_191
                      · refine lv_aload_n hx hb dX1_whole_158 rfl (lv_at hl 3 rfl) ?_
                        refine va_get (D := (dC, dI)) (ci := 1) (v := .int f1) (C := RX1) (T := TX1) (N := 5) hx hb hts hin0 hown hK hP 0 rfl rfl 1 (by decide) (hts (.fieldLink RX1 61 "BinaryFunctionsModel" "flag" "I") (by decide +kernel)) (fun _ h9 => h9) rfl dX1_whole_159 ?_
                        refine lv_iconst (v := 2) hx hb dX1_whole_162 (by decide) ?_
                        refine lv_ior hx hb dX1_whole_163 ?_
                        refine lv_goto (tgt := 171) hx hb dX1_whole_164 (by decide) ?_
                        refine va_put (D := (dC, dI)) (ci := 1) (v := .int (f1 ||| (2 : Int32))) (ty := .int) (C := RX1) (T := TX1) (N := 5) hx hb hts hin0 tyX1 tyX1_ok nmX1 hown hK hP hD hS 0 rfl rfl 1 (by decide) (hts (.fieldLink RX1 61 "BinaryFunctionsModel" "flag" "I") (by decide +kernel)) (fun _ h9 => h9) rfl (by decide +kernel) rfl rfl (Nat.le_of_ble_eq_true rfl) dX1_whole_171 (fun H locs hP hD hS => ?_)
                        have hP : va_P (dC, dI) vwCl [(h0, .inr (1, [.ref a0, .int (f1 ||| (2 : Int32)), .int f2, .long f3, .long f4])), (a0, .inl (cA, 8, .inr (.inl g)))] H := hP
                        have hD : va_D A [(h0, .inr (1, [.ref a0, .int (f1 ||| (2 : Int32)), .int f2, .long f3, .long f4])), (a0, .inl (cA, 8, .inr (.inl g)))] := hD
                        refine lv_aload_n hx hb dX1_whole_174 rfl (lv_at hl 3 rfl) ?_
                        refine va_get (D := (dC, dI)) (ci := 1) (v := .ref a0) (C := RX1) (T := TX1) (N := 5) hx hb hts hin0 hown hK hP 0 rfl rfl 0 (by decide) (hts (.fieldLink RX1 7 "BinaryFunctionsModel" "register" "[J") (by decide +kernel)) (fun _ h9 => h9) rfl dX1_whole_175 ?_
                        refine lv_iload_n hx hb dX1_whole_178 rfl (lv_at hl 4 rfl) ?_
                        refine lv_lload hx hb dX1_whole_179 (lv_at hl 0 rfl) ?_
                        refine lv_lload hx hb dX1_whole_181 (lv_at hl 2 rfl) ?_
                        refine bw_csi (rest := [.long (bg_exact (bg_cut (bg_number (g x2.toNatClampNeg)) (-(bg_power (g x2.toNatClampNeg))) (1 : Int32) (0 : Int32)) (0 : Int32)), .int x1, .ref a0]) ⟨hx, hb, hml, hown, hts⟩ (bd_negative l (g x2.toNatClampNeg)) (va_cwS 1 hts gX1_whole_X1_negative rfl rfl rfl (by decide +kernel) ⟨Nat.le_of_ble_eq_true rfl, Nat.le_of_ble_eq_true rfl⟩) rfl hl.1 rfl (Nat.le_of_ble_eq_true rfl) dX1_whole_183 (Nat.zero_le _) (Nat.zero_le _) ?_
                        refine bw_csl (rest := [.int x1, .ref a0]) ⟨hx, hb, hml, hown, hts⟩ (bd_signed l (bg_exact (bg_cut (bg_number (g x2.toNatClampNeg)) (-(bg_power (g x2.toNatClampNeg))) (1 : Int32) (0 : Int32)) (0 : Int32)) (bg_negative (g x2.toNatClampNeg))) (va_cwS 2 hts gX1_whole_X1_signed rfl rfl rfl (by decide +kernel) ⟨Nat.le_of_ble_eq_true rfl, Nat.le_of_ble_eq_true rfl⟩) rfl hl.1 rfl (Nat.le_of_ble_eq_true rfl) dX1_whole_186 (Nat.zero_le _) (Nat.zero_le _) ?_
                        refine va_last hx hb hK hP hD hS 1 0 rfl rfl (bm_reg1 h1) dX1_whole_189 (fun H locs hP hD hS => ?_)
                        have hP : va_P (dC, dI) vwCl [(h0, .inr (1, [.ref a0, .int (f1 ||| (2 : Int32)), .int f2, .long f3, .long f4])), (a0, .inl (cA, 8, .inr (.inl (vp_updL g x1.toNatClampNeg (bg_signed (bg_exact (bg_cut (bg_number (g x2.toNatClampNeg)) (-(bg_power (g x2.toNatClampNeg))) (1 : Int32) (0 : Int32)) (0 : Int32)) (bg_negative (g x2.toNatClampNeg)))))))] H := hP
                        have hD : va_D A [(h0, .inr (1, [.ref a0, .int (f1 ||| (2 : Int32)), .int f2, .long f3, .long f4])), (a0, .inl (cA, 8, .inr (.inl (vp_updL g x1.toNatClampNeg (bg_signed (bg_exact (bg_cut (bg_number (g x2.toNatClampNeg)) (-(bg_power (g x2.toNatClampNeg))) (1 : Int32) (0 : Int32)) (0 : Int32)) (bg_negative (g x2.toNatClampNeg)))))))] := hD
                        refine lv_iconst (v := 1) hx hb dX1_whole_190 (by decide) ?_
                        exact W.zret (v := (1 : Int32)) hx hb hr rfl (fun t ht hW => ⟨⟨(1 : Int32), (f1 ||| (2 : Int32), f2, f3, f4, vp_updL g x1.toNatClampNeg (bg_signed (bg_exact (bg_cut (bg_number (g x2.toNatClampNeg)) (-(bg_power (g x2.toNatClampNeg))) (1 : Int32) (0 : Int32)) (0 : Int32)) (bg_negative (g x2.toNatClampNeg)))), rfl, by rw [bg_whole, if_neg h1, if_neg h2, if_neg h3, if_pos h4, if_pos h5, if_pos h6, if_pos h7, if_pos h8, if_neg h21, if_neg h22, if_neg h24], by rw [ht]; exact hP, va_K.moved hW.alike hK, hD⟩, hS.F ht⟩) hS.2.2 dX1_whole_191
                    · refine lv_lload hx hb dX1_whole_116 (lv_at hl 0 rfl) ?_
                      refine bw_csi (rest := [.int (1 : Int32), .int (-(bg_power (g x2.toNatClampNeg))), .long (bg_number (g x2.toNatClampNeg))]) ⟨hx, hb, hml, hown, hts⟩ (bd_negative l (g x2.toNatClampNeg)) (va_cwS 1 hts gX1_whole_X1_negative rfl rfl rfl (by decide +kernel) ⟨Nat.le_of_ble_eq_true rfl, Nat.le_of_ble_eq_true rfl⟩) rfl hl.1 rfl (Nat.le_of_ble_eq_true rfl) dX1_whole_118 (Nat.zero_le _) (Nat.zero_le _) ?_
                      refine lv_if_ne (tgt := 128) hx hb dX1_whole_121 (by decide) (fun h25 => ?_) (fun h25 => ?_)
                      · refine lv_iconst (v := 0) hx hb dX1_whole_128 (by decide) ?_
                        refine bw_csl (rest := []) ⟨hx, hb, hml, hown, hts⟩ (bd_cut l (bg_number (g x2.toNatClampNeg)) (-(bg_power (g x2.toNatClampNeg))) (1 : Int32) (0 : Int32)) (va_cwS 4 hts gX1_whole_X1_cut rfl rfl rfl (by decide +kernel) ⟨Nat.le_of_ble_eq_true rfl, Nat.le_of_ble_eq_true rfl⟩) rfl hl.1 rfl (Nat.le_of_ble_eq_true rfl) dX1_whole_129 (Nat.zero_le _) (Nat.zero_le _) ?_
                        refine lv_lstore (nL := 10) (lv' := [(6, .long (bg_cut (bg_number (g x2.toNatClampNeg)) (-(bg_power (g x2.toNatClampNeg))) (1 : Int32) (0 : Int32))), (4, .long (g x2.toNatClampNeg)), (0, .ref h0), (1, .int x1), (2, .int x2), (3, .int x3)]) hx hb dX1_whole_132 hl (by decide) rfl (fun ls hl => ?_)
                        refine lv_lload hx hb dX1_whole_134 (lv_at hl 0 rfl) ?_
                        refine lv_iconst (v := 0) hx hb dX1_whole_136 (by decide) ?_
                        refine bw_csl (rest := []) ⟨hx, hb, hml, hown, hts⟩ (bd_exact l (bg_cut (bg_number (g x2.toNatClampNeg)) (-(bg_power (g x2.toNatClampNeg))) (1 : Int32) (0 : Int32)) (0 : Int32)) (va_cwS 2 hts gX1_whole_X1_exact rfl rfl rfl (by decide +kernel) ⟨Nat.le_of_ble_eq_true rfl, Nat.le_of_ble_eq_true rfl⟩) rfl hl.1 rfl (Nat.le_of_ble_eq_true rfl) dX1_whole_137 (Nat.zero_le _) (Nat.zero_le _) ?_
                        refine lv_lstore (nL := 10) (lv' := [(8, .long (bg_exact (bg_cut (bg_number (g x2.toNatClampNeg)) (-(bg_power (g x2.toNatClampNeg))) (1 : Int32) (0 : Int32)) (0 : Int32))), (6, .long (bg_cut (bg_number (g x2.toNatClampNeg)) (-(bg_power (g x2.toNatClampNeg))) (1 : Int32) (0 : Int32))), (4, .long (g x2.toNatClampNeg)), (0, .ref h0), (1, .int x1), (2, .int x2), (3, .int x3)]) hx hb dX1_whole_140 hl (by decide) rfl (fun ls hl => ?_)
                        refine lv_aload_n hx hb dX1_whole_142 rfl (lv_at hl 3 rfl) ?_
                        refine lv_iload_n hx hb dX1_whole_143 rfl (lv_at hl 6 rfl) ?_
                        refine lv_if_ne (tgt := 167) hx hb dX1_whole_144 (by decide) (fun h26 => ?_) (fun h26 => ?_)
                        · exact absurd h8 h26
                        refine lv_lload hx hb dX1_whole_147 (lv_at hl 0 rfl) ?_
                        refine lv_lload hx hb dX1_whole_149 (lv_at hl 2 rfl) ?_
                        refine bw_csl (rest := [.long (bg_exact (bg_cut (bg_number (g x2.toNatClampNeg)) (-(bg_power (g x2.toNatClampNeg))) (1 : Int32) (0 : Int32)) (0 : Int32)), .ref h0]) ⟨hx, hb, hml, hown, hts⟩ (bd_plain l (g x2.toNatClampNeg)) (va_cwS 1 hts gX1_whole_X1_plain rfl rfl rfl (by decide +kernel) ⟨Nat.le_of_ble_eq_true rfl, Nat.le_of_ble_eq_true rfl⟩) rfl hl.1 rfl (Nat.le_of_ble_eq_true rfl) dX1_whole_151 (Nat.zero_le _) (Nat.zero_le _) ?_
                        refine bw_lc_eq (tgt := 167) hx hb dX1_whole_154 dX1_whole_155 (by decide) (fun h27 => ?_) (fun h27 => ?_)
                        · refine lv_aload_n hx hb dX1_whole_167 rfl (lv_at hl 3 rfl) ?_
                          refine va_get (D := (dC, dI)) (ci := 1) (v := .int f1) (C := RX1) (T := TX1) (N := 5) hx hb hts hin0 hown hK hP 0 rfl rfl 1 (by decide) (hts (.fieldLink RX1 61 "BinaryFunctionsModel" "flag" "I") (by decide +kernel)) (fun _ h9 => h9) rfl dX1_whole_168 ?_
                          refine va_put (D := (dC, dI)) (ci := 1) (v := .int f1) (ty := .int) (C := RX1) (T := TX1) (N := 5) hx hb hts hin0 tyX1 tyX1_ok nmX1 hown hK hP hD hS 0 rfl rfl 1 (by decide) (hts (.fieldLink RX1 61 "BinaryFunctionsModel" "flag" "I") (by decide +kernel)) (fun _ h9 => h9) rfl (by decide +kernel) rfl rfl (Nat.le_of_ble_eq_true rfl) dX1_whole_171 (fun H locs hP hD hS => ?_)
                          have hP : va_P (dC, dI) vwCl [(h0, .inr (1, [.ref a0, .int f1, .int f2, .long f3, .long f4])), (a0, .inl (cA, 8, .inr (.inl g)))] H := hP
                          have hD : va_D A [(h0, .inr (1, [.ref a0, .int f1, .int f2, .long f3, .long f4])), (a0, .inl (cA, 8, .inr (.inl g)))] := hD
                          refine lv_aload_n hx hb dX1_whole_174 rfl (lv_at hl 3 rfl) ?_
                          refine va_get (D := (dC, dI)) (ci := 1) (v := .ref a0) (C := RX1) (T := TX1) (N := 5) hx hb hts hin0 hown hK hP 0 rfl rfl 0 (by decide) (hts (.fieldLink RX1 7 "BinaryFunctionsModel" "register" "[J") (by decide +kernel)) (fun _ h9 => h9) rfl dX1_whole_175 ?_
                          refine lv_iload_n hx hb dX1_whole_178 rfl (lv_at hl 4 rfl) ?_
                          refine lv_lload hx hb dX1_whole_179 (lv_at hl 0 rfl) ?_
                          refine lv_lload hx hb dX1_whole_181 (lv_at hl 2 rfl) ?_
                          refine bw_csi (rest := [.long (bg_exact (bg_cut (bg_number (g x2.toNatClampNeg)) (-(bg_power (g x2.toNatClampNeg))) (1 : Int32) (0 : Int32)) (0 : Int32)), .int x1, .ref a0]) ⟨hx, hb, hml, hown, hts⟩ (bd_negative l (g x2.toNatClampNeg)) (va_cwS 1 hts gX1_whole_X1_negative rfl rfl rfl (by decide +kernel) ⟨Nat.le_of_ble_eq_true rfl, Nat.le_of_ble_eq_true rfl⟩) rfl hl.1 rfl (Nat.le_of_ble_eq_true rfl) dX1_whole_183 (Nat.zero_le _) (Nat.zero_le _) ?_
                          refine bw_csl (rest := [.int x1, .ref a0]) ⟨hx, hb, hml, hown, hts⟩ (bd_signed l (bg_exact (bg_cut (bg_number (g x2.toNatClampNeg)) (-(bg_power (g x2.toNatClampNeg))) (1 : Int32) (0 : Int32)) (0 : Int32)) (bg_negative (g x2.toNatClampNeg))) (va_cwS 2 hts gX1_whole_X1_signed rfl rfl rfl (by decide +kernel) ⟨Nat.le_of_ble_eq_true rfl, Nat.le_of_ble_eq_true rfl⟩) rfl hl.1 rfl (Nat.le_of_ble_eq_true rfl) dX1_whole_186 (Nat.zero_le _) (Nat.zero_le _) ?_
                          refine va_last hx hb hK hP hD hS 1 0 rfl rfl (bm_reg1 h1) dX1_whole_189 (fun H locs hP hD hS => ?_)
                          have hP : va_P (dC, dI) vwCl [(h0, .inr (1, [.ref a0, .int f1, .int f2, .long f3, .long f4])), (a0, .inl (cA, 8, .inr (.inl (vp_updL g x1.toNatClampNeg (bg_signed (bg_exact (bg_cut (bg_number (g x2.toNatClampNeg)) (-(bg_power (g x2.toNatClampNeg))) (1 : Int32) (0 : Int32)) (0 : Int32)) (bg_negative (g x2.toNatClampNeg)))))))] H := hP
                          have hD : va_D A [(h0, .inr (1, [.ref a0, .int f1, .int f2, .long f3, .long f4])), (a0, .inl (cA, 8, .inr (.inl (vp_updL g x1.toNatClampNeg (bg_signed (bg_exact (bg_cut (bg_number (g x2.toNatClampNeg)) (-(bg_power (g x2.toNatClampNeg))) (1 : Int32) (0 : Int32)) (0 : Int32)) (bg_negative (g x2.toNatClampNeg)))))))] := hD
                          refine lv_iconst (v := 1) hx hb dX1_whole_190 (by decide) ?_
                          exact W.zret (v := (1 : Int32)) hx hb hr rfl (fun t ht hW => ⟨⟨(1 : Int32), (f1, f2, f3, f4, vp_updL g x1.toNatClampNeg (bg_signed (bg_exact (bg_cut (bg_number (g x2.toNatClampNeg)) (-(bg_power (g x2.toNatClampNeg))) (1 : Int32) (0 : Int32)) (0 : Int32)) (bg_negative (g x2.toNatClampNeg)))), rfl, by rw [bg_whole, if_neg h1, if_neg h2, if_neg h3, if_pos h4, if_pos h5, if_pos h6, if_pos h7, if_pos h8, if_neg h21, if_pos h22, if_neg h25, if_pos h27], by rw [ht]; exact hP, va_K.moved hW.alike hK, hD⟩, hS.F ht⟩) hS.2.2 dX1_whole_191
                        · refine lv_aload_n hx hb dX1_whole_158 rfl (lv_at hl 3 rfl) ?_
                          refine va_get (D := (dC, dI)) (ci := 1) (v := .int f1) (C := RX1) (T := TX1) (N := 5) hx hb hts hin0 hown hK hP 0 rfl rfl 1 (by decide) (hts (.fieldLink RX1 61 "BinaryFunctionsModel" "flag" "I") (by decide +kernel)) (fun _ h9 => h9) rfl dX1_whole_159 ?_
                          refine lv_iconst (v := 2) hx hb dX1_whole_162 (by decide) ?_
                          refine lv_ior hx hb dX1_whole_163 ?_
                          refine lv_goto (tgt := 171) hx hb dX1_whole_164 (by decide) ?_
                          refine va_put (D := (dC, dI)) (ci := 1) (v := .int (f1 ||| (2 : Int32))) (ty := .int) (C := RX1) (T := TX1) (N := 5) hx hb hts hin0 tyX1 tyX1_ok nmX1 hown hK hP hD hS 0 rfl rfl 1 (by decide) (hts (.fieldLink RX1 61 "BinaryFunctionsModel" "flag" "I") (by decide +kernel)) (fun _ h9 => h9) rfl (by decide +kernel) rfl rfl (Nat.le_of_ble_eq_true rfl) dX1_whole_171 (fun H locs hP hD hS => ?_)
                          have hP : va_P (dC, dI) vwCl [(h0, .inr (1, [.ref a0, .int (f1 ||| (2 : Int32)), .int f2, .long f3, .long f4])), (a0, .inl (cA, 8, .inr (.inl g)))] H := hP
                          have hD : va_D A [(h0, .inr (1, [.ref a0, .int (f1 ||| (2 : Int32)), .int f2, .long f3, .long f4])), (a0, .inl (cA, 8, .inr (.inl g)))] := hD
                          refine lv_aload_n hx hb dX1_whole_174 rfl (lv_at hl 3 rfl) ?_
                          refine va_get (D := (dC, dI)) (ci := 1) (v := .ref a0) (C := RX1) (T := TX1) (N := 5) hx hb hts hin0 hown hK hP 0 rfl rfl 0 (by decide) (hts (.fieldLink RX1 7 "BinaryFunctionsModel" "register" "[J") (by decide +kernel)) (fun _ h9 => h9) rfl dX1_whole_175 ?_
                          refine lv_iload_n hx hb dX1_whole_178 rfl (lv_at hl 4 rfl) ?_
                          refine lv_lload hx hb dX1_whole_179 (lv_at hl 0 rfl) ?_
                          refine lv_lload hx hb dX1_whole_181 (lv_at hl 2 rfl) ?_
                          refine bw_csi (rest := [.long (bg_exact (bg_cut (bg_number (g x2.toNatClampNeg)) (-(bg_power (g x2.toNatClampNeg))) (1 : Int32) (0 : Int32)) (0 : Int32)), .int x1, .ref a0]) ⟨hx, hb, hml, hown, hts⟩ (bd_negative l (g x2.toNatClampNeg)) (va_cwS 1 hts gX1_whole_X1_negative rfl rfl rfl (by decide +kernel) ⟨Nat.le_of_ble_eq_true rfl, Nat.le_of_ble_eq_true rfl⟩) rfl hl.1 rfl (Nat.le_of_ble_eq_true rfl) dX1_whole_183 (Nat.zero_le _) (Nat.zero_le _) ?_
                          refine bw_csl (rest := [.int x1, .ref a0]) ⟨hx, hb, hml, hown, hts⟩ (bd_signed l (bg_exact (bg_cut (bg_number (g x2.toNatClampNeg)) (-(bg_power (g x2.toNatClampNeg))) (1 : Int32) (0 : Int32)) (0 : Int32)) (bg_negative (g x2.toNatClampNeg))) (va_cwS 2 hts gX1_whole_X1_signed rfl rfl rfl (by decide +kernel) ⟨Nat.le_of_ble_eq_true rfl, Nat.le_of_ble_eq_true rfl⟩) rfl hl.1 rfl (Nat.le_of_ble_eq_true rfl) dX1_whole_186 (Nat.zero_le _) (Nat.zero_le _) ?_
                          refine va_last hx hb hK hP hD hS 1 0 rfl rfl (bm_reg1 h1) dX1_whole_189 (fun H locs hP hD hS => ?_)
                          have hP : va_P (dC, dI) vwCl [(h0, .inr (1, [.ref a0, .int (f1 ||| (2 : Int32)), .int f2, .long f3, .long f4])), (a0, .inl (cA, 8, .inr (.inl (vp_updL g x1.toNatClampNeg (bg_signed (bg_exact (bg_cut (bg_number (g x2.toNatClampNeg)) (-(bg_power (g x2.toNatClampNeg))) (1 : Int32) (0 : Int32)) (0 : Int32)) (bg_negative (g x2.toNatClampNeg)))))))] H := hP
                          have hD : va_D A [(h0, .inr (1, [.ref a0, .int (f1 ||| (2 : Int32)), .int f2, .long f3, .long f4])), (a0, .inl (cA, 8, .inr (.inl (vp_updL g x1.toNatClampNeg (bg_signed (bg_exact (bg_cut (bg_number (g x2.toNatClampNeg)) (-(bg_power (g x2.toNatClampNeg))) (1 : Int32) (0 : Int32)) (0 : Int32)) (bg_negative (g x2.toNatClampNeg)))))))] := hD
                          refine lv_iconst (v := 1) hx hb dX1_whole_190 (by decide) ?_
                          exact W.zret (v := (1 : Int32)) hx hb hr rfl (fun t ht hW => ⟨⟨(1 : Int32), (f1 ||| (2 : Int32), f2, f3, f4, vp_updL g x1.toNatClampNeg (bg_signed (bg_exact (bg_cut (bg_number (g x2.toNatClampNeg)) (-(bg_power (g x2.toNatClampNeg))) (1 : Int32) (0 : Int32)) (0 : Int32)) (bg_negative (g x2.toNatClampNeg)))), rfl, by rw [bg_whole, if_neg h1, if_neg h2, if_neg h3, if_pos h4, if_pos h5, if_pos h6, if_pos h7, if_pos h8, if_neg h21, if_pos h22, if_neg h25, if_neg h27], by rw [ht]; exact hP, va_K.moved hW.alike hK, hD⟩, hS.F ht⟩) hS.2.2 dX1_whole_191
                      · refine lv_iconst (v := 1) hx hb dX1_whole_124 (by decide) ?_
                        refine lv_goto (tgt := 129) hx hb dX1_whole_125 (by decide) ?_
                        refine bw_csl (rest := []) ⟨hx, hb, hml, hown, hts⟩ (bd_cut l (bg_number (g x2.toNatClampNeg)) (-(bg_power (g x2.toNatClampNeg))) (1 : Int32) (1 : Int32)) (va_cwS 4 hts gX1_whole_X1_cut rfl rfl rfl (by decide +kernel) ⟨Nat.le_of_ble_eq_true rfl, Nat.le_of_ble_eq_true rfl⟩) rfl hl.1 rfl (Nat.le_of_ble_eq_true rfl) dX1_whole_129 (Nat.zero_le _) (Nat.zero_le _) ?_
                        refine lv_lstore (nL := 10) (lv' := [(6, .long (bg_cut (bg_number (g x2.toNatClampNeg)) (-(bg_power (g x2.toNatClampNeg))) (1 : Int32) (1 : Int32))), (4, .long (g x2.toNatClampNeg)), (0, .ref h0), (1, .int x1), (2, .int x2), (3, .int x3)]) hx hb dX1_whole_132 hl (by decide) rfl (fun ls hl => ?_)
                        refine lv_lload hx hb dX1_whole_134 (lv_at hl 0 rfl) ?_
                        refine lv_iconst (v := 0) hx hb dX1_whole_136 (by decide) ?_
                        refine bw_csl (rest := []) ⟨hx, hb, hml, hown, hts⟩ (bd_exact l (bg_cut (bg_number (g x2.toNatClampNeg)) (-(bg_power (g x2.toNatClampNeg))) (1 : Int32) (1 : Int32)) (0 : Int32)) (va_cwS 2 hts gX1_whole_X1_exact rfl rfl rfl (by decide +kernel) ⟨Nat.le_of_ble_eq_true rfl, Nat.le_of_ble_eq_true rfl⟩) rfl hl.1 rfl (Nat.le_of_ble_eq_true rfl) dX1_whole_137 (Nat.zero_le _) (Nat.zero_le _) ?_
                        refine lv_lstore (nL := 10) (lv' := [(8, .long (bg_exact (bg_cut (bg_number (g x2.toNatClampNeg)) (-(bg_power (g x2.toNatClampNeg))) (1 : Int32) (1 : Int32)) (0 : Int32))), (6, .long (bg_cut (bg_number (g x2.toNatClampNeg)) (-(bg_power (g x2.toNatClampNeg))) (1 : Int32) (1 : Int32))), (4, .long (g x2.toNatClampNeg)), (0, .ref h0), (1, .int x1), (2, .int x2), (3, .int x3)]) hx hb dX1_whole_140 hl (by decide) rfl (fun ls hl => ?_)
                        refine lv_aload_n hx hb dX1_whole_142 rfl (lv_at hl 3 rfl) ?_
                        refine lv_iload_n hx hb dX1_whole_143 rfl (lv_at hl 6 rfl) ?_
                        refine lv_if_ne (tgt := 167) hx hb dX1_whole_144 (by decide) (fun h28 => ?_) (fun h28 => ?_)
                        · exact absurd h8 h28
                        refine lv_lload hx hb dX1_whole_147 (lv_at hl 0 rfl) ?_
                        refine lv_lload hx hb dX1_whole_149 (lv_at hl 2 rfl) ?_
                        refine bw_csl (rest := [.long (bg_exact (bg_cut (bg_number (g x2.toNatClampNeg)) (-(bg_power (g x2.toNatClampNeg))) (1 : Int32) (1 : Int32)) (0 : Int32)), .ref h0]) ⟨hx, hb, hml, hown, hts⟩ (bd_plain l (g x2.toNatClampNeg)) (va_cwS 1 hts gX1_whole_X1_plain rfl rfl rfl (by decide +kernel) ⟨Nat.le_of_ble_eq_true rfl, Nat.le_of_ble_eq_true rfl⟩) rfl hl.1 rfl (Nat.le_of_ble_eq_true rfl) dX1_whole_151 (Nat.zero_le _) (Nat.zero_le _) ?_
                        refine bw_lc_eq (tgt := 167) hx hb dX1_whole_154 dX1_whole_155 (by decide) (fun h29 => ?_) (fun h29 => ?_)
                        · refine lv_aload_n hx hb dX1_whole_167 rfl (lv_at hl 3 rfl) ?_
                          refine va_get (D := (dC, dI)) (ci := 1) (v := .int f1) (C := RX1) (T := TX1) (N := 5) hx hb hts hin0 hown hK hP 0 rfl rfl 1 (by decide) (hts (.fieldLink RX1 61 "BinaryFunctionsModel" "flag" "I") (by decide +kernel)) (fun _ h9 => h9) rfl dX1_whole_168 ?_
                          refine va_put (D := (dC, dI)) (ci := 1) (v := .int f1) (ty := .int) (C := RX1) (T := TX1) (N := 5) hx hb hts hin0 tyX1 tyX1_ok nmX1 hown hK hP hD hS 0 rfl rfl 1 (by decide) (hts (.fieldLink RX1 61 "BinaryFunctionsModel" "flag" "I") (by decide +kernel)) (fun _ h9 => h9) rfl (by decide +kernel) rfl rfl (Nat.le_of_ble_eq_true rfl) dX1_whole_171 (fun H locs hP hD hS => ?_)
                          have hP : va_P (dC, dI) vwCl [(h0, .inr (1, [.ref a0, .int f1, .int f2, .long f3, .long f4])), (a0, .inl (cA, 8, .inr (.inl g)))] H := hP
                          have hD : va_D A [(h0, .inr (1, [.ref a0, .int f1, .int f2, .long f3, .long f4])), (a0, .inl (cA, 8, .inr (.inl g)))] := hD
                          refine lv_aload_n hx hb dX1_whole_174 rfl (lv_at hl 3 rfl) ?_
                          refine va_get (D := (dC, dI)) (ci := 1) (v := .ref a0) (C := RX1) (T := TX1) (N := 5) hx hb hts hin0 hown hK hP 0 rfl rfl 0 (by decide) (hts (.fieldLink RX1 7 "BinaryFunctionsModel" "register" "[J") (by decide +kernel)) (fun _ h9 => h9) rfl dX1_whole_175 ?_
                          refine lv_iload_n hx hb dX1_whole_178 rfl (lv_at hl 4 rfl) ?_
                          refine lv_lload hx hb dX1_whole_179 (lv_at hl 0 rfl) ?_
                          refine lv_lload hx hb dX1_whole_181 (lv_at hl 2 rfl) ?_
                          refine bw_csi (rest := [.long (bg_exact (bg_cut (bg_number (g x2.toNatClampNeg)) (-(bg_power (g x2.toNatClampNeg))) (1 : Int32) (1 : Int32)) (0 : Int32)), .int x1, .ref a0]) ⟨hx, hb, hml, hown, hts⟩ (bd_negative l (g x2.toNatClampNeg)) (va_cwS 1 hts gX1_whole_X1_negative rfl rfl rfl (by decide +kernel) ⟨Nat.le_of_ble_eq_true rfl, Nat.le_of_ble_eq_true rfl⟩) rfl hl.1 rfl (Nat.le_of_ble_eq_true rfl) dX1_whole_183 (Nat.zero_le _) (Nat.zero_le _) ?_
                          refine bw_csl (rest := [.int x1, .ref a0]) ⟨hx, hb, hml, hown, hts⟩ (bd_signed l (bg_exact (bg_cut (bg_number (g x2.toNatClampNeg)) (-(bg_power (g x2.toNatClampNeg))) (1 : Int32) (1 : Int32)) (0 : Int32)) (bg_negative (g x2.toNatClampNeg))) (va_cwS 2 hts gX1_whole_X1_signed rfl rfl rfl (by decide +kernel) ⟨Nat.le_of_ble_eq_true rfl, Nat.le_of_ble_eq_true rfl⟩) rfl hl.1 rfl (Nat.le_of_ble_eq_true rfl) dX1_whole_186 (Nat.zero_le _) (Nat.zero_le _) ?_
                          refine va_last hx hb hK hP hD hS 1 0 rfl rfl (bm_reg1 h1) dX1_whole_189 (fun H locs hP hD hS => ?_)
                          have hP : va_P (dC, dI) vwCl [(h0, .inr (1, [.ref a0, .int f1, .int f2, .long f3, .long f4])), (a0, .inl (cA, 8, .inr (.inl (vp_updL g x1.toNatClampNeg (bg_signed (bg_exact (bg_cut (bg_number (g x2.toNatClampNeg)) (-(bg_power (g x2.toNatClampNeg))) (1 : Int32) (1 : Int32)) (0 : Int32)) (bg_negative (g x2.toNatClampNeg)))))))] H := hP
                          have hD : va_D A [(h0, .inr (1, [.ref a0, .int f1, .int f2, .long f3, .long f4])), (a0, .inl (cA, 8, .inr (.inl (vp_updL g x1.toNatClampNeg (bg_signed (bg_exact (bg_cut (bg_number (g x2.toNatClampNeg)) (-(bg_power (g x2.toNatClampNeg))) (1 : Int32) (1 : Int32)) (0 : Int32)) (bg_negative (g x2.toNatClampNeg)))))))] := hD
                          refine lv_iconst (v := 1) hx hb dX1_whole_190 (by decide) ?_
                          exact W.zret (v := (1 : Int32)) hx hb hr rfl (fun t ht hW => ⟨⟨(1 : Int32), (f1, f2, f3, f4, vp_updL g x1.toNatClampNeg (bg_signed (bg_exact (bg_cut (bg_number (g x2.toNatClampNeg)) (-(bg_power (g x2.toNatClampNeg))) (1 : Int32) (1 : Int32)) (0 : Int32)) (bg_negative (g x2.toNatClampNeg)))), rfl, by rw [bg_whole, if_neg h1, if_neg h2, if_neg h3, if_pos h4, if_pos h5, if_pos h6, if_pos h7, if_pos h8, if_neg h21, if_pos h22, if_pos h25, if_pos h29], by rw [ht]; exact hP, va_K.moved hW.alike hK, hD⟩, hS.F ht⟩) hS.2.2 dX1_whole_191
                        · refine lv_aload_n hx hb dX1_whole_158 rfl (lv_at hl 3 rfl) ?_
                          refine va_get (D := (dC, dI)) (ci := 1) (v := .int f1) (C := RX1) (T := TX1) (N := 5) hx hb hts hin0 hown hK hP 0 rfl rfl 1 (by decide) (hts (.fieldLink RX1 61 "BinaryFunctionsModel" "flag" "I") (by decide +kernel)) (fun _ h9 => h9) rfl dX1_whole_159 ?_
                          refine lv_iconst (v := 2) hx hb dX1_whole_162 (by decide) ?_
                          refine lv_ior hx hb dX1_whole_163 ?_
                          refine lv_goto (tgt := 171) hx hb dX1_whole_164 (by decide) ?_
                          refine va_put (D := (dC, dI)) (ci := 1) (v := .int (f1 ||| (2 : Int32))) (ty := .int) (C := RX1) (T := TX1) (N := 5) hx hb hts hin0 tyX1 tyX1_ok nmX1 hown hK hP hD hS 0 rfl rfl 1 (by decide) (hts (.fieldLink RX1 61 "BinaryFunctionsModel" "flag" "I") (by decide +kernel)) (fun _ h9 => h9) rfl (by decide +kernel) rfl rfl (Nat.le_of_ble_eq_true rfl) dX1_whole_171 (fun H locs hP hD hS => ?_)
                          have hP : va_P (dC, dI) vwCl [(h0, .inr (1, [.ref a0, .int (f1 ||| (2 : Int32)), .int f2, .long f3, .long f4])), (a0, .inl (cA, 8, .inr (.inl g)))] H := hP
                          have hD : va_D A [(h0, .inr (1, [.ref a0, .int (f1 ||| (2 : Int32)), .int f2, .long f3, .long f4])), (a0, .inl (cA, 8, .inr (.inl g)))] := hD
                          refine lv_aload_n hx hb dX1_whole_174 rfl (lv_at hl 3 rfl) ?_
                          refine va_get (D := (dC, dI)) (ci := 1) (v := .ref a0) (C := RX1) (T := TX1) (N := 5) hx hb hts hin0 hown hK hP 0 rfl rfl 0 (by decide) (hts (.fieldLink RX1 7 "BinaryFunctionsModel" "register" "[J") (by decide +kernel)) (fun _ h9 => h9) rfl dX1_whole_175 ?_
                          refine lv_iload_n hx hb dX1_whole_178 rfl (lv_at hl 4 rfl) ?_
                          refine lv_lload hx hb dX1_whole_179 (lv_at hl 0 rfl) ?_
                          refine lv_lload hx hb dX1_whole_181 (lv_at hl 2 rfl) ?_
                          refine bw_csi (rest := [.long (bg_exact (bg_cut (bg_number (g x2.toNatClampNeg)) (-(bg_power (g x2.toNatClampNeg))) (1 : Int32) (1 : Int32)) (0 : Int32)), .int x1, .ref a0]) ⟨hx, hb, hml, hown, hts⟩ (bd_negative l (g x2.toNatClampNeg)) (va_cwS 1 hts gX1_whole_X1_negative rfl rfl rfl (by decide +kernel) ⟨Nat.le_of_ble_eq_true rfl, Nat.le_of_ble_eq_true rfl⟩) rfl hl.1 rfl (Nat.le_of_ble_eq_true rfl) dX1_whole_183 (Nat.zero_le _) (Nat.zero_le _) ?_
                          refine bw_csl (rest := [.int x1, .ref a0]) ⟨hx, hb, hml, hown, hts⟩ (bd_signed l (bg_exact (bg_cut (bg_number (g x2.toNatClampNeg)) (-(bg_power (g x2.toNatClampNeg))) (1 : Int32) (1 : Int32)) (0 : Int32)) (bg_negative (g x2.toNatClampNeg))) (va_cwS 2 hts gX1_whole_X1_signed rfl rfl rfl (by decide +kernel) ⟨Nat.le_of_ble_eq_true rfl, Nat.le_of_ble_eq_true rfl⟩) rfl hl.1 rfl (Nat.le_of_ble_eq_true rfl) dX1_whole_186 (Nat.zero_le _) (Nat.zero_le _) ?_
                          refine va_last hx hb hK hP hD hS 1 0 rfl rfl (bm_reg1 h1) dX1_whole_189 (fun H locs hP hD hS => ?_)
                          have hP : va_P (dC, dI) vwCl [(h0, .inr (1, [.ref a0, .int (f1 ||| (2 : Int32)), .int f2, .long f3, .long f4])), (a0, .inl (cA, 8, .inr (.inl (vp_updL g x1.toNatClampNeg (bg_signed (bg_exact (bg_cut (bg_number (g x2.toNatClampNeg)) (-(bg_power (g x2.toNatClampNeg))) (1 : Int32) (1 : Int32)) (0 : Int32)) (bg_negative (g x2.toNatClampNeg)))))))] H := hP
                          have hD : va_D A [(h0, .inr (1, [.ref a0, .int (f1 ||| (2 : Int32)), .int f2, .long f3, .long f4])), (a0, .inl (cA, 8, .inr (.inl (vp_updL g x1.toNatClampNeg (bg_signed (bg_exact (bg_cut (bg_number (g x2.toNatClampNeg)) (-(bg_power (g x2.toNatClampNeg))) (1 : Int32) (1 : Int32)) (0 : Int32)) (bg_negative (g x2.toNatClampNeg)))))))] := hD
                          refine lv_iconst (v := 1) hx hb dX1_whole_190 (by decide) ?_
                          exact W.zret (v := (1 : Int32)) hx hb hr rfl (fun t ht hW => ⟨⟨(1 : Int32), (f1 ||| (2 : Int32), f2, f3, f4, vp_updL g x1.toNatClampNeg (bg_signed (bg_exact (bg_cut (bg_number (g x2.toNatClampNeg)) (-(bg_power (g x2.toNatClampNeg))) (1 : Int32) (1 : Int32)) (0 : Int32)) (bg_negative (g x2.toNatClampNeg)))), rfl, by rw [bg_whole, if_neg h1, if_neg h2, if_neg h3, if_pos h4, if_pos h5, if_pos h6, if_pos h7, if_pos h8, if_neg h21, if_pos h22, if_pos h25, if_neg h29], by rw [ht]; exact hP, va_K.moved hW.alike hK, hD⟩, hS.F ht⟩) hS.2.2 dX1_whole_191
                  · refine lv_lload hx hb dX1_whole_103 (lv_at hl 0 rfl) ?_
                    refine bw_csi (rest := [.int (1 : Int32), .int (-(bg_power (g x2.toNatClampNeg))), .long (bg_number (g x2.toNatClampNeg))]) ⟨hx, hb, hml, hown, hts⟩ (bd_negative l (g x2.toNatClampNeg)) (va_cwS 1 hts gX1_whole_X1_negative rfl rfl rfl (by decide +kernel) ⟨Nat.le_of_ble_eq_true rfl, Nat.le_of_ble_eq_true rfl⟩) rfl hl.1 rfl (Nat.le_of_ble_eq_true rfl) dX1_whole_105 (Nat.zero_le _) (Nat.zero_le _) ?_
                    refine lv_if_ne (tgt := 124) hx hb dX1_whole_108 (by decide) (fun h30 => ?_) (fun h30 => ?_)
                    · refine lv_iconst (v := 1) hx hb dX1_whole_124 (by decide) ?_
                      refine lv_goto (tgt := 129) hx hb dX1_whole_125 (by decide) ?_
                      refine bw_csl (rest := []) ⟨hx, hb, hml, hown, hts⟩ (bd_cut l (bg_number (g x2.toNatClampNeg)) (-(bg_power (g x2.toNatClampNeg))) (1 : Int32) (1 : Int32)) (va_cwS 4 hts gX1_whole_X1_cut rfl rfl rfl (by decide +kernel) ⟨Nat.le_of_ble_eq_true rfl, Nat.le_of_ble_eq_true rfl⟩) rfl hl.1 rfl (Nat.le_of_ble_eq_true rfl) dX1_whole_129 (Nat.zero_le _) (Nat.zero_le _) ?_
                      refine lv_lstore (nL := 10) (lv' := [(6, .long (bg_cut (bg_number (g x2.toNatClampNeg)) (-(bg_power (g x2.toNatClampNeg))) (1 : Int32) (1 : Int32))), (4, .long (g x2.toNatClampNeg)), (0, .ref h0), (1, .int x1), (2, .int x2), (3, .int x3)]) hx hb dX1_whole_132 hl (by decide) rfl (fun ls hl => ?_)
                      refine lv_lload hx hb dX1_whole_134 (lv_at hl 0 rfl) ?_
                      refine lv_iconst (v := 0) hx hb dX1_whole_136 (by decide) ?_
                      refine bw_csl (rest := []) ⟨hx, hb, hml, hown, hts⟩ (bd_exact l (bg_cut (bg_number (g x2.toNatClampNeg)) (-(bg_power (g x2.toNatClampNeg))) (1 : Int32) (1 : Int32)) (0 : Int32)) (va_cwS 2 hts gX1_whole_X1_exact rfl rfl rfl (by decide +kernel) ⟨Nat.le_of_ble_eq_true rfl, Nat.le_of_ble_eq_true rfl⟩) rfl hl.1 rfl (Nat.le_of_ble_eq_true rfl) dX1_whole_137 (Nat.zero_le _) (Nat.zero_le _) ?_
                      refine lv_lstore (nL := 10) (lv' := [(8, .long (bg_exact (bg_cut (bg_number (g x2.toNatClampNeg)) (-(bg_power (g x2.toNatClampNeg))) (1 : Int32) (1 : Int32)) (0 : Int32))), (6, .long (bg_cut (bg_number (g x2.toNatClampNeg)) (-(bg_power (g x2.toNatClampNeg))) (1 : Int32) (1 : Int32))), (4, .long (g x2.toNatClampNeg)), (0, .ref h0), (1, .int x1), (2, .int x2), (3, .int x3)]) hx hb dX1_whole_140 hl (by decide) rfl (fun ls hl => ?_)
                      refine lv_aload_n hx hb dX1_whole_142 rfl (lv_at hl 3 rfl) ?_
                      refine lv_iload_n hx hb dX1_whole_143 rfl (lv_at hl 6 rfl) ?_
                      refine lv_if_ne (tgt := 167) hx hb dX1_whole_144 (by decide) (fun h31 => ?_) (fun h31 => ?_)
                      · exact absurd h8 h31
                      refine lv_lload hx hb dX1_whole_147 (lv_at hl 0 rfl) ?_
                      refine lv_lload hx hb dX1_whole_149 (lv_at hl 2 rfl) ?_
                      refine bw_csl (rest := [.long (bg_exact (bg_cut (bg_number (g x2.toNatClampNeg)) (-(bg_power (g x2.toNatClampNeg))) (1 : Int32) (1 : Int32)) (0 : Int32)), .ref h0]) ⟨hx, hb, hml, hown, hts⟩ (bd_plain l (g x2.toNatClampNeg)) (va_cwS 1 hts gX1_whole_X1_plain rfl rfl rfl (by decide +kernel) ⟨Nat.le_of_ble_eq_true rfl, Nat.le_of_ble_eq_true rfl⟩) rfl hl.1 rfl (Nat.le_of_ble_eq_true rfl) dX1_whole_151 (Nat.zero_le _) (Nat.zero_le _) ?_
                      refine bw_lc_eq (tgt := 167) hx hb dX1_whole_154 dX1_whole_155 (by decide) (fun h32 => ?_) (fun h32 => ?_)
                      · refine lv_aload_n hx hb dX1_whole_167 rfl (lv_at hl 3 rfl) ?_
                        refine va_get (D := (dC, dI)) (ci := 1) (v := .int f1) (C := RX1) (T := TX1) (N := 5) hx hb hts hin0 hown hK hP 0 rfl rfl 1 (by decide) (hts (.fieldLink RX1 61 "BinaryFunctionsModel" "flag" "I") (by decide +kernel)) (fun _ h9 => h9) rfl dX1_whole_168 ?_
                        refine va_put (D := (dC, dI)) (ci := 1) (v := .int f1) (ty := .int) (C := RX1) (T := TX1) (N := 5) hx hb hts hin0 tyX1 tyX1_ok nmX1 hown hK hP hD hS 0 rfl rfl 1 (by decide) (hts (.fieldLink RX1 61 "BinaryFunctionsModel" "flag" "I") (by decide +kernel)) (fun _ h9 => h9) rfl (by decide +kernel) rfl rfl (Nat.le_of_ble_eq_true rfl) dX1_whole_171 (fun H locs hP hD hS => ?_)
                        have hP : va_P (dC, dI) vwCl [(h0, .inr (1, [.ref a0, .int f1, .int f2, .long f3, .long f4])), (a0, .inl (cA, 8, .inr (.inl g)))] H := hP
                        have hD : va_D A [(h0, .inr (1, [.ref a0, .int f1, .int f2, .long f3, .long f4])), (a0, .inl (cA, 8, .inr (.inl g)))] := hD
                        refine lv_aload_n hx hb dX1_whole_174 rfl (lv_at hl 3 rfl) ?_
                        refine va_get (D := (dC, dI)) (ci := 1) (v := .ref a0) (C := RX1) (T := TX1) (N := 5) hx hb hts hin0 hown hK hP 0 rfl rfl 0 (by decide) (hts (.fieldLink RX1 7 "BinaryFunctionsModel" "register" "[J") (by decide +kernel)) (fun _ h9 => h9) rfl dX1_whole_175 ?_
                        refine lv_iload_n hx hb dX1_whole_178 rfl (lv_at hl 4 rfl) ?_
                        refine lv_lload hx hb dX1_whole_179 (lv_at hl 0 rfl) ?_
                        refine lv_lload hx hb dX1_whole_181 (lv_at hl 2 rfl) ?_
                        refine bw_csi (rest := [.long (bg_exact (bg_cut (bg_number (g x2.toNatClampNeg)) (-(bg_power (g x2.toNatClampNeg))) (1 : Int32) (1 : Int32)) (0 : Int32)), .int x1, .ref a0]) ⟨hx, hb, hml, hown, hts⟩ (bd_negative l (g x2.toNatClampNeg)) (va_cwS 1 hts gX1_whole_X1_negative rfl rfl rfl (by decide +kernel) ⟨Nat.le_of_ble_eq_true rfl, Nat.le_of_ble_eq_true rfl⟩) rfl hl.1 rfl (Nat.le_of_ble_eq_true rfl) dX1_whole_183 (Nat.zero_le _) (Nat.zero_le _) ?_
                        refine bw_csl (rest := [.int x1, .ref a0]) ⟨hx, hb, hml, hown, hts⟩ (bd_signed l (bg_exact (bg_cut (bg_number (g x2.toNatClampNeg)) (-(bg_power (g x2.toNatClampNeg))) (1 : Int32) (1 : Int32)) (0 : Int32)) (bg_negative (g x2.toNatClampNeg))) (va_cwS 2 hts gX1_whole_X1_signed rfl rfl rfl (by decide +kernel) ⟨Nat.le_of_ble_eq_true rfl, Nat.le_of_ble_eq_true rfl⟩) rfl hl.1 rfl (Nat.le_of_ble_eq_true rfl) dX1_whole_186 (Nat.zero_le _) (Nat.zero_le _) ?_
                        refine va_last hx hb hK hP hD hS 1 0 rfl rfl (bm_reg1 h1) dX1_whole_189 (fun H locs hP hD hS => ?_)
                        have hP : va_P (dC, dI) vwCl [(h0, .inr (1, [.ref a0, .int f1, .int f2, .long f3, .long f4])), (a0, .inl (cA, 8, .inr (.inl (vp_updL g x1.toNatClampNeg (bg_signed (bg_exact (bg_cut (bg_number (g x2.toNatClampNeg)) (-(bg_power (g x2.toNatClampNeg))) (1 : Int32) (1 : Int32)) (0 : Int32)) (bg_negative (g x2.toNatClampNeg)))))))] H := hP
                        have hD : va_D A [(h0, .inr (1, [.ref a0, .int f1, .int f2, .long f3, .long f4])), (a0, .inl (cA, 8, .inr (.inl (vp_updL g x1.toNatClampNeg (bg_signed (bg_exact (bg_cut (bg_number (g x2.toNatClampNeg)) (-(bg_power (g x2.toNatClampNeg))) (1 : Int32) (1 : Int32)) (0 : Int32)) (bg_negative (g x2.toNatClampNeg)))))))] := hD
                        refine lv_iconst (v := 1) hx hb dX1_whole_190 (by decide) ?_
                        exact W.zret (v := (1 : Int32)) hx hb hr rfl (fun t ht hW => ⟨⟨(1 : Int32), (f1, f2, f3, f4, vp_updL g x1.toNatClampNeg (bg_signed (bg_exact (bg_cut (bg_number (g x2.toNatClampNeg)) (-(bg_power (g x2.toNatClampNeg))) (1 : Int32) (1 : Int32)) (0 : Int32)) (bg_negative (g x2.toNatClampNeg)))), rfl, by rw [bg_whole, if_neg h1, if_neg h2, if_neg h3, if_pos h4, if_pos h5, if_pos h6, if_pos h7, if_pos h8, if_pos h21, if_neg h30, if_pos h32], by rw [ht]; exact hP, va_K.moved hW.alike hK, hD⟩, hS.F ht⟩) hS.2.2 dX1_whole_191
                      · refine lv_aload_n hx hb dX1_whole_158 rfl (lv_at hl 3 rfl) ?_
                        refine va_get (D := (dC, dI)) (ci := 1) (v := .int f1) (C := RX1) (T := TX1) (N := 5) hx hb hts hin0 hown hK hP 0 rfl rfl 1 (by decide) (hts (.fieldLink RX1 61 "BinaryFunctionsModel" "flag" "I") (by decide +kernel)) (fun _ h9 => h9) rfl dX1_whole_159 ?_
                        refine lv_iconst (v := 2) hx hb dX1_whole_162 (by decide) ?_
                        refine lv_ior hx hb dX1_whole_163 ?_
                        refine lv_goto (tgt := 171) hx hb dX1_whole_164 (by decide) ?_
                        refine va_put (D := (dC, dI)) (ci := 1) (v := .int (f1 ||| (2 : Int32))) (ty := .int) (C := RX1) (T := TX1) (N := 5) hx hb hts hin0 tyX1 tyX1_ok nmX1 hown hK hP hD hS 0 rfl rfl 1 (by decide) (hts (.fieldLink RX1 61 "BinaryFunctionsModel" "flag" "I") (by decide +kernel)) (fun _ h9 => h9) rfl (by decide +kernel) rfl rfl (Nat.le_of_ble_eq_true rfl) dX1_whole_171 (fun H locs hP hD hS => ?_)
                        have hP : va_P (dC, dI) vwCl [(h0, .inr (1, [.ref a0, .int (f1 ||| (2 : Int32)), .int f2, .long f3, .long f4])), (a0, .inl (cA, 8, .inr (.inl g)))] H := hP
                        have hD : va_D A [(h0, .inr (1, [.ref a0, .int (f1 ||| (2 : Int32)), .int f2, .long f3, .long f4])), (a0, .inl (cA, 8, .inr (.inl g)))] := hD
                        refine lv_aload_n hx hb dX1_whole_174 rfl (lv_at hl 3 rfl) ?_
                        refine va_get (D := (dC, dI)) (ci := 1) (v := .ref a0) (C := RX1) (T := TX1) (N := 5) hx hb hts hin0 hown hK hP 0 rfl rfl 0 (by decide) (hts (.fieldLink RX1 7 "BinaryFunctionsModel" "register" "[J") (by decide +kernel)) (fun _ h9 => h9) rfl dX1_whole_175 ?_
                        refine lv_iload_n hx hb dX1_whole_178 rfl (lv_at hl 4 rfl) ?_
                        refine lv_lload hx hb dX1_whole_179 (lv_at hl 0 rfl) ?_
                        refine lv_lload hx hb dX1_whole_181 (lv_at hl 2 rfl) ?_
                        refine bw_csi (rest := [.long (bg_exact (bg_cut (bg_number (g x2.toNatClampNeg)) (-(bg_power (g x2.toNatClampNeg))) (1 : Int32) (1 : Int32)) (0 : Int32)), .int x1, .ref a0]) ⟨hx, hb, hml, hown, hts⟩ (bd_negative l (g x2.toNatClampNeg)) (va_cwS 1 hts gX1_whole_X1_negative rfl rfl rfl (by decide +kernel) ⟨Nat.le_of_ble_eq_true rfl, Nat.le_of_ble_eq_true rfl⟩) rfl hl.1 rfl (Nat.le_of_ble_eq_true rfl) dX1_whole_183 (Nat.zero_le _) (Nat.zero_le _) ?_
                        refine bw_csl (rest := [.int x1, .ref a0]) ⟨hx, hb, hml, hown, hts⟩ (bd_signed l (bg_exact (bg_cut (bg_number (g x2.toNatClampNeg)) (-(bg_power (g x2.toNatClampNeg))) (1 : Int32) (1 : Int32)) (0 : Int32)) (bg_negative (g x2.toNatClampNeg))) (va_cwS 2 hts gX1_whole_X1_signed rfl rfl rfl (by decide +kernel) ⟨Nat.le_of_ble_eq_true rfl, Nat.le_of_ble_eq_true rfl⟩) rfl hl.1 rfl (Nat.le_of_ble_eq_true rfl) dX1_whole_186 (Nat.zero_le _) (Nat.zero_le _) ?_
                        refine va_last hx hb hK hP hD hS 1 0 rfl rfl (bm_reg1 h1) dX1_whole_189 (fun H locs hP hD hS => ?_)
                        have hP : va_P (dC, dI) vwCl [(h0, .inr (1, [.ref a0, .int (f1 ||| (2 : Int32)), .int f2, .long f3, .long f4])), (a0, .inl (cA, 8, .inr (.inl (vp_updL g x1.toNatClampNeg (bg_signed (bg_exact (bg_cut (bg_number (g x2.toNatClampNeg)) (-(bg_power (g x2.toNatClampNeg))) (1 : Int32) (1 : Int32)) (0 : Int32)) (bg_negative (g x2.toNatClampNeg)))))))] H := hP
                        have hD : va_D A [(h0, .inr (1, [.ref a0, .int (f1 ||| (2 : Int32)), .int f2, .long f3, .long f4])), (a0, .inl (cA, 8, .inr (.inl (vp_updL g x1.toNatClampNeg (bg_signed (bg_exact (bg_cut (bg_number (g x2.toNatClampNeg)) (-(bg_power (g x2.toNatClampNeg))) (1 : Int32) (1 : Int32)) (0 : Int32)) (bg_negative (g x2.toNatClampNeg)))))))] := hD
                        refine lv_iconst (v := 1) hx hb dX1_whole_190 (by decide) ?_
                        exact W.zret (v := (1 : Int32)) hx hb hr rfl (fun t ht hW => ⟨⟨(1 : Int32), (f1 ||| (2 : Int32), f2, f3, f4, vp_updL g x1.toNatClampNeg (bg_signed (bg_exact (bg_cut (bg_number (g x2.toNatClampNeg)) (-(bg_power (g x2.toNatClampNeg))) (1 : Int32) (1 : Int32)) (0 : Int32)) (bg_negative (g x2.toNatClampNeg)))), rfl, by rw [bg_whole, if_neg h1, if_neg h2, if_neg h3, if_pos h4, if_pos h5, if_pos h6, if_pos h7, if_pos h8, if_pos h21, if_neg h30, if_neg h32], by rw [ht]; exact hP, va_K.moved hW.alike hK, hD⟩, hS.F ht⟩) hS.2.2 dX1_whole_191
                    · refine lv_iload_n hx hb dX1_whole_111 rfl (lv_at hl 4 rfl) ?_
                      refine lv_iconst (v := 2) hx hb dX1_whole_112 (by decide) ?_
                      refine lv_icmp_ne (tgt := 128) hx hb dX1_whole_113 (by decide) (fun h33 => ?_) (fun h33 => ?_)
                      · refine lv_iconst (v := 0) hx hb dX1_whole_128 (by decide) ?_
                        refine bw_csl (rest := []) ⟨hx, hb, hml, hown, hts⟩ (bd_cut l (bg_number (g x2.toNatClampNeg)) (-(bg_power (g x2.toNatClampNeg))) (1 : Int32) (0 : Int32)) (va_cwS 4 hts gX1_whole_X1_cut rfl rfl rfl (by decide +kernel) ⟨Nat.le_of_ble_eq_true rfl, Nat.le_of_ble_eq_true rfl⟩) rfl hl.1 rfl (Nat.le_of_ble_eq_true rfl) dX1_whole_129 (Nat.zero_le _) (Nat.zero_le _) ?_
                        refine lv_lstore (nL := 10) (lv' := [(6, .long (bg_cut (bg_number (g x2.toNatClampNeg)) (-(bg_power (g x2.toNatClampNeg))) (1 : Int32) (0 : Int32))), (4, .long (g x2.toNatClampNeg)), (0, .ref h0), (1, .int x1), (2, .int x2), (3, .int x3)]) hx hb dX1_whole_132 hl (by decide) rfl (fun ls hl => ?_)
                        refine lv_lload hx hb dX1_whole_134 (lv_at hl 0 rfl) ?_
                        refine lv_iconst (v := 0) hx hb dX1_whole_136 (by decide) ?_
                        refine bw_csl (rest := []) ⟨hx, hb, hml, hown, hts⟩ (bd_exact l (bg_cut (bg_number (g x2.toNatClampNeg)) (-(bg_power (g x2.toNatClampNeg))) (1 : Int32) (0 : Int32)) (0 : Int32)) (va_cwS 2 hts gX1_whole_X1_exact rfl rfl rfl (by decide +kernel) ⟨Nat.le_of_ble_eq_true rfl, Nat.le_of_ble_eq_true rfl⟩) rfl hl.1 rfl (Nat.le_of_ble_eq_true rfl) dX1_whole_137 (Nat.zero_le _) (Nat.zero_le _) ?_
                        refine lv_lstore (nL := 10) (lv' := [(8, .long (bg_exact (bg_cut (bg_number (g x2.toNatClampNeg)) (-(bg_power (g x2.toNatClampNeg))) (1 : Int32) (0 : Int32)) (0 : Int32))), (6, .long (bg_cut (bg_number (g x2.toNatClampNeg)) (-(bg_power (g x2.toNatClampNeg))) (1 : Int32) (0 : Int32))), (4, .long (g x2.toNatClampNeg)), (0, .ref h0), (1, .int x1), (2, .int x2), (3, .int x3)]) hx hb dX1_whole_140 hl (by decide) rfl (fun ls hl => ?_)
                        refine lv_aload_n hx hb dX1_whole_142 rfl (lv_at hl 3 rfl) ?_
                        refine lv_iload_n hx hb dX1_whole_143 rfl (lv_at hl 6 rfl) ?_
                        refine lv_if_ne (tgt := 167) hx hb dX1_whole_144 (by decide) (fun h34 => ?_) (fun h34 => ?_)
                        · exact absurd h8 h34
                        refine lv_lload hx hb dX1_whole_147 (lv_at hl 0 rfl) ?_
                        refine lv_lload hx hb dX1_whole_149 (lv_at hl 2 rfl) ?_
                        refine bw_csl (rest := [.long (bg_exact (bg_cut (bg_number (g x2.toNatClampNeg)) (-(bg_power (g x2.toNatClampNeg))) (1 : Int32) (0 : Int32)) (0 : Int32)), .ref h0]) ⟨hx, hb, hml, hown, hts⟩ (bd_plain l (g x2.toNatClampNeg)) (va_cwS 1 hts gX1_whole_X1_plain rfl rfl rfl (by decide +kernel) ⟨Nat.le_of_ble_eq_true rfl, Nat.le_of_ble_eq_true rfl⟩) rfl hl.1 rfl (Nat.le_of_ble_eq_true rfl) dX1_whole_151 (Nat.zero_le _) (Nat.zero_le _) ?_
                        refine bw_lc_eq (tgt := 167) hx hb dX1_whole_154 dX1_whole_155 (by decide) (fun h35 => ?_) (fun h35 => ?_)
                        · refine lv_aload_n hx hb dX1_whole_167 rfl (lv_at hl 3 rfl) ?_
                          refine va_get (D := (dC, dI)) (ci := 1) (v := .int f1) (C := RX1) (T := TX1) (N := 5) hx hb hts hin0 hown hK hP 0 rfl rfl 1 (by decide) (hts (.fieldLink RX1 61 "BinaryFunctionsModel" "flag" "I") (by decide +kernel)) (fun _ h9 => h9) rfl dX1_whole_168 ?_
                          refine va_put (D := (dC, dI)) (ci := 1) (v := .int f1) (ty := .int) (C := RX1) (T := TX1) (N := 5) hx hb hts hin0 tyX1 tyX1_ok nmX1 hown hK hP hD hS 0 rfl rfl 1 (by decide) (hts (.fieldLink RX1 61 "BinaryFunctionsModel" "flag" "I") (by decide +kernel)) (fun _ h9 => h9) rfl (by decide +kernel) rfl rfl (Nat.le_of_ble_eq_true rfl) dX1_whole_171 (fun H locs hP hD hS => ?_)
                          have hP : va_P (dC, dI) vwCl [(h0, .inr (1, [.ref a0, .int f1, .int f2, .long f3, .long f4])), (a0, .inl (cA, 8, .inr (.inl g)))] H := hP
                          have hD : va_D A [(h0, .inr (1, [.ref a0, .int f1, .int f2, .long f3, .long f4])), (a0, .inl (cA, 8, .inr (.inl g)))] := hD
                          refine lv_aload_n hx hb dX1_whole_174 rfl (lv_at hl 3 rfl) ?_
                          refine va_get (D := (dC, dI)) (ci := 1) (v := .ref a0) (C := RX1) (T := TX1) (N := 5) hx hb hts hin0 hown hK hP 0 rfl rfl 0 (by decide) (hts (.fieldLink RX1 7 "BinaryFunctionsModel" "register" "[J") (by decide +kernel)) (fun _ h9 => h9) rfl dX1_whole_175 ?_
                          refine lv_iload_n hx hb dX1_whole_178 rfl (lv_at hl 4 rfl) ?_
                          refine lv_lload hx hb dX1_whole_179 (lv_at hl 0 rfl) ?_
                          refine lv_lload hx hb dX1_whole_181 (lv_at hl 2 rfl) ?_
                          refine bw_csi (rest := [.long (bg_exact (bg_cut (bg_number (g x2.toNatClampNeg)) (-(bg_power (g x2.toNatClampNeg))) (1 : Int32) (0 : Int32)) (0 : Int32)), .int x1, .ref a0]) ⟨hx, hb, hml, hown, hts⟩ (bd_negative l (g x2.toNatClampNeg)) (va_cwS 1 hts gX1_whole_X1_negative rfl rfl rfl (by decide +kernel) ⟨Nat.le_of_ble_eq_true rfl, Nat.le_of_ble_eq_true rfl⟩) rfl hl.1 rfl (Nat.le_of_ble_eq_true rfl) dX1_whole_183 (Nat.zero_le _) (Nat.zero_le _) ?_
                          refine bw_csl (rest := [.int x1, .ref a0]) ⟨hx, hb, hml, hown, hts⟩ (bd_signed l (bg_exact (bg_cut (bg_number (g x2.toNatClampNeg)) (-(bg_power (g x2.toNatClampNeg))) (1 : Int32) (0 : Int32)) (0 : Int32)) (bg_negative (g x2.toNatClampNeg))) (va_cwS 2 hts gX1_whole_X1_signed rfl rfl rfl (by decide +kernel) ⟨Nat.le_of_ble_eq_true rfl, Nat.le_of_ble_eq_true rfl⟩) rfl hl.1 rfl (Nat.le_of_ble_eq_true rfl) dX1_whole_186 (Nat.zero_le _) (Nat.zero_le _) ?_
                          refine va_last hx hb hK hP hD hS 1 0 rfl rfl (bm_reg1 h1) dX1_whole_189 (fun H locs hP hD hS => ?_)
                          have hP : va_P (dC, dI) vwCl [(h0, .inr (1, [.ref a0, .int f1, .int f2, .long f3, .long f4])), (a0, .inl (cA, 8, .inr (.inl (vp_updL g x1.toNatClampNeg (bg_signed (bg_exact (bg_cut (bg_number (g x2.toNatClampNeg)) (-(bg_power (g x2.toNatClampNeg))) (1 : Int32) (0 : Int32)) (0 : Int32)) (bg_negative (g x2.toNatClampNeg)))))))] H := hP
                          have hD : va_D A [(h0, .inr (1, [.ref a0, .int f1, .int f2, .long f3, .long f4])), (a0, .inl (cA, 8, .inr (.inl (vp_updL g x1.toNatClampNeg (bg_signed (bg_exact (bg_cut (bg_number (g x2.toNatClampNeg)) (-(bg_power (g x2.toNatClampNeg))) (1 : Int32) (0 : Int32)) (0 : Int32)) (bg_negative (g x2.toNatClampNeg)))))))] := hD
                          refine lv_iconst (v := 1) hx hb dX1_whole_190 (by decide) ?_
                          exact W.zret (v := (1 : Int32)) hx hb hr rfl (fun t ht hW => ⟨⟨(1 : Int32), (f1, f2, f3, f4, vp_updL g x1.toNatClampNeg (bg_signed (bg_exact (bg_cut (bg_number (g x2.toNatClampNeg)) (-(bg_power (g x2.toNatClampNeg))) (1 : Int32) (0 : Int32)) (0 : Int32)) (bg_negative (g x2.toNatClampNeg)))), rfl, by rw [bg_whole, if_neg h1, if_neg h2, if_neg h3, if_pos h4, if_pos h5, if_pos h6, if_pos h7, if_pos h8, if_pos h21, if_pos h30, if_neg h33, if_pos h35], by rw [ht]; exact hP, va_K.moved hW.alike hK, hD⟩, hS.F ht⟩) hS.2.2 dX1_whole_191
                        · refine lv_aload_n hx hb dX1_whole_158 rfl (lv_at hl 3 rfl) ?_
                          refine va_get (D := (dC, dI)) (ci := 1) (v := .int f1) (C := RX1) (T := TX1) (N := 5) hx hb hts hin0 hown hK hP 0 rfl rfl 1 (by decide) (hts (.fieldLink RX1 61 "BinaryFunctionsModel" "flag" "I") (by decide +kernel)) (fun _ h9 => h9) rfl dX1_whole_159 ?_
                          refine lv_iconst (v := 2) hx hb dX1_whole_162 (by decide) ?_
                          refine lv_ior hx hb dX1_whole_163 ?_
                          refine lv_goto (tgt := 171) hx hb dX1_whole_164 (by decide) ?_
                          refine va_put (D := (dC, dI)) (ci := 1) (v := .int (f1 ||| (2 : Int32))) (ty := .int) (C := RX1) (T := TX1) (N := 5) hx hb hts hin0 tyX1 tyX1_ok nmX1 hown hK hP hD hS 0 rfl rfl 1 (by decide) (hts (.fieldLink RX1 61 "BinaryFunctionsModel" "flag" "I") (by decide +kernel)) (fun _ h9 => h9) rfl (by decide +kernel) rfl rfl (Nat.le_of_ble_eq_true rfl) dX1_whole_171 (fun H locs hP hD hS => ?_)
                          have hP : va_P (dC, dI) vwCl [(h0, .inr (1, [.ref a0, .int (f1 ||| (2 : Int32)), .int f2, .long f3, .long f4])), (a0, .inl (cA, 8, .inr (.inl g)))] H := hP
                          have hD : va_D A [(h0, .inr (1, [.ref a0, .int (f1 ||| (2 : Int32)), .int f2, .long f3, .long f4])), (a0, .inl (cA, 8, .inr (.inl g)))] := hD
                          refine lv_aload_n hx hb dX1_whole_174 rfl (lv_at hl 3 rfl) ?_
                          refine va_get (D := (dC, dI)) (ci := 1) (v := .ref a0) (C := RX1) (T := TX1) (N := 5) hx hb hts hin0 hown hK hP 0 rfl rfl 0 (by decide) (hts (.fieldLink RX1 7 "BinaryFunctionsModel" "register" "[J") (by decide +kernel)) (fun _ h9 => h9) rfl dX1_whole_175 ?_
                          refine lv_iload_n hx hb dX1_whole_178 rfl (lv_at hl 4 rfl) ?_
                          refine lv_lload hx hb dX1_whole_179 (lv_at hl 0 rfl) ?_
                          refine lv_lload hx hb dX1_whole_181 (lv_at hl 2 rfl) ?_
                          refine bw_csi (rest := [.long (bg_exact (bg_cut (bg_number (g x2.toNatClampNeg)) (-(bg_power (g x2.toNatClampNeg))) (1 : Int32) (0 : Int32)) (0 : Int32)), .int x1, .ref a0]) ⟨hx, hb, hml, hown, hts⟩ (bd_negative l (g x2.toNatClampNeg)) (va_cwS 1 hts gX1_whole_X1_negative rfl rfl rfl (by decide +kernel) ⟨Nat.le_of_ble_eq_true rfl, Nat.le_of_ble_eq_true rfl⟩) rfl hl.1 rfl (Nat.le_of_ble_eq_true rfl) dX1_whole_183 (Nat.zero_le _) (Nat.zero_le _) ?_
                          refine bw_csl (rest := [.int x1, .ref a0]) ⟨hx, hb, hml, hown, hts⟩ (bd_signed l (bg_exact (bg_cut (bg_number (g x2.toNatClampNeg)) (-(bg_power (g x2.toNatClampNeg))) (1 : Int32) (0 : Int32)) (0 : Int32)) (bg_negative (g x2.toNatClampNeg))) (va_cwS 2 hts gX1_whole_X1_signed rfl rfl rfl (by decide +kernel) ⟨Nat.le_of_ble_eq_true rfl, Nat.le_of_ble_eq_true rfl⟩) rfl hl.1 rfl (Nat.le_of_ble_eq_true rfl) dX1_whole_186 (Nat.zero_le _) (Nat.zero_le _) ?_
                          refine va_last hx hb hK hP hD hS 1 0 rfl rfl (bm_reg1 h1) dX1_whole_189 (fun H locs hP hD hS => ?_)
                          have hP : va_P (dC, dI) vwCl [(h0, .inr (1, [.ref a0, .int (f1 ||| (2 : Int32)), .int f2, .long f3, .long f4])), (a0, .inl (cA, 8, .inr (.inl (vp_updL g x1.toNatClampNeg (bg_signed (bg_exact (bg_cut (bg_number (g x2.toNatClampNeg)) (-(bg_power (g x2.toNatClampNeg))) (1 : Int32) (0 : Int32)) (0 : Int32)) (bg_negative (g x2.toNatClampNeg)))))))] H := hP
                          have hD : va_D A [(h0, .inr (1, [.ref a0, .int (f1 ||| (2 : Int32)), .int f2, .long f3, .long f4])), (a0, .inl (cA, 8, .inr (.inl (vp_updL g x1.toNatClampNeg (bg_signed (bg_exact (bg_cut (bg_number (g x2.toNatClampNeg)) (-(bg_power (g x2.toNatClampNeg))) (1 : Int32) (0 : Int32)) (0 : Int32)) (bg_negative (g x2.toNatClampNeg)))))))] := hD
                          refine lv_iconst (v := 1) hx hb dX1_whole_190 (by decide) ?_
                          exact W.zret (v := (1 : Int32)) hx hb hr rfl (fun t ht hW => ⟨⟨(1 : Int32), (f1 ||| (2 : Int32), f2, f3, f4, vp_updL g x1.toNatClampNeg (bg_signed (bg_exact (bg_cut (bg_number (g x2.toNatClampNeg)) (-(bg_power (g x2.toNatClampNeg))) (1 : Int32) (0 : Int32)) (0 : Int32)) (bg_negative (g x2.toNatClampNeg)))), rfl, by rw [bg_whole, if_neg h1, if_neg h2, if_neg h3, if_pos h4, if_pos h5, if_pos h6, if_pos h7, if_pos h8, if_pos h21, if_pos h30, if_neg h33, if_neg h35], by rw [ht]; exact hP, va_K.moved hW.alike hK, hD⟩, hS.F ht⟩) hS.2.2 dX1_whole_191
                      · refine lv_lload hx hb dX1_whole_116 (lv_at hl 0 rfl) ?_
                        refine bw_csi (rest := [.int (1 : Int32), .int (-(bg_power (g x2.toNatClampNeg))), .long (bg_number (g x2.toNatClampNeg))]) ⟨hx, hb, hml, hown, hts⟩ (bd_negative l (g x2.toNatClampNeg)) (va_cwS 1 hts gX1_whole_X1_negative rfl rfl rfl (by decide +kernel) ⟨Nat.le_of_ble_eq_true rfl, Nat.le_of_ble_eq_true rfl⟩) rfl hl.1 rfl (Nat.le_of_ble_eq_true rfl) dX1_whole_118 (Nat.zero_le _) (Nat.zero_le _) ?_
                        refine lv_if_ne (tgt := 128) hx hb dX1_whole_121 (by decide) (fun h36 => ?_) (fun h36 => ?_)
                        · exact absurd h30 h36
                        refine lv_iconst (v := 1) hx hb dX1_whole_124 (by decide) ?_
                        refine lv_goto (tgt := 129) hx hb dX1_whole_125 (by decide) ?_
                        refine bw_csl (rest := []) ⟨hx, hb, hml, hown, hts⟩ (bd_cut l (bg_number (g x2.toNatClampNeg)) (-(bg_power (g x2.toNatClampNeg))) (1 : Int32) (1 : Int32)) (va_cwS 4 hts gX1_whole_X1_cut rfl rfl rfl (by decide +kernel) ⟨Nat.le_of_ble_eq_true rfl, Nat.le_of_ble_eq_true rfl⟩) rfl hl.1 rfl (Nat.le_of_ble_eq_true rfl) dX1_whole_129 (Nat.zero_le _) (Nat.zero_le _) ?_
                        refine lv_lstore (nL := 10) (lv' := [(6, .long (bg_cut (bg_number (g x2.toNatClampNeg)) (-(bg_power (g x2.toNatClampNeg))) (1 : Int32) (1 : Int32))), (4, .long (g x2.toNatClampNeg)), (0, .ref h0), (1, .int x1), (2, .int x2), (3, .int x3)]) hx hb dX1_whole_132 hl (by decide) rfl (fun ls hl => ?_)
                        refine lv_lload hx hb dX1_whole_134 (lv_at hl 0 rfl) ?_
                        refine lv_iconst (v := 0) hx hb dX1_whole_136 (by decide) ?_
                        refine bw_csl (rest := []) ⟨hx, hb, hml, hown, hts⟩ (bd_exact l (bg_cut (bg_number (g x2.toNatClampNeg)) (-(bg_power (g x2.toNatClampNeg))) (1 : Int32) (1 : Int32)) (0 : Int32)) (va_cwS 2 hts gX1_whole_X1_exact rfl rfl rfl (by decide +kernel) ⟨Nat.le_of_ble_eq_true rfl, Nat.le_of_ble_eq_true rfl⟩) rfl hl.1 rfl (Nat.le_of_ble_eq_true rfl) dX1_whole_137 (Nat.zero_le _) (Nat.zero_le _) ?_
                        refine lv_lstore (nL := 10) (lv' := [(8, .long (bg_exact (bg_cut (bg_number (g x2.toNatClampNeg)) (-(bg_power (g x2.toNatClampNeg))) (1 : Int32) (1 : Int32)) (0 : Int32))), (6, .long (bg_cut (bg_number (g x2.toNatClampNeg)) (-(bg_power (g x2.toNatClampNeg))) (1 : Int32) (1 : Int32))), (4, .long (g x2.toNatClampNeg)), (0, .ref h0), (1, .int x1), (2, .int x2), (3, .int x3)]) hx hb dX1_whole_140 hl (by decide) rfl (fun ls hl => ?_)
                        refine lv_aload_n hx hb dX1_whole_142 rfl (lv_at hl 3 rfl) ?_
                        refine lv_iload_n hx hb dX1_whole_143 rfl (lv_at hl 6 rfl) ?_
                        refine lv_if_ne (tgt := 167) hx hb dX1_whole_144 (by decide) (fun h37 => ?_) (fun h37 => ?_)
                        · exact absurd h8 h37
                        refine lv_lload hx hb dX1_whole_147 (lv_at hl 0 rfl) ?_
                        refine lv_lload hx hb dX1_whole_149 (lv_at hl 2 rfl) ?_
                        refine bw_csl (rest := [.long (bg_exact (bg_cut (bg_number (g x2.toNatClampNeg)) (-(bg_power (g x2.toNatClampNeg))) (1 : Int32) (1 : Int32)) (0 : Int32)), .ref h0]) ⟨hx, hb, hml, hown, hts⟩ (bd_plain l (g x2.toNatClampNeg)) (va_cwS 1 hts gX1_whole_X1_plain rfl rfl rfl (by decide +kernel) ⟨Nat.le_of_ble_eq_true rfl, Nat.le_of_ble_eq_true rfl⟩) rfl hl.1 rfl (Nat.le_of_ble_eq_true rfl) dX1_whole_151 (Nat.zero_le _) (Nat.zero_le _) ?_
                        refine bw_lc_eq (tgt := 167) hx hb dX1_whole_154 dX1_whole_155 (by decide) (fun h38 => ?_) (fun h38 => ?_)
                        · refine lv_aload_n hx hb dX1_whole_167 rfl (lv_at hl 3 rfl) ?_
                          refine va_get (D := (dC, dI)) (ci := 1) (v := .int f1) (C := RX1) (T := TX1) (N := 5) hx hb hts hin0 hown hK hP 0 rfl rfl 1 (by decide) (hts (.fieldLink RX1 61 "BinaryFunctionsModel" "flag" "I") (by decide +kernel)) (fun _ h9 => h9) rfl dX1_whole_168 ?_
                          refine va_put (D := (dC, dI)) (ci := 1) (v := .int f1) (ty := .int) (C := RX1) (T := TX1) (N := 5) hx hb hts hin0 tyX1 tyX1_ok nmX1 hown hK hP hD hS 0 rfl rfl 1 (by decide) (hts (.fieldLink RX1 61 "BinaryFunctionsModel" "flag" "I") (by decide +kernel)) (fun _ h9 => h9) rfl (by decide +kernel) rfl rfl (Nat.le_of_ble_eq_true rfl) dX1_whole_171 (fun H locs hP hD hS => ?_)
                          have hP : va_P (dC, dI) vwCl [(h0, .inr (1, [.ref a0, .int f1, .int f2, .long f3, .long f4])), (a0, .inl (cA, 8, .inr (.inl g)))] H := hP
                          have hD : va_D A [(h0, .inr (1, [.ref a0, .int f1, .int f2, .long f3, .long f4])), (a0, .inl (cA, 8, .inr (.inl g)))] := hD
                          refine lv_aload_n hx hb dX1_whole_174 rfl (lv_at hl 3 rfl) ?_
                          refine va_get (D := (dC, dI)) (ci := 1) (v := .ref a0) (C := RX1) (T := TX1) (N := 5) hx hb hts hin0 hown hK hP 0 rfl rfl 0 (by decide) (hts (.fieldLink RX1 7 "BinaryFunctionsModel" "register" "[J") (by decide +kernel)) (fun _ h9 => h9) rfl dX1_whole_175 ?_
                          refine lv_iload_n hx hb dX1_whole_178 rfl (lv_at hl 4 rfl) ?_
                          refine lv_lload hx hb dX1_whole_179 (lv_at hl 0 rfl) ?_
                          refine lv_lload hx hb dX1_whole_181 (lv_at hl 2 rfl) ?_
                          refine bw_csi (rest := [.long (bg_exact (bg_cut (bg_number (g x2.toNatClampNeg)) (-(bg_power (g x2.toNatClampNeg))) (1 : Int32) (1 : Int32)) (0 : Int32)), .int x1, .ref a0]) ⟨hx, hb, hml, hown, hts⟩ (bd_negative l (g x2.toNatClampNeg)) (va_cwS 1 hts gX1_whole_X1_negative rfl rfl rfl (by decide +kernel) ⟨Nat.le_of_ble_eq_true rfl, Nat.le_of_ble_eq_true rfl⟩) rfl hl.1 rfl (Nat.le_of_ble_eq_true rfl) dX1_whole_183 (Nat.zero_le _) (Nat.zero_le _) ?_
                          refine bw_csl (rest := [.int x1, .ref a0]) ⟨hx, hb, hml, hown, hts⟩ (bd_signed l (bg_exact (bg_cut (bg_number (g x2.toNatClampNeg)) (-(bg_power (g x2.toNatClampNeg))) (1 : Int32) (1 : Int32)) (0 : Int32)) (bg_negative (g x2.toNatClampNeg))) (va_cwS 2 hts gX1_whole_X1_signed rfl rfl rfl (by decide +kernel) ⟨Nat.le_of_ble_eq_true rfl, Nat.le_of_ble_eq_true rfl⟩) rfl hl.1 rfl (Nat.le_of_ble_eq_true rfl) dX1_whole_186 (Nat.zero_le _) (Nat.zero_le _) ?_
                          refine va_last hx hb hK hP hD hS 1 0 rfl rfl (bm_reg1 h1) dX1_whole_189 (fun H locs hP hD hS => ?_)
                          have hP : va_P (dC, dI) vwCl [(h0, .inr (1, [.ref a0, .int f1, .int f2, .long f3, .long f4])), (a0, .inl (cA, 8, .inr (.inl (vp_updL g x1.toNatClampNeg (bg_signed (bg_exact (bg_cut (bg_number (g x2.toNatClampNeg)) (-(bg_power (g x2.toNatClampNeg))) (1 : Int32) (1 : Int32)) (0 : Int32)) (bg_negative (g x2.toNatClampNeg)))))))] H := hP
                          have hD : va_D A [(h0, .inr (1, [.ref a0, .int f1, .int f2, .long f3, .long f4])), (a0, .inl (cA, 8, .inr (.inl (vp_updL g x1.toNatClampNeg (bg_signed (bg_exact (bg_cut (bg_number (g x2.toNatClampNeg)) (-(bg_power (g x2.toNatClampNeg))) (1 : Int32) (1 : Int32)) (0 : Int32)) (bg_negative (g x2.toNatClampNeg)))))))] := hD
                          refine lv_iconst (v := 1) hx hb dX1_whole_190 (by decide) ?_
                          exact W.zret (v := (1 : Int32)) hx hb hr rfl (fun t ht hW => ⟨⟨(1 : Int32), (f1, f2, f3, f4, vp_updL g x1.toNatClampNeg (bg_signed (bg_exact (bg_cut (bg_number (g x2.toNatClampNeg)) (-(bg_power (g x2.toNatClampNeg))) (1 : Int32) (1 : Int32)) (0 : Int32)) (bg_negative (g x2.toNatClampNeg)))), rfl, by rw [bg_whole, if_neg h1, if_neg h2, if_neg h3, if_pos h4, if_pos h5, if_pos h6, if_pos h7, if_pos h8, if_pos h21, if_pos h30, if_pos h33, if_pos h38], by rw [ht]; exact hP, va_K.moved hW.alike hK, hD⟩, hS.F ht⟩) hS.2.2 dX1_whole_191
                        · refine lv_aload_n hx hb dX1_whole_158 rfl (lv_at hl 3 rfl) ?_
                          refine va_get (D := (dC, dI)) (ci := 1) (v := .int f1) (C := RX1) (T := TX1) (N := 5) hx hb hts hin0 hown hK hP 0 rfl rfl 1 (by decide) (hts (.fieldLink RX1 61 "BinaryFunctionsModel" "flag" "I") (by decide +kernel)) (fun _ h9 => h9) rfl dX1_whole_159 ?_
                          refine lv_iconst (v := 2) hx hb dX1_whole_162 (by decide) ?_
                          refine lv_ior hx hb dX1_whole_163 ?_
                          refine lv_goto (tgt := 171) hx hb dX1_whole_164 (by decide) ?_
                          refine va_put (D := (dC, dI)) (ci := 1) (v := .int (f1 ||| (2 : Int32))) (ty := .int) (C := RX1) (T := TX1) (N := 5) hx hb hts hin0 tyX1 tyX1_ok nmX1 hown hK hP hD hS 0 rfl rfl 1 (by decide) (hts (.fieldLink RX1 61 "BinaryFunctionsModel" "flag" "I") (by decide +kernel)) (fun _ h9 => h9) rfl (by decide +kernel) rfl rfl (Nat.le_of_ble_eq_true rfl) dX1_whole_171 (fun H locs hP hD hS => ?_)
                          have hP : va_P (dC, dI) vwCl [(h0, .inr (1, [.ref a0, .int (f1 ||| (2 : Int32)), .int f2, .long f3, .long f4])), (a0, .inl (cA, 8, .inr (.inl g)))] H := hP
                          have hD : va_D A [(h0, .inr (1, [.ref a0, .int (f1 ||| (2 : Int32)), .int f2, .long f3, .long f4])), (a0, .inl (cA, 8, .inr (.inl g)))] := hD
                          refine lv_aload_n hx hb dX1_whole_174 rfl (lv_at hl 3 rfl) ?_
                          refine va_get (D := (dC, dI)) (ci := 1) (v := .ref a0) (C := RX1) (T := TX1) (N := 5) hx hb hts hin0 hown hK hP 0 rfl rfl 0 (by decide) (hts (.fieldLink RX1 7 "BinaryFunctionsModel" "register" "[J") (by decide +kernel)) (fun _ h9 => h9) rfl dX1_whole_175 ?_
                          refine lv_iload_n hx hb dX1_whole_178 rfl (lv_at hl 4 rfl) ?_
                          refine lv_lload hx hb dX1_whole_179 (lv_at hl 0 rfl) ?_
                          refine lv_lload hx hb dX1_whole_181 (lv_at hl 2 rfl) ?_
                          refine bw_csi (rest := [.long (bg_exact (bg_cut (bg_number (g x2.toNatClampNeg)) (-(bg_power (g x2.toNatClampNeg))) (1 : Int32) (1 : Int32)) (0 : Int32)), .int x1, .ref a0]) ⟨hx, hb, hml, hown, hts⟩ (bd_negative l (g x2.toNatClampNeg)) (va_cwS 1 hts gX1_whole_X1_negative rfl rfl rfl (by decide +kernel) ⟨Nat.le_of_ble_eq_true rfl, Nat.le_of_ble_eq_true rfl⟩) rfl hl.1 rfl (Nat.le_of_ble_eq_true rfl) dX1_whole_183 (Nat.zero_le _) (Nat.zero_le _) ?_
                          refine bw_csl (rest := [.int x1, .ref a0]) ⟨hx, hb, hml, hown, hts⟩ (bd_signed l (bg_exact (bg_cut (bg_number (g x2.toNatClampNeg)) (-(bg_power (g x2.toNatClampNeg))) (1 : Int32) (1 : Int32)) (0 : Int32)) (bg_negative (g x2.toNatClampNeg))) (va_cwS 2 hts gX1_whole_X1_signed rfl rfl rfl (by decide +kernel) ⟨Nat.le_of_ble_eq_true rfl, Nat.le_of_ble_eq_true rfl⟩) rfl hl.1 rfl (Nat.le_of_ble_eq_true rfl) dX1_whole_186 (Nat.zero_le _) (Nat.zero_le _) ?_
                          refine va_last hx hb hK hP hD hS 1 0 rfl rfl (bm_reg1 h1) dX1_whole_189 (fun H locs hP hD hS => ?_)
                          have hP : va_P (dC, dI) vwCl [(h0, .inr (1, [.ref a0, .int (f1 ||| (2 : Int32)), .int f2, .long f3, .long f4])), (a0, .inl (cA, 8, .inr (.inl (vp_updL g x1.toNatClampNeg (bg_signed (bg_exact (bg_cut (bg_number (g x2.toNatClampNeg)) (-(bg_power (g x2.toNatClampNeg))) (1 : Int32) (1 : Int32)) (0 : Int32)) (bg_negative (g x2.toNatClampNeg)))))))] H := hP
                          have hD : va_D A [(h0, .inr (1, [.ref a0, .int (f1 ||| (2 : Int32)), .int f2, .long f3, .long f4])), (a0, .inl (cA, 8, .inr (.inl (vp_updL g x1.toNatClampNeg (bg_signed (bg_exact (bg_cut (bg_number (g x2.toNatClampNeg)) (-(bg_power (g x2.toNatClampNeg))) (1 : Int32) (1 : Int32)) (0 : Int32)) (bg_negative (g x2.toNatClampNeg)))))))] := hD
                          refine lv_iconst (v := 1) hx hb dX1_whole_190 (by decide) ?_
                          exact W.zret (v := (1 : Int32)) hx hb hr rfl (fun t ht hW => ⟨⟨(1 : Int32), (f1 ||| (2 : Int32), f2, f3, f4, vp_updL g x1.toNatClampNeg (bg_signed (bg_exact (bg_cut (bg_number (g x2.toNatClampNeg)) (-(bg_power (g x2.toNatClampNeg))) (1 : Int32) (1 : Int32)) (0 : Int32)) (bg_negative (g x2.toNatClampNeg)))), rfl, by rw [bg_whole, if_neg h1, if_neg h2, if_neg h3, if_pos h4, if_pos h5, if_pos h6, if_pos h7, if_pos h8, if_pos h21, if_pos h30, if_pos h33, if_neg h38], by rw [ht]; exact hP, va_K.moved hW.alike hK, hD⟩, hS.F ht⟩) hS.2.2 dX1_whole_191
              · refine lv_aload_n hx hb dX1_whole_68 rfl (lv_at hl 1 rfl) ?_
                refine va_get (D := (dC, dI)) (ci := 1) (v := .ref a0) (C := RX1) (T := TX1) (N := 5) hx hb hts hin0 hown hK hP 0 rfl rfl 0 (by decide) (hts (.fieldLink RX1 7 "BinaryFunctionsModel" "register" "[J") (by decide +kernel)) (fun _ h9 => h9) rfl dX1_whole_69 ?_
                refine lv_iload_n hx hb dX1_whole_72 rfl (lv_at hl 2 rfl) ?_
                refine lv_lload hx hb dX1_whole_73 (lv_at hl 0 rfl) ?_
                refine va_last hx hb hK hP hD hS 1 0 rfl rfl (bm_reg1 h1) dX1_whole_75 (fun H locs hP hD hS => ?_)
                have hP : va_P (dC, dI) vwCl [(h0, .inr (1, [.ref a0, .int f1, .int f2, .long f3, .long f4])), (a0, .inl (cA, 8, .inr (.inl (vp_updL g x1.toNatClampNeg (g x2.toNatClampNeg)))))] H := hP
                have hD : va_D A [(h0, .inr (1, [.ref a0, .int f1, .int f2, .long f3, .long f4])), (a0, .inl (cA, 8, .inr (.inl (vp_updL g x1.toNatClampNeg (g x2.toNatClampNeg)))))] := hD
                refine lv_iconst (v := 1) hx hb dX1_whole_76 (by decide) ?_
                exact W.zret (v := (1 : Int32)) hx hb hr rfl (fun t ht hW => ⟨⟨(1 : Int32), (f1, f2, f3, f4, vp_updL g x1.toNatClampNeg (g x2.toNatClampNeg)), rfl, by rw [bg_whole, if_neg h1, if_neg h2, if_neg h3, if_pos h4, if_pos h5, if_pos h6, if_neg h7], by rw [ht]; exact hP, va_K.moved hW.alike hK, hD⟩, hS.F ht⟩) hS.2.2 dX1_whole_77
          · refine lv_aload_n hx hb dX1_whole_41 rfl (lv_at hl 1 rfl) ?_
            refine va_get (D := (dC, dI)) (ci := 1) (v := .ref a0) (C := RX1) (T := TX1) (N := 5) hx hb hts hin0 hown hK hP 0 rfl rfl 0 (by decide) (hts (.fieldLink RX1 7 "BinaryFunctionsModel" "register" "[J") (by decide +kernel)) (fun _ h9 => h9) rfl dX1_whole_42 ?_
            refine lv_iload_n hx hb dX1_whole_45 rfl (lv_at hl 2 rfl) ?_
            refine lv_ldc2 hx hb hown (hts (.constantLong RX1 75 9221120237041090560) (by decide +kernel)) dX1_whole_46 ?_
            refine va_last hx hb hK hP hD hS 1 0 rfl rfl (bm_reg1 h1) dX1_whole_49 (fun H locs hP hD hS => ?_)
            have hP : va_P (dC, dI) vwCl [(h0, .inr (1, [.ref a0, .int f1, .int f2, .long f3, .long f4])), (a0, .inl (cA, 8, .inr (.inl (vp_updL g x1.toNatClampNeg (9221120237041090560 : Int64)))))] H := hP
            have hD : va_D A [(h0, .inr (1, [.ref a0, .int f1, .int f2, .long f3, .long f4])), (a0, .inl (cA, 8, .inr (.inl (vp_updL g x1.toNatClampNeg (9221120237041090560 : Int64)))))] := hD
            refine lv_iconst (v := 1) hx hb dX1_whole_50 (by decide) ?_
            exact W.zret (v := (1 : Int32)) hx hb hr rfl (fun t ht hW => ⟨⟨(1 : Int32), (f1, f2, f3, f4, vp_updL g x1.toNatClampNeg (9221120237041090560 : Int64)), rfl, by rw [bg_whole, if_neg h1, if_neg h2, if_neg h3, if_pos h4, if_neg h5], by rw [ht]; exact hP, va_K.moved hW.alike hK, hD⟩, hS.F ht⟩) hS.2.2 dX1_whole_51
        · refine lv_iconst (v := 0) hx hb dX1_whole_23 (by decide) ?_
          exact W.zret (v := (0 : Int32)) hx hb hr rfl (fun t ht hW => ⟨⟨(0 : Int32), (f1, f2, f3, f4, g), rfl, by rw [bg_whole, if_neg h1, if_neg h2, if_neg h3, if_neg h4], by rw [ht]; exact hP, va_K.moved hW.alike hK, hD⟩, hS.F ht⟩) hS.2.2 dX1_whole_24
set_option maxHeartbeats 4000000 in
set_option maxRecDepth 100000 in
theorem bd_left (l : Launch) (dC : Nat → ClassId) (dI : Nat → Nat → Nat) (h0 a0 : Nat) (cA : ClassId) (sz : Nat) (f1 : Int32) (f2 : Int32) (f3 : Int64) (f4 : Int64) (g : Nat → Int64) (x1 : Int32) (x2 : Int32) (x3 : Int32) (x4 : Int32) : Met l yX1_left wsX1_left ({ frames := 3, cells := 0, slots := 0, locals := 84 }) (va_Pc [.ref h0, .int x1, .int x2, .int x3, .int x4] (bw_I2 (dC, dI) vwCl sz h0 a0 cA (.inr (1, [.ref a0, .int f1, .int f2, .long f3, .long f4])) (.inl (cA, 8, .inr (.inl g))))) (va_Qi (fun (r : Int32) (u : Int32 × Int32 × Int64 × Int64 × (Nat → Int64)) => (r, u) = bg_left f1 f2 f3 f4 g x1 x2 x3 x4) (fun u t => bw_O2 (dC, dI) vwCl (va_A [(h0, .inr (1, [.ref a0, .int f1, .int f2, .long f3, .long f4])), (a0, .inl (cA, 8, .inr (.inl g)))] sz) h0 a0 cA (.inr (1, [.ref a0, .int u.1, .int u.2.1, .long u.2.2.1, .long u.2.2.2.1])) (.inl (cA, 8, .inr (.inl u.2.2.2.2))) t) (va_A [(h0, .inr (1, [.ref a0, .int f1, .int f2, .long f3, .long f4])), (a0, .inl (cA, 8, .inr (.inl g)))] sz)) 0 0 (va_A [(h0, .inr (1, [.ref a0, .int f1, .int f2, .long f3, .long f4])), (a0, .inl (cA, 8, .inr (.inl g)))] sz) := by
  refine Met.ofW (cc := cX1_left) (maxL := 9) (ret := (some .boolean)) (by decide) rfl ?_
  intro p e s m args below meth c s₁ B hml hv
  obtain ⟨rfl, hsz, hP, hK, hD0⟩ := hv
  have hx := B.exec
  have hb := B.bytes
  have hr := B.returns
  have hts := atoms_spec (ws := wsX1_left) B.pre
  have hown : s.vm.findClass RX1 = some m.cls := findClass_of_methodNamed B.named
  have hlocks := B.notSynchronized
  subst hsz
  have hD := hD0.self (sz := s.heap.size)
  generalize hAe : va_A [(h0, .inr (1, [.ref a0, .int f1, .int f2, .long f3, .long f4])), (a0, .inl (cA, 8, .inr (.inl g)))] s.heap.size = A at hD ⊢
  have hA : ∀ q : Nat, s.heap.size ≤ q → A q := fun q h => by rw [← hAe]; exact Or.inr h
  have hS : va_S A s.heap s.heap [] := va_S.rf
  have hP : va_P (dC, dI) vwCl [(h0, .inr (1, [.ref a0, .int f1, .int f2, .long f3, .long f4])), (a0, .inl (cA, 8, .inr (.inl g)))] s.heap := hP
  have hin0 : ∀ w ∈ u_ws RX1 TX1 5, w ∈ wsX1_left := by decide +kernel
  have hl := lv_entry ([.ref h0, .int x1, .int x2, .int x3, .int x4]) (n := 9) (Nat.le_of_ble_eq_true rfl)
  rw [lg_entry_eq]
  generalize (lg_sl ([.ref h0, .int x1, .int x2, .int x3, .int x4]) ++ List.replicate (9 - (lg_sl ([.ref h0, .int x1, .int x2, .int x3, .int x4])).length) Slot.unset).toArray = ls at hl ⊢
  have hl : lv_has ls 9 [(0, .ref h0), (1, .int x1), (2, .int x2), (3, .int x3), (4, .int x4)] := hl
  refine lv_iload_n hx hb dX1_left_0 rfl (lv_at hl 1 rfl) ?_
  refine bw_csi (rest := []) ⟨hx, hb, hml, hown, hts⟩ (bd_isRegister l x1) (va_cwS 1 hts gX1_left_X1_isRegister rfl rfl rfl (by decide +kernel) ⟨Nat.le_of_ble_eq_true rfl, Nat.le_of_ble_eq_true rfl⟩) rfl hl.1 rfl (Nat.le_of_ble_eq_true rfl) dX1_left_1 (Nat.zero_le _) (Nat.zero_le _) ?_
  refine lv_if_eq (tgt := 21) hx hb dX1_left_4 (by decide) (fun h1 => ?_) (fun h1 => ?_)
  · refine lv_iconst (v := 0) hx hb dX1_left_21 (by decide) ?_
    exact W.zret (v := (0 : Int32)) hx hb hr rfl (fun t ht hW => ⟨⟨(0 : Int32), (f1, f2, f3, f4, g), rfl, by rw [bg_left, if_pos h1], by rw [ht]; exact hP, va_K.moved hW.alike hK, hD⟩, hS.F ht⟩) hS.2.2 dX1_left_22
  · refine lv_iload_n hx hb dX1_left_7 rfl (lv_at hl 2 rfl) ?_
    refine bw_csi (rest := []) ⟨hx, hb, hml, hown, hts⟩ (bd_isRegister l x2) (va_cwS 1 hts gX1_left_X1_isRegister rfl rfl rfl (by decide +kernel) ⟨Nat.le_of_ble_eq_true rfl, Nat.le_of_ble_eq_true rfl⟩) rfl hl.1 rfl (Nat.le_of_ble_eq_true rfl) dX1_left_8 (Nat.zero_le _) (Nat.zero_le _) ?_
    refine lv_if_eq (tgt := 21) hx hb dX1_left_11 (by decide) (fun h2 => ?_) (fun h2 => ?_)
    · refine lv_iconst (v := 0) hx hb dX1_left_21 (by decide) ?_
      exact W.zret (v := (0 : Int32)) hx hb hr rfl (fun t ht hW => ⟨⟨(0 : Int32), (f1, f2, f3, f4, g), rfl, by rw [bg_left, if_neg h1, if_pos h2], by rw [ht]; exact hP, va_K.moved hW.alike hK, hD⟩, hS.F ht⟩) hS.2.2 dX1_left_22
    · refine lv_iload_n hx hb dX1_left_14 rfl (lv_at hl 3 rfl) ?_
      refine bw_csi (rest := []) ⟨hx, hb, hml, hown, hts⟩ (bd_isRegister l x3) (va_cwS 1 hts gX1_left_X1_isRegister rfl rfl rfl (by decide +kernel) ⟨Nat.le_of_ble_eq_true rfl, Nat.le_of_ble_eq_true rfl⟩) rfl hl.1 rfl (Nat.le_of_ble_eq_true rfl) dX1_left_15 (Nat.zero_le _) (Nat.zero_le _) ?_
      refine lv_if_ne (tgt := 23) hx hb dX1_left_18 (by decide) (fun h3 => ?_) (fun h3 => ?_)
      · refine lv_aload_n hx hb dX1_left_23 rfl (lv_at hl 0 rfl) ?_
        refine va_get (D := (dC, dI)) (ci := 1) (v := .ref a0) (C := RX1) (T := TX1) (N := 5) hx hb hts hin0 hown hK hP 0 rfl rfl 0 (by decide) (hts (.fieldLink RX1 7 "BinaryFunctionsModel" "register" "[J") (by decide +kernel)) (fun _ h9 => h9) rfl dX1_left_24 ?_
        refine lv_iload_n hx hb dX1_left_27 rfl (lv_at hl 2 rfl) ?_
        refine va_lald hx hb hK hP 1 0 rfl rfl (bm_reg1 h2) dX1_left_28 ?_
        refine lv_lstore (nL := 9) (lv' := [(5, .long (g x2.toNatClampNeg)), (0, .ref h0), (1, .int x1), (2, .int x2), (3, .int x3), (4, .int x4)]) hx hb dX1_left_29 hl (by decide) rfl (fun ls hl => ?_)
        refine lv_aload_n hx hb dX1_left_31 rfl (lv_at hl 1 rfl) ?_
        refine va_get (D := (dC, dI)) (ci := 1) (v := .ref a0) (C := RX1) (T := TX1) (N := 5) hx hb hts hin0 hown hK hP 0 rfl rfl 0 (by decide) (hts (.fieldLink RX1 7 "BinaryFunctionsModel" "register" "[J") (by decide +kernel)) (fun _ h9 => h9) rfl dX1_left_32 ?_
        refine lv_iload_n hx hb dX1_left_35 rfl (lv_at hl 4 rfl) ?_
        refine va_lald hx hb hK hP 1 0 rfl rfl (bm_reg1 h3) dX1_left_36 ?_
        refine lv_lstore (nL := 9) (lv' := [(7, .long (g x3.toNatClampNeg)), (5, .long (g x2.toNatClampNeg)), (0, .ref h0), (1, .int x1), (2, .int x2), (3, .int x3), (4, .int x4)]) hx hb dX1_left_37 hl (by decide) rfl (fun ls hl => ?_)
        refine lv_aload_n hx hb dX1_left_39 rfl (lv_at hl 2 rfl) ?_
        refine lv_iconst (v := 0) hx hb dX1_left_40 (by decide) ?_
        refine va_put (D := (dC, dI)) (ci := 1) (v := .int (0 : Int32)) (ty := .int) (C := RX1) (T := TX1) (N := 5) hx hb hts hin0 tyX1 tyX1_ok nmX1 hown hK hP hD hS 0 rfl rfl 2 (by decide) (hts (.fieldLink RX1 97 "BinaryFunctionsModel" "quotient" "I") (by decide +kernel)) (fun _ h9 => h9) rfl (by decide +kernel) rfl rfl (Nat.le_of_ble_eq_true rfl) dX1_left_41 (fun H locs hP hD hS => ?_)
        have hP : va_P (dC, dI) vwCl [(h0, .inr (1, [.ref a0, .int f1, .int (0 : Int32), .long f3, .long f4])), (a0, .inl (cA, 8, .inr (.inl g)))] H := hP
        have hD : va_D A [(h0, .inr (1, [.ref a0, .int f1, .int (0 : Int32), .long f3, .long f4])), (a0, .inl (cA, 8, .inr (.inl g)))] := hD
        refine lv_lload hx hb dX1_left_44 (lv_at hl 1 rfl) ?_
        refine bw_csi (rest := []) ⟨hx, hb, hml, hown, hts⟩ (bd_isNan l (g x2.toNatClampNeg)) (va_cwS 1 hts gX1_left_X1_isNan rfl rfl rfl (by decide +kernel) ⟨Nat.le_of_ble_eq_true rfl, Nat.le_of_ble_eq_true rfl⟩) rfl hl.1 rfl (Nat.le_of_ble_eq_true rfl) dX1_left_46 (Nat.zero_le _) (Nat.zero_le _) ?_
        refine lv_if_ne (tgt := 60) hx hb dX1_left_49 (by decide) (fun h4 => ?_) (fun h4 => ?_)
        · refine lv_aload_n hx hb dX1_left_60 rfl (lv_at hl 2 rfl) ?_
          refine va_get (D := (dC, dI)) (ci := 1) (v := .ref a0) (C := RX1) (T := TX1) (N := 5) hx hb hts hin0 hown hK hP 0 rfl rfl 0 (by decide) (hts (.fieldLink RX1 7 "BinaryFunctionsModel" "register" "[J") (by decide +kernel)) (fun _ h9 => h9) rfl dX1_left_61 ?_
          refine lv_iload_n hx hb dX1_left_64 rfl (lv_at hl 3 rfl) ?_
          refine lv_ldc2 hx hb hown (hts (.constantLong RX1 75 9221120237041090560) (by decide +kernel)) dX1_left_65 ?_
          refine va_last hx hb hK hP hD hS 1 0 rfl rfl (bm_reg1 h1) dX1_left_68 (fun H locs hP hD hS => ?_)
          have hP : va_P (dC, dI) vwCl [(h0, .inr (1, [.ref a0, .int f1, .int (0 : Int32), .long f3, .long f4])), (a0, .inl (cA, 8, .inr (.inl (vp_updL g x1.toNatClampNeg (9221120237041090560 : Int64)))))] H := hP
          have hD : va_D A [(h0, .inr (1, [.ref a0, .int f1, .int (0 : Int32), .long f3, .long f4])), (a0, .inl (cA, 8, .inr (.inl (vp_updL g x1.toNatClampNeg (9221120237041090560 : Int64)))))] := hD
          refine lv_goto (tgt := 153) hx hb dX1_left_69 (by decide) ?_
          refine lv_iconst (v := 1) hx hb dX1_left_153 (by decide) ?_
          exact W.zret (v := (1 : Int32)) hx hb hr rfl (fun t ht hW => ⟨⟨(1 : Int32), (f1, (0 : Int32), f3, f4, vp_updL g x1.toNatClampNeg (9221120237041090560 : Int64)), rfl, by rw [bg_left, if_neg h1, if_neg h2, if_neg h3, if_neg h4], by rw [ht]; exact hP, va_K.moved hW.alike hK, hD⟩, hS.F ht⟩) hS.2.2 dX1_left_154
        · refine lv_lload hx hb dX1_left_52 (lv_at hl 0 rfl) ?_
          refine bw_csi (rest := []) ⟨hx, hb, hml, hown, hts⟩ (bd_isNan l (g x3.toNatClampNeg)) (va_cwS 1 hts gX1_left_X1_isNan rfl rfl rfl (by decide +kernel) ⟨Nat.le_of_ble_eq_true rfl, Nat.le_of_ble_eq_true rfl⟩) rfl hl.1 rfl (Nat.le_of_ble_eq_true rfl) dX1_left_54 (Nat.zero_le _) (Nat.zero_le _) ?_
          refine lv_if_eq (tgt := 72) hx hb dX1_left_57 (by decide) (fun h5 => ?_) (fun h5 => ?_)
          · refine lv_lload hx hb dX1_left_72 (lv_at hl 1 rfl) ?_
            refine bw_csi (rest := []) ⟨hx, hb, hml, hown, hts⟩ (bd_isInfinite l (g x2.toNatClampNeg)) (va_cwS 1 hts gX1_left_X1_isInfinite rfl rfl rfl (by decide +kernel) ⟨Nat.le_of_ble_eq_true rfl, Nat.le_of_ble_eq_true rfl⟩) rfl hl.1 rfl (Nat.le_of_ble_eq_true rfl) dX1_left_74 (Nat.zero_le _) (Nat.zero_le _) ?_
            refine lv_if_ne (tgt := 88) hx hb dX1_left_77 (by decide) (fun h6 => ?_) (fun h6 => ?_)
            · refine lv_aload_n hx hb dX1_left_88 rfl (lv_at hl 2 rfl) ?_
              refine va_get (D := (dC, dI)) (ci := 1) (v := .ref a0) (C := RX1) (T := TX1) (N := 5) hx hb hts hin0 hown hK hP 0 rfl rfl 0 (by decide) (hts (.fieldLink RX1 7 "BinaryFunctionsModel" "register" "[J") (by decide +kernel)) (fun _ h9 => h9) rfl dX1_left_89 ?_
              refine lv_iload_n hx hb dX1_left_92 rfl (lv_at hl 3 rfl) ?_
              refine lv_ldc2 hx hb hown (hts (.constantLong RX1 75 9221120237041090560) (by decide +kernel)) dX1_left_93 ?_
              refine va_last hx hb hK hP hD hS 1 0 rfl rfl (bm_reg1 h1) dX1_left_96 (fun H locs hP hD hS => ?_)
              have hP : va_P (dC, dI) vwCl [(h0, .inr (1, [.ref a0, .int f1, .int (0 : Int32), .long f3, .long f4])), (a0, .inl (cA, 8, .inr (.inl (vp_updL g x1.toNatClampNeg (9221120237041090560 : Int64)))))] H := hP
              have hD : va_D A [(h0, .inr (1, [.ref a0, .int f1, .int (0 : Int32), .long f3, .long f4])), (a0, .inl (cA, 8, .inr (.inl (vp_updL g x1.toNatClampNeg (9221120237041090560 : Int64)))))] := hD
              refine lv_aload_n hx hb dX1_left_97 rfl (lv_at hl 2 rfl) ?_
              refine lv_aload_n hx hb dX1_left_98 rfl (lv_at hl 2 rfl) ?_
              refine va_get (D := (dC, dI)) (ci := 1) (v := .int f1) (C := RX1) (T := TX1) (N := 5) hx hb hts hin0 hown hK hP 0 rfl rfl 1 (by decide) (hts (.fieldLink RX1 61 "BinaryFunctionsModel" "flag" "I") (by decide +kernel)) (fun _ h9 => h9) rfl dX1_left_99 ?_
              refine lv_iconst (v := 1) hx hb dX1_left_102 (by decide) ?_
              refine lv_ior hx hb dX1_left_103 ?_
              refine va_put (D := (dC, dI)) (ci := 1) (v := .int (f1 ||| (1 : Int32))) (ty := .int) (C := RX1) (T := TX1) (N := 5) hx hb hts hin0 tyX1 tyX1_ok nmX1 hown hK hP hD hS 0 rfl rfl 1 (by decide) (hts (.fieldLink RX1 61 "BinaryFunctionsModel" "flag" "I") (by decide +kernel)) (fun _ h9 => h9) rfl (by decide +kernel) rfl rfl (Nat.le_of_ble_eq_true rfl) dX1_left_104 (fun H locs hP hD hS => ?_)
              have hP : va_P (dC, dI) vwCl [(h0, .inr (1, [.ref a0, .int (f1 ||| (1 : Int32)), .int (0 : Int32), .long f3, .long f4])), (a0, .inl (cA, 8, .inr (.inl (vp_updL g x1.toNatClampNeg (9221120237041090560 : Int64)))))] H := hP
              have hD : va_D A [(h0, .inr (1, [.ref a0, .int (f1 ||| (1 : Int32)), .int (0 : Int32), .long f3, .long f4])), (a0, .inl (cA, 8, .inr (.inl (vp_updL g x1.toNatClampNeg (9221120237041090560 : Int64)))))] := hD
              refine lv_goto (tgt := 153) hx hb dX1_left_107 (by decide) ?_
              refine lv_iconst (v := 1) hx hb dX1_left_153 (by decide) ?_
              exact W.zret (v := (1 : Int32)) hx hb hr rfl (fun t ht hW => ⟨⟨(1 : Int32), (f1 ||| (1 : Int32), (0 : Int32), f3, f4, vp_updL g x1.toNatClampNeg (9221120237041090560 : Int64)), rfl, by rw [bg_left, if_neg h1, if_neg h2, if_neg h3, if_pos h4, if_pos h5, if_neg h6], by rw [ht]; exact hP, va_K.moved hW.alike hK, hD⟩, hS.F ht⟩) hS.2.2 dX1_left_154
            · refine lv_lload hx hb dX1_left_80 (lv_at hl 0 rfl) ?_
              refine bw_csi (rest := []) ⟨hx, hb, hml, hown, hts⟩ (bd_isZero l (g x3.toNatClampNeg)) (va_cwS 1 hts gX1_left_X1_isZero rfl rfl rfl (by decide +kernel) ⟨Nat.le_of_ble_eq_true rfl, Nat.le_of_ble_eq_true rfl⟩) rfl hl.1 rfl (Nat.le_of_ble_eq_true rfl) dX1_left_82 (Nat.zero_le _) (Nat.zero_le _) ?_
              refine lv_if_eq (tgt := 110) hx hb dX1_left_85 (by decide) (fun h7 => ?_) (fun h7 => ?_)
              · refine lv_lload hx hb dX1_left_110 (lv_at hl 0 rfl) ?_
                refine bw_csi (rest := []) ⟨hx, hb, hml, hown, hts⟩ (bd_isInfinite l (g x3.toNatClampNeg)) (va_cwS 1 hts gX1_left_X1_isInfinite rfl rfl rfl (by decide +kernel) ⟨Nat.le_of_ble_eq_true rfl, Nat.le_of_ble_eq_true rfl⟩) rfl hl.1 rfl (Nat.le_of_ble_eq_true rfl) dX1_left_112 (Nat.zero_le _) (Nat.zero_le _) ?_
                refine lv_if_ne (tgt := 126) hx hb dX1_left_115 (by decide) (fun h8 => ?_) (fun h8 => ?_)
                · refine lv_aload_n hx hb dX1_left_126 rfl (lv_at hl 2 rfl) ?_
                  refine va_get (D := (dC, dI)) (ci := 1) (v := .ref a0) (C := RX1) (T := TX1) (N := 5) hx hb hts hin0 hown hK hP 0 rfl rfl 0 (by decide) (hts (.fieldLink RX1 7 "BinaryFunctionsModel" "register" "[J") (by decide +kernel)) (fun _ h9 => h9) rfl dX1_left_127 ?_
                  refine lv_iload_n hx hb dX1_left_130 rfl (lv_at hl 3 rfl) ?_
                  refine lv_lload hx hb dX1_left_131 (lv_at hl 1 rfl) ?_
                  refine va_last hx hb hK hP hD hS 1 0 rfl rfl (bm_reg1 h1) dX1_left_133 (fun H locs hP hD hS => ?_)
                  have hP : va_P (dC, dI) vwCl [(h0, .inr (1, [.ref a0, .int f1, .int (0 : Int32), .long f3, .long f4])), (a0, .inl (cA, 8, .inr (.inl (vp_updL g x1.toNatClampNeg (g x2.toNatClampNeg)))))] H := hP
                  have hD : va_D A [(h0, .inr (1, [.ref a0, .int f1, .int (0 : Int32), .long f3, .long f4])), (a0, .inl (cA, 8, .inr (.inl (vp_updL g x1.toNatClampNeg (g x2.toNatClampNeg)))))] := hD
                  refine lv_goto (tgt := 153) hx hb dX1_left_134 (by decide) ?_
                  refine lv_iconst (v := 1) hx hb dX1_left_153 (by decide) ?_
                  exact W.zret (v := (1 : Int32)) hx hb hr rfl (fun t ht hW => ⟨⟨(1 : Int32), (f1, (0 : Int32), f3, f4, vp_updL g x1.toNatClampNeg (g x2.toNatClampNeg)), rfl, by rw [bg_left, if_neg h1, if_neg h2, if_neg h3, if_pos h4, if_pos h5, if_pos h6, if_pos h7, if_neg h8], by rw [ht]; exact hP, va_K.moved hW.alike hK, hD⟩, hS.F ht⟩) hS.2.2 dX1_left_154
                · refine lv_lload hx hb dX1_left_118 (lv_at hl 1 rfl) ?_
                  refine bw_csi (rest := []) ⟨hx, hb, hml, hown, hts⟩ (bd_isZero l (g x2.toNatClampNeg)) (va_cwS 1 hts gX1_left_X1_isZero rfl rfl rfl (by decide +kernel) ⟨Nat.le_of_ble_eq_true rfl, Nat.le_of_ble_eq_true rfl⟩) rfl hl.1 rfl (Nat.le_of_ble_eq_true rfl) dX1_left_120 (Nat.zero_le _) (Nat.zero_le _) ?_
                  refine lv_if_eq (tgt := 137) hx hb dX1_left_123 (by decide) (fun h9 => ?_) (fun h9 => ?_)
                  · refine lv_aload_n hx hb dX1_left_137 rfl (lv_at hl 2 rfl) ?_
                    refine va_get (D := (dC, dI)) (ci := 1) (v := .ref a0) (C := RX1) (T := TX1) (N := 5) hx hb hts hin0 hown hK hP 0 rfl rfl 0 (by decide) (hts (.fieldLink RX1 7 "BinaryFunctionsModel" "register" "[J") (by decide +kernel)) (fun _ h9 => h9) rfl dX1_left_138 ?_
                    refine lv_iload_n hx hb dX1_left_141 rfl (lv_at hl 3 rfl) ?_
                    refine lv_aload_n hx hb dX1_left_142 rfl (lv_at hl 2 rfl) ?_
                    refine lv_lload hx hb dX1_left_143 (lv_at hl 1 rfl) ?_
                    refine lv_lload hx hb dX1_left_145 (lv_at hl 0 rfl) ?_
                    refine lv_iload hx hb dX1_left_147 (lv_at hl 6 rfl) ?_
                    refine bw_vl1 (rest := [.int x1, .ref a0]) 0 ⟨hx, hb, hml, hown, hts⟩ (bd_rest l dC dI h0 a0 H.size f1 (0 : Int32) f3 f4 (g x2.toNatClampNeg) (g x3.toNatClampNeg) x4 (bs_nz1 h7) (bs_nz2 h7)) (cwV 3 hts gX1_left_X1_rest rfl rfl rfl (by decide +kernel) ⟨Nat.le_of_ble_eq_true rfl, Nat.le_of_ble_eq_true rfl⟩) hK hP hD hS hA rfl rfl rfl hl.1 rfl (Nat.le_of_ble_eq_true rfl) dX1_left_149 (Nat.zero_le _) (Nat.zero_le _) (fun H locs hP hD hS => ?_)
                    have hP : va_P (dC, dI) vwCl [(h0, .inr (1, [.ref a0, .int ((bg_rest f1 (0 : Int32) f3 f4 (g x2.toNatClampNeg) (g x3.toNatClampNeg) x4).2.1), .int ((bg_rest f1 (0 : Int32) f3 f4 (g x2.toNatClampNeg) (g x3.toNatClampNeg) x4).2.2.1), .long ((bg_rest f1 (0 : Int32) f3 f4 (g x2.toNatClampNeg) (g x3.toNatClampNeg) x4).2.2.2.1), .long ((bg_rest f1 (0 : Int32) f3 f4 (g x2.toNatClampNeg) (g x3.toNatClampNeg) x4).2.2.2.2)])), (a0, .inl (cA, 8, .inr (.inl g)))] H := hP
                    have hD : va_D A [(h0, .inr (1, [.ref a0, .int ((bg_rest f1 (0 : Int32) f3 f4 (g x2.toNatClampNeg) (g x3.toNatClampNeg) x4).2.1), .int ((bg_rest f1 (0 : Int32) f3 f4 (g x2.toNatClampNeg) (g x3.toNatClampNeg) x4).2.2.1), .long ((bg_rest f1 (0 : Int32) f3 f4 (g x2.toNatClampNeg) (g x3.toNatClampNeg) x4).2.2.2.1), .long ((bg_rest f1 (0 : Int32) f3 f4 (g x2.toNatClampNeg) (g x3.toNatClampNeg) x4).2.2.2.2)])), (a0, .inl (cA, 8, .inr (.inl g)))] := hD
                    obtain ⟨r10, e10⟩ : ∃ r, (bg_rest f1 (0 : Int32) f3 f4 (g x2.toNatClampNeg) (g x3.toNatClampNeg) x4) = r := ⟨_, rfl⟩
                    rw [e10] at hP hD ⊢
                    refine va_last hx hb hK hP hD hS 1 0 rfl rfl (bm_reg1 h1) dX1_left_152 (fun H locs hP hD hS => ?_)
                    have hP : va_P (dC, dI) vwCl [(h0, .inr (1, [.ref a0, .int r10.2.1, .int r10.2.2.1, .long r10.2.2.2.1, .long r10.2.2.2.2])), (a0, .inl (cA, 8, .inr (.inl (vp_updL g x1.toNatClampNeg r10.1))))] H := hP
                    have hD : va_D A [(h0, .inr (1, [.ref a0, .int r10.2.1, .int r10.2.2.1, .long r10.2.2.2.1, .long r10.2.2.2.2])), (a0, .inl (cA, 8, .inr (.inl (vp_updL g x1.toNatClampNeg r10.1))))] := hD
                    refine lv_iconst (v := 1) hx hb dX1_left_153 (by decide) ?_
                    exact W.zret (v := (1 : Int32)) hx hb hr rfl (fun t ht hW => ⟨⟨(1 : Int32), (r10.2.1, r10.2.2.1, r10.2.2.2.1, r10.2.2.2.2, vp_updL g x1.toNatClampNeg r10.1), rfl, by rw [bg_left, if_neg h1, if_neg h2, if_neg h3, if_pos h4, if_pos h5, if_pos h6, if_pos h7, if_pos h8, if_pos h9, e10, bg_left_k1], by rw [ht]; exact hP, va_K.moved hW.alike hK, hD⟩, hS.F ht⟩) hS.2.2 dX1_left_154
                  · refine lv_aload_n hx hb dX1_left_126 rfl (lv_at hl 2 rfl) ?_
                    refine va_get (D := (dC, dI)) (ci := 1) (v := .ref a0) (C := RX1) (T := TX1) (N := 5) hx hb hts hin0 hown hK hP 0 rfl rfl 0 (by decide) (hts (.fieldLink RX1 7 "BinaryFunctionsModel" "register" "[J") (by decide +kernel)) (fun _ h9 => h9) rfl dX1_left_127 ?_
                    refine lv_iload_n hx hb dX1_left_130 rfl (lv_at hl 3 rfl) ?_
                    refine lv_lload hx hb dX1_left_131 (lv_at hl 1 rfl) ?_
                    refine va_last hx hb hK hP hD hS 1 0 rfl rfl (bm_reg1 h1) dX1_left_133 (fun H locs hP hD hS => ?_)
                    have hP : va_P (dC, dI) vwCl [(h0, .inr (1, [.ref a0, .int f1, .int (0 : Int32), .long f3, .long f4])), (a0, .inl (cA, 8, .inr (.inl (vp_updL g x1.toNatClampNeg (g x2.toNatClampNeg)))))] H := hP
                    have hD : va_D A [(h0, .inr (1, [.ref a0, .int f1, .int (0 : Int32), .long f3, .long f4])), (a0, .inl (cA, 8, .inr (.inl (vp_updL g x1.toNatClampNeg (g x2.toNatClampNeg)))))] := hD
                    refine lv_goto (tgt := 153) hx hb dX1_left_134 (by decide) ?_
                    refine lv_iconst (v := 1) hx hb dX1_left_153 (by decide) ?_
                    exact W.zret (v := (1 : Int32)) hx hb hr rfl (fun t ht hW => ⟨⟨(1 : Int32), (f1, (0 : Int32), f3, f4, vp_updL g x1.toNatClampNeg (g x2.toNatClampNeg)), rfl, by rw [bg_left, if_neg h1, if_neg h2, if_neg h3, if_pos h4, if_pos h5, if_pos h6, if_pos h7, if_pos h8, if_neg h9], by rw [ht]; exact hP, va_K.moved hW.alike hK, hD⟩, hS.F ht⟩) hS.2.2 dX1_left_154
              · refine lv_aload_n hx hb dX1_left_88 rfl (lv_at hl 2 rfl) ?_
                refine va_get (D := (dC, dI)) (ci := 1) (v := .ref a0) (C := RX1) (T := TX1) (N := 5) hx hb hts hin0 hown hK hP 0 rfl rfl 0 (by decide) (hts (.fieldLink RX1 7 "BinaryFunctionsModel" "register" "[J") (by decide +kernel)) (fun _ h9 => h9) rfl dX1_left_89 ?_
                refine lv_iload_n hx hb dX1_left_92 rfl (lv_at hl 3 rfl) ?_
                refine lv_ldc2 hx hb hown (hts (.constantLong RX1 75 9221120237041090560) (by decide +kernel)) dX1_left_93 ?_
                refine va_last hx hb hK hP hD hS 1 0 rfl rfl (bm_reg1 h1) dX1_left_96 (fun H locs hP hD hS => ?_)
                have hP : va_P (dC, dI) vwCl [(h0, .inr (1, [.ref a0, .int f1, .int (0 : Int32), .long f3, .long f4])), (a0, .inl (cA, 8, .inr (.inl (vp_updL g x1.toNatClampNeg (9221120237041090560 : Int64)))))] H := hP
                have hD : va_D A [(h0, .inr (1, [.ref a0, .int f1, .int (0 : Int32), .long f3, .long f4])), (a0, .inl (cA, 8, .inr (.inl (vp_updL g x1.toNatClampNeg (9221120237041090560 : Int64)))))] := hD
                refine lv_aload_n hx hb dX1_left_97 rfl (lv_at hl 2 rfl) ?_
                refine lv_aload_n hx hb dX1_left_98 rfl (lv_at hl 2 rfl) ?_
                refine va_get (D := (dC, dI)) (ci := 1) (v := .int f1) (C := RX1) (T := TX1) (N := 5) hx hb hts hin0 hown hK hP 0 rfl rfl 1 (by decide) (hts (.fieldLink RX1 61 "BinaryFunctionsModel" "flag" "I") (by decide +kernel)) (fun _ h9 => h9) rfl dX1_left_99 ?_
                refine lv_iconst (v := 1) hx hb dX1_left_102 (by decide) ?_
                refine lv_ior hx hb dX1_left_103 ?_
                refine va_put (D := (dC, dI)) (ci := 1) (v := .int (f1 ||| (1 : Int32))) (ty := .int) (C := RX1) (T := TX1) (N := 5) hx hb hts hin0 tyX1 tyX1_ok nmX1 hown hK hP hD hS 0 rfl rfl 1 (by decide) (hts (.fieldLink RX1 61 "BinaryFunctionsModel" "flag" "I") (by decide +kernel)) (fun _ h9 => h9) rfl (by decide +kernel) rfl rfl (Nat.le_of_ble_eq_true rfl) dX1_left_104 (fun H locs hP hD hS => ?_)
                have hP : va_P (dC, dI) vwCl [(h0, .inr (1, [.ref a0, .int (f1 ||| (1 : Int32)), .int (0 : Int32), .long f3, .long f4])), (a0, .inl (cA, 8, .inr (.inl (vp_updL g x1.toNatClampNeg (9221120237041090560 : Int64)))))] H := hP
                have hD : va_D A [(h0, .inr (1, [.ref a0, .int (f1 ||| (1 : Int32)), .int (0 : Int32), .long f3, .long f4])), (a0, .inl (cA, 8, .inr (.inl (vp_updL g x1.toNatClampNeg (9221120237041090560 : Int64)))))] := hD
                refine lv_goto (tgt := 153) hx hb dX1_left_107 (by decide) ?_
                refine lv_iconst (v := 1) hx hb dX1_left_153 (by decide) ?_
                exact W.zret (v := (1 : Int32)) hx hb hr rfl (fun t ht hW => ⟨⟨(1 : Int32), (f1 ||| (1 : Int32), (0 : Int32), f3, f4, vp_updL g x1.toNatClampNeg (9221120237041090560 : Int64)), rfl, by rw [bg_left, if_neg h1, if_neg h2, if_neg h3, if_pos h4, if_pos h5, if_pos h6, if_neg h7], by rw [ht]; exact hP, va_K.moved hW.alike hK, hD⟩, hS.F ht⟩) hS.2.2 dX1_left_154
          · refine lv_aload_n hx hb dX1_left_60 rfl (lv_at hl 2 rfl) ?_
            refine va_get (D := (dC, dI)) (ci := 1) (v := .ref a0) (C := RX1) (T := TX1) (N := 5) hx hb hts hin0 hown hK hP 0 rfl rfl 0 (by decide) (hts (.fieldLink RX1 7 "BinaryFunctionsModel" "register" "[J") (by decide +kernel)) (fun _ h9 => h9) rfl dX1_left_61 ?_
            refine lv_iload_n hx hb dX1_left_64 rfl (lv_at hl 3 rfl) ?_
            refine lv_ldc2 hx hb hown (hts (.constantLong RX1 75 9221120237041090560) (by decide +kernel)) dX1_left_65 ?_
            refine va_last hx hb hK hP hD hS 1 0 rfl rfl (bm_reg1 h1) dX1_left_68 (fun H locs hP hD hS => ?_)
            have hP : va_P (dC, dI) vwCl [(h0, .inr (1, [.ref a0, .int f1, .int (0 : Int32), .long f3, .long f4])), (a0, .inl (cA, 8, .inr (.inl (vp_updL g x1.toNatClampNeg (9221120237041090560 : Int64)))))] H := hP
            have hD : va_D A [(h0, .inr (1, [.ref a0, .int f1, .int (0 : Int32), .long f3, .long f4])), (a0, .inl (cA, 8, .inr (.inl (vp_updL g x1.toNatClampNeg (9221120237041090560 : Int64)))))] := hD
            refine lv_goto (tgt := 153) hx hb dX1_left_69 (by decide) ?_
            refine lv_iconst (v := 1) hx hb dX1_left_153 (by decide) ?_
            exact W.zret (v := (1 : Int32)) hx hb hr rfl (fun t ht hW => ⟨⟨(1 : Int32), (f1, (0 : Int32), f3, f4, vp_updL g x1.toNatClampNeg (9221120237041090560 : Int64)), rfl, by rw [bg_left, if_neg h1, if_neg h2, if_neg h3, if_pos h4, if_neg h5], by rw [ht]; exact hP, va_K.moved hW.alike hK, hD⟩, hS.F ht⟩) hS.2.2 dX1_left_154
      · refine lv_iconst (v := 0) hx hb dX1_left_21 (by decide) ?_
        exact W.zret (v := (0 : Int32)) hx hb hr rfl (fun t ht hW => ⟨⟨(0 : Int32), (f1, f2, f3, f4, g), rfl, by rw [bg_left, if_neg h1, if_neg h2, if_pos h3], by rw [ht]; exact hP, va_K.moved hW.alike hK, hD⟩, hS.F ht⟩) hS.2.2 dX1_left_22
set_option maxHeartbeats 4000000 in
set_option maxRecDepth 100000 in
theorem bd_quotient (l : Launch) (dC : Nat → ClassId) (dI : Nat → Nat → Nat) (h0 a0 : Nat) (cA : ClassId) (sz : Nat) (f1 : Int32) (f2 : Int32) (f3 : Int64) (f4 : Int64) (g : Nat → Int64) : Met l yX1_quotient wsX1_quotient ({ frames := 0, cells := 0, slots := 0, locals := 0 }) (va_Pc [.ref h0] (bw_I2 (dC, dI) vwCl sz h0 a0 cA (.inr (1, [.ref a0, .int f1, .int f2, .long f3, .long f4])) (.inl (cA, 8, .inr (.inl g))))) (va_Qi (fun (r : Int32) (u : Int32 × Int32 × Int64 × Int64 × (Nat → Int64)) => (r, u) = bg_quotient f1 f2 f3 f4 g) (fun u t => bw_O2 (dC, dI) vwCl (va_A [(h0, .inr (1, [.ref a0, .int f1, .int f2, .long f3, .long f4])), (a0, .inl (cA, 8, .inr (.inl g)))] sz) h0 a0 cA (.inr (1, [.ref a0, .int u.1, .int u.2.1, .long u.2.2.1, .long u.2.2.2.1])) (.inl (cA, 8, .inr (.inl u.2.2.2.2))) t) (va_A [(h0, .inr (1, [.ref a0, .int f1, .int f2, .long f3, .long f4])), (a0, .inl (cA, 8, .inr (.inl g)))] sz)) 0 0 (va_A [(h0, .inr (1, [.ref a0, .int f1, .int f2, .long f3, .long f4])), (a0, .inl (cA, 8, .inr (.inl g)))] sz) := by
  refine Met.ofW (cc := cX1_quotient) (maxL := 1) (ret := (some .int)) (by decide) rfl ?_
  intro p e s m args below meth c s₁ B hml hv
  obtain ⟨rfl, hsz, hP, hK, hD0⟩ := hv
  have hx := B.exec
  have hb := B.bytes
  have hr := B.returns
  have hts := atoms_spec (ws := wsX1_quotient) B.pre
  have hown : s.vm.findClass RX1 = some m.cls := findClass_of_methodNamed B.named
  have hlocks := B.notSynchronized
  subst hsz
  have hD := hD0.self (sz := s.heap.size)
  generalize hAe : va_A [(h0, .inr (1, [.ref a0, .int f1, .int f2, .long f3, .long f4])), (a0, .inl (cA, 8, .inr (.inl g)))] s.heap.size = A at hD ⊢
  have hA : ∀ q : Nat, s.heap.size ≤ q → A q := fun q h => by rw [← hAe]; exact Or.inr h
  have hS : va_S A s.heap s.heap [] := va_S.rf
  have hP : va_P (dC, dI) vwCl [(h0, .inr (1, [.ref a0, .int f1, .int f2, .long f3, .long f4])), (a0, .inl (cA, 8, .inr (.inl g)))] s.heap := hP
  have hin0 : ∀ w ∈ u_ws RX1 TX1 5, w ∈ wsX1_quotient := by decide +kernel
  have hl := lv_entry ([.ref h0]) (n := 1) (Nat.le_of_ble_eq_true rfl)
  rw [lg_entry_eq]
  generalize (lg_sl ([.ref h0]) ++ List.replicate (1 - (lg_sl ([.ref h0])).length) Slot.unset).toArray = ls at hl ⊢
  have hl : lv_has ls 1 [(0, .ref h0)] := hl
  refine lv_aload_n hx hb dX1_quotient_0 rfl (lv_at hl 0 rfl) ?_
  refine va_get (D := (dC, dI)) (ci := 1) (v := .int f2) (C := RX1) (T := TX1) (N := 5) hx hb hts hin0 hown hK hP 0 rfl rfl 2 (by decide) (hts (.fieldLink RX1 97 "BinaryFunctionsModel" "quotient" "I") (by decide +kernel)) (fun _ h9 => h9) rfl dX1_quotient_1 ?_
  exact W.iret (v := f2) hx hb hr (fun t ht hW => ⟨⟨f2, (f1, f2, f3, f4, g), rfl, by rw [bg_quotient], by rw [ht]; exact hP, va_K.moved hW.alike hK, hD⟩, hS.F ht⟩) hS.2.2 dX1_quotient_4
set_option maxHeartbeats 4000000 in
set_option maxRecDepth 100000 in
theorem bd_neighbour (l : Launch) (dC : Nat → ClassId) (dI : Nat → Nat → Nat) (h0 a0 : Nat) (cA : ClassId) (sz : Nat) (f1 : Int32) (f2 : Int32) (f3 : Int64) (f4 : Int64) (g : Nat → Int64) (x1 : Int32) (x2 : Int32) (x3 : Int32) : Met l yX1_neighbour wsX1_neighbour ({ frames := 2, cells := 0, slots := 0, locals := 42 }) (va_Pc [.ref h0, .int x1, .int x2, .int x3] (bw_I2 (dC, dI) vwCl sz h0 a0 cA (.inr (1, [.ref a0, .int f1, .int f2, .long f3, .long f4])) (.inl (cA, 8, .inr (.inl g))))) (va_Qi (fun (r : Int32) (u : Int32 × Int32 × Int64 × Int64 × (Nat → Int64)) => (r, u) = bg_neighbour f1 f2 f3 f4 g x1 x2 x3) (fun u t => bw_O2 (dC, dI) vwCl (va_A [(h0, .inr (1, [.ref a0, .int f1, .int f2, .long f3, .long f4])), (a0, .inl (cA, 8, .inr (.inl g)))] sz) h0 a0 cA (.inr (1, [.ref a0, .int u.1, .int u.2.1, .long u.2.2.1, .long u.2.2.2.1])) (.inl (cA, 8, .inr (.inl u.2.2.2.2))) t) (va_A [(h0, .inr (1, [.ref a0, .int f1, .int f2, .long f3, .long f4])), (a0, .inl (cA, 8, .inr (.inl g)))] sz)) 0 0 (va_A [(h0, .inr (1, [.ref a0, .int f1, .int f2, .long f3, .long f4])), (a0, .inl (cA, 8, .inr (.inl g)))] sz) := by
  refine Met.ofW (cc := cX1_neighbour) (maxL := 14) (ret := (some .boolean)) (by decide) rfl ?_
  intro p e s m args below meth c s₁ B hml hv
  obtain ⟨rfl, hsz, hP, hK, hD0⟩ := hv
  have hx := B.exec
  have hb := B.bytes
  have hr := B.returns
  have hts := atoms_spec (ws := wsX1_neighbour) B.pre
  have hown : s.vm.findClass RX1 = some m.cls := findClass_of_methodNamed B.named
  have hlocks := B.notSynchronized
  subst hsz
  have hD := hD0.self (sz := s.heap.size)
  generalize hAe : va_A [(h0, .inr (1, [.ref a0, .int f1, .int f2, .long f3, .long f4])), (a0, .inl (cA, 8, .inr (.inl g)))] s.heap.size = A at hD ⊢
  have hA : ∀ q : Nat, s.heap.size ≤ q → A q := fun q h => by rw [← hAe]; exact Or.inr h
  have hS : va_S A s.heap s.heap [] := va_S.rf
  have hP : va_P (dC, dI) vwCl [(h0, .inr (1, [.ref a0, .int f1, .int f2, .long f3, .long f4])), (a0, .inl (cA, 8, .inr (.inl g)))] s.heap := hP
  have hin0 : ∀ w ∈ u_ws RX1 TX1 5, w ∈ wsX1_neighbour := by decide +kernel
  have hl := lv_entry ([.ref h0, .int x1, .int x2, .int x3]) (n := 14) (Nat.le_of_ble_eq_true rfl)
  rw [lg_entry_eq]
  generalize (lg_sl ([.ref h0, .int x1, .int x2, .int x3]) ++ List.replicate (14 - (lg_sl ([.ref h0, .int x1, .int x2, .int x3])).length) Slot.unset).toArray = ls at hl ⊢
  have hl : lv_has ls 14 [(0, .ref h0), (1, .int x1), (2, .int x2), (3, .int x3)] := hl
  refine lv_iload_n hx hb dX1_neighbour_0 rfl (lv_at hl 1 rfl) ?_
  refine bw_csi (rest := []) ⟨hx, hb, hml, hown, hts⟩ (bd_isRegister l x1) (va_cwS 1 hts gX1_neighbour_X1_isRegister rfl rfl rfl (by decide +kernel) ⟨Nat.le_of_ble_eq_true rfl, Nat.le_of_ble_eq_true rfl⟩) rfl hl.1 rfl (Nat.le_of_ble_eq_true rfl) dX1_neighbour_1 (Nat.zero_le _) (Nat.zero_le _) ?_
  refine lv_if_eq (tgt := 21) hx hb dX1_neighbour_4 (by decide) (fun h1 => ?_) (fun h1 => ?_)
  · refine lv_iconst (v := 0) hx hb dX1_neighbour_21 (by decide) ?_
    exact W.zret (v := (0 : Int32)) hx hb hr rfl (fun t ht hW => ⟨⟨(0 : Int32), (f1, f2, f3, f4, g), rfl, by rw [bg_neighbour, if_pos h1], by rw [ht]; exact hP, va_K.moved hW.alike hK, hD⟩, hS.F ht⟩) hS.2.2 dX1_neighbour_22
  · refine lv_iload_n hx hb dX1_neighbour_7 rfl (lv_at hl 2 rfl) ?_
    refine bw_csi (rest := []) ⟨hx, hb, hml, hown, hts⟩ (bd_isRegister l x2) (va_cwS 1 hts gX1_neighbour_X1_isRegister rfl rfl rfl (by decide +kernel) ⟨Nat.le_of_ble_eq_true rfl, Nat.le_of_ble_eq_true rfl⟩) rfl hl.1 rfl (Nat.le_of_ble_eq_true rfl) dX1_neighbour_8 (Nat.zero_le _) (Nat.zero_le _) ?_
    refine lv_if_eq (tgt := 21) hx hb dX1_neighbour_11 (by decide) (fun h2 => ?_) (fun h2 => ?_)
    · refine lv_iconst (v := 0) hx hb dX1_neighbour_21 (by decide) ?_
      exact W.zret (v := (0 : Int32)) hx hb hr rfl (fun t ht hW => ⟨⟨(0 : Int32), (f1, f2, f3, f4, g), rfl, by rw [bg_neighbour, if_neg h1, if_pos h2], by rw [ht]; exact hP, va_K.moved hW.alike hK, hD⟩, hS.F ht⟩) hS.2.2 dX1_neighbour_22
    · refine lv_iload_n hx hb dX1_neighbour_14 rfl (lv_at hl 3 rfl) ?_
      refine bw_csi (rest := []) ⟨hx, hb, hml, hown, hts⟩ (bd_isRegister l x3) (va_cwS 1 hts gX1_neighbour_X1_isRegister rfl rfl rfl (by decide +kernel) ⟨Nat.le_of_ble_eq_true rfl, Nat.le_of_ble_eq_true rfl⟩) rfl hl.1 rfl (Nat.le_of_ble_eq_true rfl) dX1_neighbour_15 (Nat.zero_le _) (Nat.zero_le _) ?_
      refine lv_if_ne (tgt := 23) hx hb dX1_neighbour_18 (by decide) (fun h3 => ?_) (fun h3 => ?_)
      · refine lv_aload_n hx hb dX1_neighbour_23 rfl (lv_at hl 0 rfl) ?_
        refine va_get (D := (dC, dI)) (ci := 1) (v := .ref a0) (C := RX1) (T := TX1) (N := 5) hx hb hts hin0 hown hK hP 0 rfl rfl 0 (by decide) (hts (.fieldLink RX1 7 "BinaryFunctionsModel" "register" "[J") (by decide +kernel)) (fun _ h9 => h9) rfl dX1_neighbour_24 ?_
        refine lv_iload_n hx hb dX1_neighbour_27 rfl (lv_at hl 2 rfl) ?_
        refine va_lald hx hb hK hP 1 0 rfl rfl (bm_reg1 h2) dX1_neighbour_28 ?_
        refine lv_lstore (nL := 14) (lv' := [(4, .long (g x2.toNatClampNeg)), (0, .ref h0), (1, .int x1), (2, .int x2), (3, .int x3)]) hx hb dX1_neighbour_29 hl (by decide) rfl (fun ls hl => ?_)
        refine lv_aload_n hx hb dX1_neighbour_31 rfl (lv_at hl 1 rfl) ?_
        refine va_get (D := (dC, dI)) (ci := 1) (v := .ref a0) (C := RX1) (T := TX1) (N := 5) hx hb hts hin0 hown hK hP 0 rfl rfl 0 (by decide) (hts (.fieldLink RX1 7 "BinaryFunctionsModel" "register" "[J") (by decide +kernel)) (fun _ h9 => h9) rfl dX1_neighbour_32 ?_
        refine lv_iload_n hx hb dX1_neighbour_35 rfl (lv_at hl 4 rfl) ?_
        refine va_lald hx hb hK hP 1 0 rfl rfl (bm_reg1 h3) dX1_neighbour_36 ?_
        refine lv_lstore (nL := 14) (lv' := [(6, .long (g x3.toNatClampNeg)), (4, .long (g x2.toNatClampNeg)), (0, .ref h0), (1, .int x1), (2, .int x2), (3, .int x3)]) hx hb dX1_neighbour_37 hl (by decide) rfl (fun ls hl => ?_)
        refine lv_lload hx hb dX1_neighbour_39 (lv_at hl 1 rfl) ?_
        refine bw_csi (rest := []) ⟨hx, hb, hml, hown, hts⟩ (bd_isNan l (g x2.toNatClampNeg)) (va_cwS 1 hts gX1_neighbour_X1_isNan rfl rfl rfl (by decide +kernel) ⟨Nat.le_of_ble_eq_true rfl, Nat.le_of_ble_eq_true rfl⟩) rfl hl.1 rfl (Nat.le_of_ble_eq_true rfl) dX1_neighbour_41 (Nat.zero_le _) (Nat.zero_le _) ?_
        refine lv_if_ne (tgt := 55) hx hb dX1_neighbour_44 (by decide) (fun h4 => ?_) (fun h4 => ?_)
        · refine lv_aload_n hx hb dX1_neighbour_55 rfl (lv_at hl 2 rfl) ?_
          refine va_get (D := (dC, dI)) (ci := 1) (v := .ref a0) (C := RX1) (T := TX1) (N := 5) hx hb hts hin0 hown hK hP 0 rfl rfl 0 (by decide) (hts (.fieldLink RX1 7 "BinaryFunctionsModel" "register" "[J") (by decide +kernel)) (fun _ h9 => h9) rfl dX1_neighbour_56 ?_
          refine lv_iload_n hx hb dX1_neighbour_59 rfl (lv_at hl 3 rfl) ?_
          refine lv_ldc2 hx hb hown (hts (.constantLong RX1 75 9221120237041090560) (by decide +kernel)) dX1_neighbour_60 ?_
          refine va_last hx hb hK hP hD hS 1 0 rfl rfl (bm_reg1 h1) dX1_neighbour_63 (fun H locs hP hD hS => ?_)
          have hP : va_P (dC, dI) vwCl [(h0, .inr (1, [.ref a0, .int f1, .int f2, .long f3, .long f4])), (a0, .inl (cA, 8, .inr (.inl (vp_updL g x1.toNatClampNeg (9221120237041090560 : Int64)))))] H := hP
          have hD : va_D A [(h0, .inr (1, [.ref a0, .int f1, .int f2, .long f3, .long f4])), (a0, .inl (cA, 8, .inr (.inl (vp_updL g x1.toNatClampNeg (9221120237041090560 : Int64)))))] := hD
          refine lv_iconst (v := 1) hx hb dX1_neighbour_64 (by decide) ?_
          exact W.zret (v := (1 : Int32)) hx hb hr rfl (fun t ht hW => ⟨⟨(1 : Int32), (f1, f2, f3, f4, vp_updL g x1.toNatClampNeg (9221120237041090560 : Int64)), rfl, by rw [bg_neighbour, if_neg h1, if_neg h2, if_neg h3, if_neg h4], by rw [ht]; exact hP, va_K.moved hW.alike hK, hD⟩, hS.F ht⟩) hS.2.2 dX1_neighbour_65
        · refine lv_lload hx hb dX1_neighbour_47 (lv_at hl 0 rfl) ?_
          refine bw_csi (rest := []) ⟨hx, hb, hml, hown, hts⟩ (bd_isNan l (g x3.toNatClampNeg)) (va_cwS 1 hts gX1_neighbour_X1_isNan rfl rfl rfl (by decide +kernel) ⟨Nat.le_of_ble_eq_true rfl, Nat.le_of_ble_eq_true rfl⟩) rfl hl.1 rfl (Nat.le_of_ble_eq_true rfl) dX1_neighbour_49 (Nat.zero_le _) (Nat.zero_le _) ?_
          refine lv_if_eq (tgt := 66) hx hb dX1_neighbour_52 (by decide) (fun h5 => ?_) (fun h5 => ?_)
          · refine lv_lload hx hb dX1_neighbour_66 (lv_at hl 1 rfl) ?_
            refine bw_csl (rest := []) ⟨hx, hb, hml, hown, hts⟩ (bd_place l (g x2.toNatClampNeg)) (va_cwS 1 hts gX1_neighbour_X1_place rfl rfl rfl (by decide +kernel) ⟨Nat.le_of_ble_eq_true rfl, Nat.le_of_ble_eq_true rfl⟩) rfl hl.1 rfl (Nat.le_of_ble_eq_true rfl) dX1_neighbour_68 (Nat.zero_le _) (Nat.zero_le _) ?_
            refine lv_lstore (nL := 14) (lv' := [(8, .long (bg_place (g x2.toNatClampNeg))), (6, .long (g x3.toNatClampNeg)), (4, .long (g x2.toNatClampNeg)), (0, .ref h0), (1, .int x1), (2, .int x2), (3, .int x3)]) hx hb dX1_neighbour_71 hl (by decide) rfl (fun ls hl => ?_)
            refine lv_lload hx hb dX1_neighbour_73 (lv_at hl 1 rfl) ?_
            refine bw_csl (rest := []) ⟨hx, hb, hml, hown, hts⟩ (bd_place l (g x3.toNatClampNeg)) (va_cwS 1 hts gX1_neighbour_X1_place rfl rfl rfl (by decide +kernel) ⟨Nat.le_of_ble_eq_true rfl, Nat.le_of_ble_eq_true rfl⟩) rfl hl.1 rfl (Nat.le_of_ble_eq_true rfl) dX1_neighbour_75 (Nat.zero_le _) (Nat.zero_le _) ?_
            refine lv_lstore (nL := 14) (lv' := [(10, .long (bg_place (g x3.toNatClampNeg))), (8, .long (bg_place (g x2.toNatClampNeg))), (6, .long (g x3.toNatClampNeg)), (4, .long (g x2.toNatClampNeg)), (0, .ref h0), (1, .int x1), (2, .int x2), (3, .int x3)]) hx hb dX1_neighbour_78 hl (by decide) rfl (fun ls hl => ?_)
            refine lv_lload hx hb dX1_neighbour_80 (lv_at hl 1 rfl) ?_
            refine lv_lload hx hb dX1_neighbour_82 (lv_at hl 0 rfl) ?_
            refine bw_lc_ne (tgt := 98) hx hb dX1_neighbour_84 dX1_neighbour_85 (by decide) (fun h6 => ?_) (fun h6 => ?_)
            · refine lv_lload hx hb dX1_neighbour_98 (lv_at hl 1 rfl) ?_
              refine lv_lload hx hb dX1_neighbour_100 (lv_at hl 0 rfl) ?_
              refine bw_lc_ge (tgt := 113) hx hb dX1_neighbour_102 dX1_neighbour_103 (by decide) (fun h7 => ?_) (fun h7 => ?_)
              · refine lv_lload hx hb dX1_neighbour_113 (lv_at hl 1 rfl) ?_
                refine lv_lconst (v := 1) hx hb dX1_neighbour_115 (by decide) ?_
                refine lv_lsub hx hb dX1_neighbour_116 ?_
                refine lv_lstore (nL := 14) (lv' := [(12, .long ((bg_place (g x2.toNatClampNeg)) - (1 : Int64))), (10, .long (bg_place (g x3.toNatClampNeg))), (8, .long (bg_place (g x2.toNatClampNeg))), (6, .long (g x3.toNatClampNeg)), (4, .long (g x2.toNatClampNeg)), (0, .ref h0), (1, .int x1), (2, .int x2), (3, .int x3)]) hx hb dX1_neighbour_117 hl (by decide) rfl (fun ls hl => ?_)
                refine lv_aload_n hx hb dX1_neighbour_119 rfl (lv_at hl 5 rfl) ?_
                refine va_get (D := (dC, dI)) (ci := 1) (v := .ref a0) (C := RX1) (T := TX1) (N := 5) hx hb hts hin0 hown hK hP 0 rfl rfl 0 (by decide) (hts (.fieldLink RX1 7 "BinaryFunctionsModel" "register" "[J") (by decide +kernel)) (fun _ h9 => h9) rfl dX1_neighbour_120 ?_
                refine lv_iload_n hx hb dX1_neighbour_123 rfl (lv_at hl 6 rfl) ?_
                refine lv_lload hx hb dX1_neighbour_124 (lv_at hl 0 rfl) ?_
                refine lv_lconst (v := 0) hx hb dX1_neighbour_126 (by decide) ?_
                refine bw_lc_ne (tgt := 143) hx hb dX1_neighbour_127 dX1_neighbour_128 (by decide) (fun h8 => ?_) (fun h8 => ?_)
                · refine lv_lload hx hb dX1_neighbour_143 (lv_at hl 0 rfl) ?_
                  refine lv_lconst (v := 0) hx hb dX1_neighbour_145 (by decide) ?_
                  refine bw_lc_ge (tgt := 160) hx hb dX1_neighbour_146 dX1_neighbour_147 (by decide) (fun h9 => ?_) (fun h9 => ?_)
                  · refine lv_lload hx hb dX1_neighbour_160 (lv_at hl 0 rfl) ?_
                    refine va_last hx hb hK hP hD hS 1 0 rfl rfl (bm_reg1 h1) dX1_neighbour_162 (fun H locs hP hD hS => ?_)
                    have hP : va_P (dC, dI) vwCl [(h0, .inr (1, [.ref a0, .int f1, .int f2, .long f3, .long f4])), (a0, .inl (cA, 8, .inr (.inl (vp_updL g x1.toNatClampNeg ((bg_place (g x2.toNatClampNeg)) - (1 : Int64))))))] H := hP
                    have hD : va_D A [(h0, .inr (1, [.ref a0, .int f1, .int f2, .long f3, .long f4])), (a0, .inl (cA, 8, .inr (.inl (vp_updL g x1.toNatClampNeg ((bg_place (g x2.toNatClampNeg)) - (1 : Int64))))))] := hD
                    refine lv_iconst (v := 1) hx hb dX1_neighbour_163 (by decide) ?_
                    exact W.zret (v := (1 : Int32)) hx hb hr rfl (fun t ht hW => ⟨⟨(1 : Int32), (f1, f2, f3, f4, vp_updL g x1.toNatClampNeg ((bg_place (g x2.toNatClampNeg)) - (1 : Int64))), rfl, by rw [bg_neighbour, if_neg h1, if_neg h2, if_neg h3, if_pos h4, if_pos h5, if_neg h6, if_pos h7, if_neg h8, if_pos h9], by rw [ht]; exact hP, va_K.moved hW.alike hK, hD⟩, hS.F ht⟩) hS.2.2 dX1_neighbour_164
                  · refine lv_lload hx hb dX1_neighbour_150 (lv_at hl 0 rfl) ?_
                    refine lv_lneg hx hb dX1_neighbour_152 ?_
                    refine lv_iconst (v := 1) hx hb dX1_neighbour_153 (by decide) ?_
                    refine bw_csl (rest := [.int x1, .ref a0]) ⟨hx, hb, hml, hown, hts⟩ (bd_signed l (-((bg_place (g x2.toNatClampNeg)) - (1 : Int64))) (1 : Int32)) (va_cwS 2 hts gX1_neighbour_X1_signed rfl rfl rfl (by decide +kernel) ⟨Nat.le_of_ble_eq_true rfl, Nat.le_of_ble_eq_true rfl⟩) rfl hl.1 rfl (Nat.le_of_ble_eq_true rfl) dX1_neighbour_154 (Nat.zero_le _) (Nat.zero_le _) ?_
                    refine lv_goto (tgt := 162) hx hb dX1_neighbour_157 (by decide) ?_
                    refine va_last hx hb hK hP hD hS 1 0 rfl rfl (bm_reg1 h1) dX1_neighbour_162 (fun H locs hP hD hS => ?_)
                    have hP : va_P (dC, dI) vwCl [(h0, .inr (1, [.ref a0, .int f1, .int f2, .long f3, .long f4])), (a0, .inl (cA, 8, .inr (.inl (vp_updL g x1.toNatClampNeg (bg_signed (-((bg_place (g x2.toNatClampNeg)) - (1 : Int64))) (1 : Int32))))))] H := hP
                    have hD : va_D A [(h0, .inr (1, [.ref a0, .int f1, .int f2, .long f3, .long f4])), (a0, .inl (cA, 8, .inr (.inl (vp_updL g x1.toNatClampNeg (bg_signed (-((bg_place (g x2.toNatClampNeg)) - (1 : Int64))) (1 : Int32))))))] := hD
                    refine lv_iconst (v := 1) hx hb dX1_neighbour_163 (by decide) ?_
                    exact W.zret (v := (1 : Int32)) hx hb hr rfl (fun t ht hW => ⟨⟨(1 : Int32), (f1, f2, f3, f4, vp_updL g x1.toNatClampNeg (bg_signed (-((bg_place (g x2.toNatClampNeg)) - (1 : Int64))) (1 : Int32))), rfl, by rw [bg_neighbour, if_neg h1, if_neg h2, if_neg h3, if_pos h4, if_pos h5, if_neg h6, if_pos h7, if_neg h8, if_neg h9], by rw [ht]; exact hP, va_K.moved hW.alike hK, hD⟩, hS.F ht⟩) hS.2.2 dX1_neighbour_164
                · refine lv_lconst (v := 0) hx hb dX1_neighbour_131 (by decide) ?_
                  refine lv_lload hx hb dX1_neighbour_132 (lv_at hl 4 rfl) ?_
                  refine bw_csi (rest := [.long (0 : Int64), .int x1, .ref a0]) ⟨hx, hb, hml, hown, hts⟩ (bd_negative l (g x2.toNatClampNeg)) (va_cwS 1 hts gX1_neighbour_X1_negative rfl rfl rfl (by decide +kernel) ⟨Nat.le_of_ble_eq_true rfl, Nat.le_of_ble_eq_true rfl⟩) rfl hl.1 rfl (Nat.le_of_ble_eq_true rfl) dX1_neighbour_134 (Nat.zero_le _) (Nat.zero_le _) ?_
                  refine bw_csl (rest := [.int x1, .ref a0]) ⟨hx, hb, hml, hown, hts⟩ (bd_signed l (0 : Int64) (bg_negative (g x2.toNatClampNeg))) (va_cwS 2 hts gX1_neighbour_X1_signed rfl rfl rfl (by decide +kernel) ⟨Nat.le_of_ble_eq_true rfl, Nat.le_of_ble_eq_true rfl⟩) rfl hl.1 rfl (Nat.le_of_ble_eq_true rfl) dX1_neighbour_137 (Nat.zero_le _) (Nat.zero_le _) ?_
                  refine lv_goto (tgt := 162) hx hb dX1_neighbour_140 (by decide) ?_
                  refine va_last hx hb hK hP hD hS 1 0 rfl rfl (bm_reg1 h1) dX1_neighbour_162 (fun H locs hP hD hS => ?_)
                  have hP : va_P (dC, dI) vwCl [(h0, .inr (1, [.ref a0, .int f1, .int f2, .long f3, .long f4])), (a0, .inl (cA, 8, .inr (.inl (vp_updL g x1.toNatClampNeg (bg_signed (0 : Int64) (bg_negative (g x2.toNatClampNeg)))))))] H := hP
                  have hD : va_D A [(h0, .inr (1, [.ref a0, .int f1, .int f2, .long f3, .long f4])), (a0, .inl (cA, 8, .inr (.inl (vp_updL g x1.toNatClampNeg (bg_signed (0 : Int64) (bg_negative (g x2.toNatClampNeg)))))))] := hD
                  refine lv_iconst (v := 1) hx hb dX1_neighbour_163 (by decide) ?_
                  exact W.zret (v := (1 : Int32)) hx hb hr rfl (fun t ht hW => ⟨⟨(1 : Int32), (f1, f2, f3, f4, vp_updL g x1.toNatClampNeg (bg_signed (0 : Int64) (bg_negative (g x2.toNatClampNeg)))), rfl, by rw [bg_neighbour, if_neg h1, if_neg h2, if_neg h3, if_pos h4, if_pos h5, if_neg h6, if_pos h7, if_pos h8], by rw [ht]; exact hP, va_K.moved hW.alike hK, hD⟩, hS.F ht⟩) hS.2.2 dX1_neighbour_164
              · refine lv_lload hx hb dX1_neighbour_106 (lv_at hl 1 rfl) ?_
                refine lv_lconst (v := 1) hx hb dX1_neighbour_108 (by decide) ?_
                refine lv_ladd hx hb dX1_neighbour_109 ?_
                refine lv_goto (tgt := 117) hx hb dX1_neighbour_110 (by decide) ?_
                refine lv_lstore (nL := 14) (lv' := [(12, .long ((bg_place (g x2.toNatClampNeg)) + (1 : Int64))), (10, .long (bg_place (g x3.toNatClampNeg))), (8, .long (bg_place (g x2.toNatClampNeg))), (6, .long (g x3.toNatClampNeg)), (4, .long (g x2.toNatClampNeg)), (0, .ref h0), (1, .int x1), (2, .int x2), (3, .int x3)]) hx hb dX1_neighbour_117 hl (by decide) rfl (fun ls hl => ?_)
                refine lv_aload_n hx hb dX1_neighbour_119 rfl (lv_at hl 5 rfl) ?_
                refine va_get (D := (dC, dI)) (ci := 1) (v := .ref a0) (C := RX1) (T := TX1) (N := 5) hx hb hts hin0 hown hK hP 0 rfl rfl 0 (by decide) (hts (.fieldLink RX1 7 "BinaryFunctionsModel" "register" "[J") (by decide +kernel)) (fun _ h9 => h9) rfl dX1_neighbour_120 ?_
                refine lv_iload_n hx hb dX1_neighbour_123 rfl (lv_at hl 6 rfl) ?_
                refine lv_lload hx hb dX1_neighbour_124 (lv_at hl 0 rfl) ?_
                refine lv_lconst (v := 0) hx hb dX1_neighbour_126 (by decide) ?_
                refine bw_lc_ne (tgt := 143) hx hb dX1_neighbour_127 dX1_neighbour_128 (by decide) (fun h10 => ?_) (fun h10 => ?_)
                · refine lv_lload hx hb dX1_neighbour_143 (lv_at hl 0 rfl) ?_
                  refine lv_lconst (v := 0) hx hb dX1_neighbour_145 (by decide) ?_
                  refine bw_lc_ge (tgt := 160) hx hb dX1_neighbour_146 dX1_neighbour_147 (by decide) (fun h11 => ?_) (fun h11 => ?_)
                  · refine lv_lload hx hb dX1_neighbour_160 (lv_at hl 0 rfl) ?_
                    refine va_last hx hb hK hP hD hS 1 0 rfl rfl (bm_reg1 h1) dX1_neighbour_162 (fun H locs hP hD hS => ?_)
                    have hP : va_P (dC, dI) vwCl [(h0, .inr (1, [.ref a0, .int f1, .int f2, .long f3, .long f4])), (a0, .inl (cA, 8, .inr (.inl (vp_updL g x1.toNatClampNeg ((bg_place (g x2.toNatClampNeg)) + (1 : Int64))))))] H := hP
                    have hD : va_D A [(h0, .inr (1, [.ref a0, .int f1, .int f2, .long f3, .long f4])), (a0, .inl (cA, 8, .inr (.inl (vp_updL g x1.toNatClampNeg ((bg_place (g x2.toNatClampNeg)) + (1 : Int64))))))] := hD
                    refine lv_iconst (v := 1) hx hb dX1_neighbour_163 (by decide) ?_
                    exact W.zret (v := (1 : Int32)) hx hb hr rfl (fun t ht hW => ⟨⟨(1 : Int32), (f1, f2, f3, f4, vp_updL g x1.toNatClampNeg ((bg_place (g x2.toNatClampNeg)) + (1 : Int64))), rfl, by rw [bg_neighbour, if_neg h1, if_neg h2, if_neg h3, if_pos h4, if_pos h5, if_neg h6, if_neg h7, if_neg h10, if_pos h11], by rw [ht]; exact hP, va_K.moved hW.alike hK, hD⟩, hS.F ht⟩) hS.2.2 dX1_neighbour_164
                  · refine lv_lload hx hb dX1_neighbour_150 (lv_at hl 0 rfl) ?_
                    refine lv_lneg hx hb dX1_neighbour_152 ?_
                    refine lv_iconst (v := 1) hx hb dX1_neighbour_153 (by decide) ?_
                    refine bw_csl (rest := [.int x1, .ref a0]) ⟨hx, hb, hml, hown, hts⟩ (bd_signed l (-((bg_place (g x2.toNatClampNeg)) + (1 : Int64))) (1 : Int32)) (va_cwS 2 hts gX1_neighbour_X1_signed rfl rfl rfl (by decide +kernel) ⟨Nat.le_of_ble_eq_true rfl, Nat.le_of_ble_eq_true rfl⟩) rfl hl.1 rfl (Nat.le_of_ble_eq_true rfl) dX1_neighbour_154 (Nat.zero_le _) (Nat.zero_le _) ?_
                    refine lv_goto (tgt := 162) hx hb dX1_neighbour_157 (by decide) ?_
                    refine va_last hx hb hK hP hD hS 1 0 rfl rfl (bm_reg1 h1) dX1_neighbour_162 (fun H locs hP hD hS => ?_)
                    have hP : va_P (dC, dI) vwCl [(h0, .inr (1, [.ref a0, .int f1, .int f2, .long f3, .long f4])), (a0, .inl (cA, 8, .inr (.inl (vp_updL g x1.toNatClampNeg (bg_signed (-((bg_place (g x2.toNatClampNeg)) + (1 : Int64))) (1 : Int32))))))] H := hP
                    have hD : va_D A [(h0, .inr (1, [.ref a0, .int f1, .int f2, .long f3, .long f4])), (a0, .inl (cA, 8, .inr (.inl (vp_updL g x1.toNatClampNeg (bg_signed (-((bg_place (g x2.toNatClampNeg)) + (1 : Int64))) (1 : Int32))))))] := hD
                    refine lv_iconst (v := 1) hx hb dX1_neighbour_163 (by decide) ?_
                    exact W.zret (v := (1 : Int32)) hx hb hr rfl (fun t ht hW => ⟨⟨(1 : Int32), (f1, f2, f3, f4, vp_updL g x1.toNatClampNeg (bg_signed (-((bg_place (g x2.toNatClampNeg)) + (1 : Int64))) (1 : Int32))), rfl, by rw [bg_neighbour, if_neg h1, if_neg h2, if_neg h3, if_pos h4, if_pos h5, if_neg h6, if_neg h7, if_neg h10, if_neg h11], by rw [ht]; exact hP, va_K.moved hW.alike hK, hD⟩, hS.F ht⟩) hS.2.2 dX1_neighbour_164
                · refine lv_lconst (v := 0) hx hb dX1_neighbour_131 (by decide) ?_
                  refine lv_lload hx hb dX1_neighbour_132 (lv_at hl 4 rfl) ?_
                  refine bw_csi (rest := [.long (0 : Int64), .int x1, .ref a0]) ⟨hx, hb, hml, hown, hts⟩ (bd_negative l (g x2.toNatClampNeg)) (va_cwS 1 hts gX1_neighbour_X1_negative rfl rfl rfl (by decide +kernel) ⟨Nat.le_of_ble_eq_true rfl, Nat.le_of_ble_eq_true rfl⟩) rfl hl.1 rfl (Nat.le_of_ble_eq_true rfl) dX1_neighbour_134 (Nat.zero_le _) (Nat.zero_le _) ?_
                  refine bw_csl (rest := [.int x1, .ref a0]) ⟨hx, hb, hml, hown, hts⟩ (bd_signed l (0 : Int64) (bg_negative (g x2.toNatClampNeg))) (va_cwS 2 hts gX1_neighbour_X1_signed rfl rfl rfl (by decide +kernel) ⟨Nat.le_of_ble_eq_true rfl, Nat.le_of_ble_eq_true rfl⟩) rfl hl.1 rfl (Nat.le_of_ble_eq_true rfl) dX1_neighbour_137 (Nat.zero_le _) (Nat.zero_le _) ?_
                  refine lv_goto (tgt := 162) hx hb dX1_neighbour_140 (by decide) ?_
                  refine va_last hx hb hK hP hD hS 1 0 rfl rfl (bm_reg1 h1) dX1_neighbour_162 (fun H locs hP hD hS => ?_)
                  have hP : va_P (dC, dI) vwCl [(h0, .inr (1, [.ref a0, .int f1, .int f2, .long f3, .long f4])), (a0, .inl (cA, 8, .inr (.inl (vp_updL g x1.toNatClampNeg (bg_signed (0 : Int64) (bg_negative (g x2.toNatClampNeg)))))))] H := hP
                  have hD : va_D A [(h0, .inr (1, [.ref a0, .int f1, .int f2, .long f3, .long f4])), (a0, .inl (cA, 8, .inr (.inl (vp_updL g x1.toNatClampNeg (bg_signed (0 : Int64) (bg_negative (g x2.toNatClampNeg)))))))] := hD
                  refine lv_iconst (v := 1) hx hb dX1_neighbour_163 (by decide) ?_
                  exact W.zret (v := (1 : Int32)) hx hb hr rfl (fun t ht hW => ⟨⟨(1 : Int32), (f1, f2, f3, f4, vp_updL g x1.toNatClampNeg (bg_signed (0 : Int64) (bg_negative (g x2.toNatClampNeg)))), rfl, by rw [bg_neighbour, if_neg h1, if_neg h2, if_neg h3, if_pos h4, if_pos h5, if_neg h6, if_neg h7, if_pos h10], by rw [ht]; exact hP, va_K.moved hW.alike hK, hD⟩, hS.F ht⟩) hS.2.2 dX1_neighbour_164
            · refine lv_aload_n hx hb dX1_neighbour_88 rfl (lv_at hl 4 rfl) ?_
              refine va_get (D := (dC, dI)) (ci := 1) (v := .ref a0) (C := RX1) (T := TX1) (N := 5) hx hb hts hin0 hown hK hP 0 rfl rfl 0 (by decide) (hts (.fieldLink RX1 7 "BinaryFunctionsModel" "register" "[J") (by decide +kernel)) (fun _ h9 => h9) rfl dX1_neighbour_89 ?_
              refine lv_iload_n hx hb dX1_neighbour_92 rfl (lv_at hl 5 rfl) ?_
              refine lv_lload hx hb dX1_neighbour_93 (lv_at hl 3 rfl) ?_
              refine va_last hx hb hK hP hD hS 1 0 rfl rfl (bm_reg1 h1) dX1_neighbour_95 (fun H locs hP hD hS => ?_)
              have hP : va_P (dC, dI) vwCl [(h0, .inr (1, [.ref a0, .int f1, .int f2, .long f3, .long f4])), (a0, .inl (cA, 8, .inr (.inl (vp_updL g x1.toNatClampNeg (g x2.toNatClampNeg)))))] H := hP
              have hD : va_D A [(h0, .inr (1, [.ref a0, .int f1, .int f2, .long f3, .long f4])), (a0, .inl (cA, 8, .inr (.inl (vp_updL g x1.toNatClampNeg (g x2.toNatClampNeg)))))] := hD
              refine lv_iconst (v := 1) hx hb dX1_neighbour_96 (by decide) ?_
              exact W.zret (v := (1 : Int32)) hx hb hr rfl (fun t ht hW => ⟨⟨(1 : Int32), (f1, f2, f3, f4, vp_updL g x1.toNatClampNeg (g x2.toNatClampNeg)), rfl, by rw [bg_neighbour, if_neg h1, if_neg h2, if_neg h3, if_pos h4, if_pos h5, if_pos h6], by rw [ht]; exact hP, va_K.moved hW.alike hK, hD⟩, hS.F ht⟩) hS.2.2 dX1_neighbour_97
          · refine lv_aload_n hx hb dX1_neighbour_55 rfl (lv_at hl 2 rfl) ?_
            refine va_get (D := (dC, dI)) (ci := 1) (v := .ref a0) (C := RX1) (T := TX1) (N := 5) hx hb hts hin0 hown hK hP 0 rfl rfl 0 (by decide) (hts (.fieldLink RX1 7 "BinaryFunctionsModel" "register" "[J") (by decide +kernel)) (fun _ h9 => h9) rfl dX1_neighbour_56 ?_
            refine lv_iload_n hx hb dX1_neighbour_59 rfl (lv_at hl 3 rfl) ?_
            refine lv_ldc2 hx hb hown (hts (.constantLong RX1 75 9221120237041090560) (by decide +kernel)) dX1_neighbour_60 ?_
            refine va_last hx hb hK hP hD hS 1 0 rfl rfl (bm_reg1 h1) dX1_neighbour_63 (fun H locs hP hD hS => ?_)
            have hP : va_P (dC, dI) vwCl [(h0, .inr (1, [.ref a0, .int f1, .int f2, .long f3, .long f4])), (a0, .inl (cA, 8, .inr (.inl (vp_updL g x1.toNatClampNeg (9221120237041090560 : Int64)))))] H := hP
            have hD : va_D A [(h0, .inr (1, [.ref a0, .int f1, .int f2, .long f3, .long f4])), (a0, .inl (cA, 8, .inr (.inl (vp_updL g x1.toNatClampNeg (9221120237041090560 : Int64)))))] := hD
            refine lv_iconst (v := 1) hx hb dX1_neighbour_64 (by decide) ?_
            exact W.zret (v := (1 : Int32)) hx hb hr rfl (fun t ht hW => ⟨⟨(1 : Int32), (f1, f2, f3, f4, vp_updL g x1.toNatClampNeg (9221120237041090560 : Int64)), rfl, by rw [bg_neighbour, if_neg h1, if_neg h2, if_neg h3, if_pos h4, if_neg h5], by rw [ht]; exact hP, va_K.moved hW.alike hK, hD⟩, hS.F ht⟩) hS.2.2 dX1_neighbour_65
      · refine lv_iconst (v := 0) hx hb dX1_neighbour_21 (by decide) ?_
        exact W.zret (v := (0 : Int32)) hx hb hr rfl (fun t ht hW => ⟨⟨(0 : Int32), (f1, f2, f3, f4, g), rfl, by rw [bg_neighbour, if_neg h1, if_neg h2, if_pos h3], by rw [ht]; exact hP, va_K.moved hW.alike hK, hD⟩, hS.F ht⟩) hS.2.2 dX1_neighbour_22
set_option maxHeartbeats 4000000 in
set_option maxRecDepth 100000 in
theorem bd_scale (l : Launch) (dC : Nat → ClassId) (dI : Nat → Nat → Nat) (h0 a0 : Nat) (cA : ClassId) (sz : Nat) (f1 : Int32) (f2 : Int32) (f3 : Int64) (f4 : Int64) (g : Nat → Int64) (x1 : Int32) (x2 : Int32) (x3 : Int32) : Met l yX1_scale wsX1_scale ({ frames := 2, cells := 0, slots := 0, locals := 64 }) (va_Pc [.ref h0, .int x1, .int x2, .int x3] (bw_I2 (dC, dI) vwCl sz h0 a0 cA (.inr (1, [.ref a0, .int f1, .int f2, .long f3, .long f4])) (.inl (cA, 8, .inr (.inl g))))) (va_Qi (fun (r : Int32) (u : Int32 × Int32 × Int64 × Int64 × (Nat → Int64)) => (r, u) = bg_scale f1 f2 f3 f4 g x1 x2 x3) (fun u t => bw_O2 (dC, dI) vwCl (va_A [(h0, .inr (1, [.ref a0, .int f1, .int f2, .long f3, .long f4])), (a0, .inl (cA, 8, .inr (.inl g)))] sz) h0 a0 cA (.inr (1, [.ref a0, .int u.1, .int u.2.1, .long u.2.2.1, .long u.2.2.2.1])) (.inl (cA, 8, .inr (.inl u.2.2.2.2))) t) (va_A [(h0, .inr (1, [.ref a0, .int f1, .int f2, .long f3, .long f4])), (a0, .inl (cA, 8, .inr (.inl g)))] sz)) 0 0 (va_A [(h0, .inr (1, [.ref a0, .int f1, .int f2, .long f3, .long f4])), (a0, .inl (cA, 8, .inr (.inl g)))] sz) := by
  refine Met.ofW (cc := cX1_scale) (maxL := 6) (ret := (some .boolean)) (by decide) rfl ?_
  intro p e s m args below meth c s₁ B hml hv
  obtain ⟨rfl, hsz, hP, hK, hD0⟩ := hv
  have hx := B.exec
  have hb := B.bytes
  have hr := B.returns
  have hts := atoms_spec (ws := wsX1_scale) B.pre
  have hown : s.vm.findClass RX1 = some m.cls := findClass_of_methodNamed B.named
  have hlocks := B.notSynchronized
  subst hsz
  have hD := hD0.self (sz := s.heap.size)
  generalize hAe : va_A [(h0, .inr (1, [.ref a0, .int f1, .int f2, .long f3, .long f4])), (a0, .inl (cA, 8, .inr (.inl g)))] s.heap.size = A at hD ⊢
  have hA : ∀ q : Nat, s.heap.size ≤ q → A q := fun q h => by rw [← hAe]; exact Or.inr h
  have hS : va_S A s.heap s.heap [] := va_S.rf
  have hP : va_P (dC, dI) vwCl [(h0, .inr (1, [.ref a0, .int f1, .int f2, .long f3, .long f4])), (a0, .inl (cA, 8, .inr (.inl g)))] s.heap := hP
  have hin0 : ∀ w ∈ u_ws RX1 TX1 5, w ∈ wsX1_scale := by decide +kernel
  have hl := lv_entry ([.ref h0, .int x1, .int x2, .int x3]) (n := 6) (Nat.le_of_ble_eq_true rfl)
  rw [lg_entry_eq]
  generalize (lg_sl ([.ref h0, .int x1, .int x2, .int x3]) ++ List.replicate (6 - (lg_sl ([.ref h0, .int x1, .int x2, .int x3])).length) Slot.unset).toArray = ls at hl ⊢
  have hl : lv_has ls 6 [(0, .ref h0), (1, .int x1), (2, .int x2), (3, .int x3)] := hl
  refine lv_iload_n hx hb dX1_scale_0 rfl (lv_at hl 1 rfl) ?_
  refine bw_csi (rest := []) ⟨hx, hb, hml, hown, hts⟩ (bd_isRegister l x1) (va_cwS 1 hts gX1_scale_X1_isRegister rfl rfl rfl (by decide +kernel) ⟨Nat.le_of_ble_eq_true rfl, Nat.le_of_ble_eq_true rfl⟩) rfl hl.1 rfl (Nat.le_of_ble_eq_true rfl) dX1_scale_1 (Nat.zero_le _) (Nat.zero_le _) ?_
  refine lv_if_eq (tgt := 14) hx hb dX1_scale_4 (by decide) (fun h1 => ?_) (fun h1 => ?_)
  · refine lv_iconst (v := 0) hx hb dX1_scale_14 (by decide) ?_
    exact W.zret (v := (0 : Int32)) hx hb hr rfl (fun t ht hW => ⟨⟨(0 : Int32), (f1, f2, f3, f4, g), rfl, by rw [bg_scale, if_pos h1], by rw [ht]; exact hP, va_K.moved hW.alike hK, hD⟩, hS.F ht⟩) hS.2.2 dX1_scale_15
  · refine lv_iload_n hx hb dX1_scale_7 rfl (lv_at hl 2 rfl) ?_
    refine bw_csi (rest := []) ⟨hx, hb, hml, hown, hts⟩ (bd_isRegister l x2) (va_cwS 1 hts gX1_scale_X1_isRegister rfl rfl rfl (by decide +kernel) ⟨Nat.le_of_ble_eq_true rfl, Nat.le_of_ble_eq_true rfl⟩) rfl hl.1 rfl (Nat.le_of_ble_eq_true rfl) dX1_scale_8 (Nat.zero_le _) (Nat.zero_le _) ?_
    refine lv_if_ne (tgt := 16) hx hb dX1_scale_11 (by decide) (fun h2 => ?_) (fun h2 => ?_)
    · refine lv_aload_n hx hb dX1_scale_16 rfl (lv_at hl 0 rfl) ?_
      refine va_get (D := (dC, dI)) (ci := 1) (v := .ref a0) (C := RX1) (T := TX1) (N := 5) hx hb hts hin0 hown hK hP 0 rfl rfl 0 (by decide) (hts (.fieldLink RX1 7 "BinaryFunctionsModel" "register" "[J") (by decide +kernel)) (fun _ h9 => h9) rfl dX1_scale_17 ?_
      refine lv_iload_n hx hb dX1_scale_20 rfl (lv_at hl 2 rfl) ?_
      refine va_lald hx hb hK hP 1 0 rfl rfl (bm_reg1 h2) dX1_scale_21 ?_
      refine lv_lstore (nL := 6) (lv' := [(4, .long (g x2.toNatClampNeg)), (0, .ref h0), (1, .int x1), (2, .int x2), (3, .int x3)]) hx hb dX1_scale_22 hl (by decide) rfl (fun ls hl => ?_)
      refine lv_lload hx hb dX1_scale_24 (lv_at hl 0 rfl) ?_
      refine bw_csi (rest := []) ⟨hx, hb, hml, hown, hts⟩ (bd_isNan l (g x2.toNatClampNeg)) (va_cwS 1 hts gX1_scale_X1_isNan rfl rfl rfl (by decide +kernel) ⟨Nat.le_of_ble_eq_true rfl, Nat.le_of_ble_eq_true rfl⟩) rfl hl.1 rfl (Nat.le_of_ble_eq_true rfl) dX1_scale_26 (Nat.zero_le _) (Nat.zero_le _) ?_
      refine lv_if_eq (tgt := 44) hx hb dX1_scale_29 (by decide) (fun h3 => ?_) (fun h3 => ?_)
      · refine lv_lload hx hb dX1_scale_44 (lv_at hl 0 rfl) ?_
        refine bw_csi (rest := []) ⟨hx, hb, hml, hown, hts⟩ (bd_isInfinite l (g x2.toNatClampNeg)) (va_cwS 1 hts gX1_scale_X1_isInfinite rfl rfl rfl (by decide +kernel) ⟨Nat.le_of_ble_eq_true rfl, Nat.le_of_ble_eq_true rfl⟩) rfl hl.1 rfl (Nat.le_of_ble_eq_true rfl) dX1_scale_46 (Nat.zero_le _) (Nat.zero_le _) ?_
        refine lv_if_ne (tgt := 60) hx hb dX1_scale_49 (by decide) (fun h4 => ?_) (fun h4 => ?_)
        · refine lv_aload_n hx hb dX1_scale_60 rfl (lv_at hl 1 rfl) ?_
          refine va_get (D := (dC, dI)) (ci := 1) (v := .ref a0) (C := RX1) (T := TX1) (N := 5) hx hb hts hin0 hown hK hP 0 rfl rfl 0 (by decide) (hts (.fieldLink RX1 7 "BinaryFunctionsModel" "register" "[J") (by decide +kernel)) (fun _ h9 => h9) rfl dX1_scale_61 ?_
          refine lv_iload_n hx hb dX1_scale_64 rfl (lv_at hl 2 rfl) ?_
          refine lv_lload hx hb dX1_scale_65 (lv_at hl 0 rfl) ?_
          refine va_last hx hb hK hP hD hS 1 0 rfl rfl (bm_reg1 h1) dX1_scale_67 (fun H locs hP hD hS => ?_)
          have hP : va_P (dC, dI) vwCl [(h0, .inr (1, [.ref a0, .int f1, .int f2, .long f3, .long f4])), (a0, .inl (cA, 8, .inr (.inl (vp_updL g x1.toNatClampNeg (g x2.toNatClampNeg)))))] H := hP
          have hD : va_D A [(h0, .inr (1, [.ref a0, .int f1, .int f2, .long f3, .long f4])), (a0, .inl (cA, 8, .inr (.inl (vp_updL g x1.toNatClampNeg (g x2.toNatClampNeg)))))] := hD
          refine lv_goto (tgt := 103) hx hb dX1_scale_68 (by decide) ?_
          refine lv_iconst (v := 1) hx hb dX1_scale_103 (by decide) ?_
          exact W.zret (v := (1 : Int32)) hx hb hr rfl (fun t ht hW => ⟨⟨(1 : Int32), (f1, f2, f3, f4, vp_updL g x1.toNatClampNeg (g x2.toNatClampNeg)), rfl, by rw [bg_scale, if_neg h1, if_neg h2, if_pos h3, if_neg h4], by rw [ht]; exact hP, va_K.moved hW.alike hK, hD⟩, hS.F ht⟩) hS.2.2 dX1_scale_104
        · refine lv_lload hx hb dX1_scale_52 (lv_at hl 0 rfl) ?_
          refine bw_csi (rest := []) ⟨hx, hb, hml, hown, hts⟩ (bd_isZero l (g x2.toNatClampNeg)) (va_cwS 1 hts gX1_scale_X1_isZero rfl rfl rfl (by decide +kernel) ⟨Nat.le_of_ble_eq_true rfl, Nat.le_of_ble_eq_true rfl⟩) rfl hl.1 rfl (Nat.le_of_ble_eq_true rfl) dX1_scale_54 (Nat.zero_le _) (Nat.zero_le _) ?_
          refine lv_if_eq (tgt := 71) hx hb dX1_scale_57 (by decide) (fun h5 => ?_) (fun h5 => ?_)
          · refine lv_aload_n hx hb dX1_scale_71 rfl (lv_at hl 1 rfl) ?_
            refine va_get (D := (dC, dI)) (ci := 1) (v := .ref a0) (C := RX1) (T := TX1) (N := 5) hx hb hts hin0 hown hK hP 0 rfl rfl 0 (by decide) (hts (.fieldLink RX1 7 "BinaryFunctionsModel" "register" "[J") (by decide +kernel)) (fun _ h9 => h9) rfl dX1_scale_72 ?_
            refine lv_iload_n hx hb dX1_scale_75 rfl (lv_at hl 2 rfl) ?_
            refine lv_aload_n hx hb dX1_scale_76 rfl (lv_at hl 1 rfl) ?_
            refine lv_lload hx hb dX1_scale_77 (lv_at hl 0 rfl) ?_
            refine bw_csl (rest := [.ref h0, .int x1, .ref a0]) ⟨hx, hb, hml, hown, hts⟩ (bd_number l (g x2.toNatClampNeg)) (va_cwS 1 hts gX1_scale_X1_number rfl rfl rfl (by decide +kernel) ⟨Nat.le_of_ble_eq_true rfl, Nat.le_of_ble_eq_true rfl⟩) rfl hl.1 rfl (Nat.le_of_ble_eq_true rfl) dX1_scale_79 (Nat.zero_le _) (Nat.zero_le _) ?_
            refine lv_lload hx hb dX1_scale_82 (lv_at hl 0 rfl) ?_
            refine bw_csi (rest := [.long (bg_number (g x2.toNatClampNeg)), .ref h0, .int x1, .ref a0]) ⟨hx, hb, hml, hown, hts⟩ (bd_power l (g x2.toNatClampNeg)) (va_cwS 1 hts gX1_scale_X1_power rfl rfl rfl (by decide +kernel) ⟨Nat.le_of_ble_eq_true rfl, Nat.le_of_ble_eq_true rfl⟩) rfl hl.1 rfl (Nat.le_of_ble_eq_true rfl) dX1_scale_84 (Nat.zero_le _) (Nat.zero_le _) ?_
            refine lv_i2l hx hb dX1_scale_87 rfl ?_
            refine lv_iload_n hx hb dX1_scale_88 rfl (lv_at hl 4 rfl) ?_
            refine lv_i2l hx hb dX1_scale_89 rfl ?_
            refine lv_ladd hx hb dX1_scale_90 ?_
            refine bw_vl1 (rest := [.int x1, .ref a0]) 0 ⟨hx, hb, hml, hown, hts⟩ (bd_rounded l dC dI h0 a0 s.heap.size f1 f2 f3 f4 (bg_number (g x2.toNatClampNeg)) (((bg_power (g x2.toNatClampNeg)).toInt64) + x3.toInt64)) (cwV 2 hts gX1_scale_X1_rounded rfl rfl rfl (by decide +kernel) ⟨Nat.le_of_ble_eq_true rfl, Nat.le_of_ble_eq_true rfl⟩) hK hP hD hS hA rfl rfl rfl hl.1 rfl (Nat.le_of_ble_eq_true rfl) dX1_scale_91 (Nat.zero_le _) (Nat.zero_le _) (fun H locs hP hD hS => ?_)
            have hP : va_P (dC, dI) vwCl [(h0, .inr (1, [.ref a0, .int ((bg_rounded f1 f2 f3 f4 (bg_number (g x2.toNatClampNeg)) (((bg_power (g x2.toNatClampNeg)).toInt64) + x3.toInt64)).2.1), .int ((bg_rounded f1 f2 f3 f4 (bg_number (g x2.toNatClampNeg)) (((bg_power (g x2.toNatClampNeg)).toInt64) + x3.toInt64)).2.2.1), .long ((bg_rounded f1 f2 f3 f4 (bg_number (g x2.toNatClampNeg)) (((bg_power (g x2.toNatClampNeg)).toInt64) + x3.toInt64)).2.2.2.1), .long ((bg_rounded f1 f2 f3 f4 (bg_number (g x2.toNatClampNeg)) (((bg_power (g x2.toNatClampNeg)).toInt64) + x3.toInt64)).2.2.2.2)])), (a0, .inl (cA, 8, .inr (.inl g)))] H := hP
            have hD : va_D A [(h0, .inr (1, [.ref a0, .int ((bg_rounded f1 f2 f3 f4 (bg_number (g x2.toNatClampNeg)) (((bg_power (g x2.toNatClampNeg)).toInt64) + x3.toInt64)).2.1), .int ((bg_rounded f1 f2 f3 f4 (bg_number (g x2.toNatClampNeg)) (((bg_power (g x2.toNatClampNeg)).toInt64) + x3.toInt64)).2.2.1), .long ((bg_rounded f1 f2 f3 f4 (bg_number (g x2.toNatClampNeg)) (((bg_power (g x2.toNatClampNeg)).toInt64) + x3.toInt64)).2.2.2.1), .long ((bg_rounded f1 f2 f3 f4 (bg_number (g x2.toNatClampNeg)) (((bg_power (g x2.toNatClampNeg)).toInt64) + x3.toInt64)).2.2.2.2)])), (a0, .inl (cA, 8, .inr (.inl g)))] := hD
            obtain ⟨r6, e6⟩ : ∃ r, (bg_rounded f1 f2 f3 f4 (bg_number (g x2.toNatClampNeg)) (((bg_power (g x2.toNatClampNeg)).toInt64) + x3.toInt64)) = r := ⟨_, rfl⟩
            rw [e6] at hP hD ⊢
            refine lv_lload hx hb dX1_scale_94 (lv_at hl 0 rfl) ?_
            refine bw_csi (rest := [.long r6.1, .int x1, .ref a0]) ⟨hx, hb, hml, hown, hts⟩ (bd_negative l (g x2.toNatClampNeg)) (va_cwS 1 hts gX1_scale_X1_negative rfl rfl rfl (by decide +kernel) ⟨Nat.le_of_ble_eq_true rfl, Nat.le_of_ble_eq_true rfl⟩) rfl hl.1 rfl (Nat.le_of_ble_eq_true rfl) dX1_scale_96 (Nat.zero_le _) (Nat.zero_le _) ?_
            refine bw_csl (rest := [.int x1, .ref a0]) ⟨hx, hb, hml, hown, hts⟩ (bd_signed l r6.1 (bg_negative (g x2.toNatClampNeg))) (va_cwS 2 hts gX1_scale_X1_signed rfl rfl rfl (by decide +kernel) ⟨Nat.le_of_ble_eq_true rfl, Nat.le_of_ble_eq_true rfl⟩) rfl hl.1 rfl (Nat.le_of_ble_eq_true rfl) dX1_scale_99 (Nat.zero_le _) (Nat.zero_le _) ?_
            refine va_last hx hb hK hP hD hS 1 0 rfl rfl (bm_reg1 h1) dX1_scale_102 (fun H locs hP hD hS => ?_)
            have hP : va_P (dC, dI) vwCl [(h0, .inr (1, [.ref a0, .int r6.2.1, .int r6.2.2.1, .long r6.2.2.2.1, .long r6.2.2.2.2])), (a0, .inl (cA, 8, .inr (.inl (vp_updL g x1.toNatClampNeg (bg_signed r6.1 (bg_negative (g x2.toNatClampNeg)))))))] H := hP
            have hD : va_D A [(h0, .inr (1, [.ref a0, .int r6.2.1, .int r6.2.2.1, .long r6.2.2.2.1, .long r6.2.2.2.2])), (a0, .inl (cA, 8, .inr (.inl (vp_updL g x1.toNatClampNeg (bg_signed r6.1 (bg_negative (g x2.toNatClampNeg)))))))] := hD
            refine lv_iconst (v := 1) hx hb dX1_scale_103 (by decide) ?_
            exact W.zret (v := (1 : Int32)) hx hb hr rfl (fun t ht hW => ⟨⟨(1 : Int32), (r6.2.1, r6.2.2.1, r6.2.2.2.1, r6.2.2.2.2, vp_updL g x1.toNatClampNeg (bg_signed r6.1 (bg_negative (g x2.toNatClampNeg)))), rfl, by rw [bg_scale, if_neg h1, if_neg h2, if_pos h3, if_pos h4, if_pos h5, e6, bg_scale_k1], by rw [ht]; exact hP, va_K.moved hW.alike hK, hD⟩, hS.F ht⟩) hS.2.2 dX1_scale_104
          · refine lv_aload_n hx hb dX1_scale_60 rfl (lv_at hl 1 rfl) ?_
            refine va_get (D := (dC, dI)) (ci := 1) (v := .ref a0) (C := RX1) (T := TX1) (N := 5) hx hb hts hin0 hown hK hP 0 rfl rfl 0 (by decide) (hts (.fieldLink RX1 7 "BinaryFunctionsModel" "register" "[J") (by decide +kernel)) (fun _ h9 => h9) rfl dX1_scale_61 ?_
            refine lv_iload_n hx hb dX1_scale_64 rfl (lv_at hl 2 rfl) ?_
            refine lv_lload hx hb dX1_scale_65 (lv_at hl 0 rfl) ?_
            refine va_last hx hb hK hP hD hS 1 0 rfl rfl (bm_reg1 h1) dX1_scale_67 (fun H locs hP hD hS => ?_)
            have hP : va_P (dC, dI) vwCl [(h0, .inr (1, [.ref a0, .int f1, .int f2, .long f3, .long f4])), (a0, .inl (cA, 8, .inr (.inl (vp_updL g x1.toNatClampNeg (g x2.toNatClampNeg)))))] H := hP
            have hD : va_D A [(h0, .inr (1, [.ref a0, .int f1, .int f2, .long f3, .long f4])), (a0, .inl (cA, 8, .inr (.inl (vp_updL g x1.toNatClampNeg (g x2.toNatClampNeg)))))] := hD
            refine lv_goto (tgt := 103) hx hb dX1_scale_68 (by decide) ?_
            refine lv_iconst (v := 1) hx hb dX1_scale_103 (by decide) ?_
            exact W.zret (v := (1 : Int32)) hx hb hr rfl (fun t ht hW => ⟨⟨(1 : Int32), (f1, f2, f3, f4, vp_updL g x1.toNatClampNeg (g x2.toNatClampNeg)), rfl, by rw [bg_scale, if_neg h1, if_neg h2, if_pos h3, if_pos h4, if_neg h5], by rw [ht]; exact hP, va_K.moved hW.alike hK, hD⟩, hS.F ht⟩) hS.2.2 dX1_scale_104
      · refine lv_aload_n hx hb dX1_scale_32 rfl (lv_at hl 1 rfl) ?_
        refine va_get (D := (dC, dI)) (ci := 1) (v := .ref a0) (C := RX1) (T := TX1) (N := 5) hx hb hts hin0 hown hK hP 0 rfl rfl 0 (by decide) (hts (.fieldLink RX1 7 "BinaryFunctionsModel" "register" "[J") (by decide +kernel)) (fun _ h9 => h9) rfl dX1_scale_33 ?_
        refine lv_iload_n hx hb dX1_scale_36 rfl (lv_at hl 2 rfl) ?_
        refine lv_ldc2 hx hb hown (hts (.constantLong RX1 75 9221120237041090560) (by decide +kernel)) dX1_scale_37 ?_
        refine va_last hx hb hK hP hD hS 1 0 rfl rfl (bm_reg1 h1) dX1_scale_40 (fun H locs hP hD hS => ?_)
        have hP : va_P (dC, dI) vwCl [(h0, .inr (1, [.ref a0, .int f1, .int f2, .long f3, .long f4])), (a0, .inl (cA, 8, .inr (.inl (vp_updL g x1.toNatClampNeg (9221120237041090560 : Int64)))))] H := hP
        have hD : va_D A [(h0, .inr (1, [.ref a0, .int f1, .int f2, .long f3, .long f4])), (a0, .inl (cA, 8, .inr (.inl (vp_updL g x1.toNatClampNeg (9221120237041090560 : Int64)))))] := hD
        refine lv_goto (tgt := 103) hx hb dX1_scale_41 (by decide) ?_
        refine lv_iconst (v := 1) hx hb dX1_scale_103 (by decide) ?_
        exact W.zret (v := (1 : Int32)) hx hb hr rfl (fun t ht hW => ⟨⟨(1 : Int32), (f1, f2, f3, f4, vp_updL g x1.toNatClampNeg (9221120237041090560 : Int64)), rfl, by rw [bg_scale, if_neg h1, if_neg h2, if_neg h3], by rw [ht]; exact hP, va_K.moved hW.alike hK, hD⟩, hS.F ht⟩) hS.2.2 dX1_scale_104
    · refine lv_iconst (v := 0) hx hb dX1_scale_14 (by decide) ?_
      exact W.zret (v := (0 : Int32)) hx hb hr rfl (fun t ht hW => ⟨⟨(0 : Int32), (f1, f2, f3, f4, g), rfl, by rw [bg_scale, if_neg h1, if_pos h2], by rw [ht]; exact hP, va_K.moved hW.alike hK, hD⟩, hS.F ht⟩) hS.2.2 dX1_scale_15
set_option maxHeartbeats 4000000 in
set_option maxRecDepth 100000 in
theorem bl_expo_1_w {p : Program} {l : Launch} {e : Env} {R : Room} {s : State} {m : MethodId} {args : Array Value} {below : List Frame} {meth : Method} {c : Code} {H : Heap} {locs : List Loc} {Q : State → Prop} (hx : p.tables.exec = Jvm.exec) (hb : c.code = cX1_exponent) (hml : c.maxLocals = 7) (hown : s.vm.findClass RX1 = some m.cls) (hts : ∀ w ∈ wsX1_exponent, w.before args s = true) {h0 : Nat} {c1 : Int32} {c2 : Int64} : ∀ (n : Nat) (v4 : Int32) (v5 : Int64) (ls : Array Slot) (r : Int32 × Int64), lv_has ls 7 [(0, .ref h0), (1, .int c1), (2, .long c2), (4, .int v4), (5, .long v5)] → bl_it (bl_expo_1_st) n (v4, v5) = some r → (∀ (ls : Array Slot), lv_has ls 7 [(0, .ref h0), (1, .int c1), (2, .long c2), (4, .int r.1), (5, .long r.2)] → W p l e R s m args below meth c H locs 0 0 Q (F0 m 71 ls [])) → W p l e R s m args below meth c H locs 0 0 Q (F0 m 52 ls []) := by
  intro n
  induction n with
  | zero => intro v4 v5 ls r hl h; cases h
  | succ n ih =>
    intro v4 v5 ls r hl h kk
    refine lv_lload hx hb dX1_exponent_52 (lv_at hl 4 rfl) ?_
    refine lv_lconst (v := 1) hx hb dX1_exponent_54 (by decide) ?_
    refine bw_lc_le (tgt := 71) hx hb dX1_exponent_55 dX1_exponent_56 (by decide) (fun h4 => ?_) (fun h4 => ?_)
    · obtain rfl := bl_stepR (s := (v4, v5)) (show bl_expo_1_b v4 v5 = .inr (v4, v5) by rw [bl_expo_1_b, if_pos h4]) h
      exact kk ls (lv_sub hl [0, 1, 2, 3, 4] rfl)
    · refine lv_iinc (nL := 7) (k := 3) (v := v4 + (1 : Int32)) (lv' := [(4, .int (v4 + (1 : Int32))), (0, .ref h0), (1, .int c1), (2, .long c2), (5, .long v5)]) hx hb dX1_exponent_59 hl rfl rfl (by decide) rfl (fun ls hl => ?_)
      refine lv_lload hx hb dX1_exponent_62 (lv_at hl 4 rfl) ?_
      refine lv_iconst (v := 1) hx hb dX1_exponent_64 (by decide) ?_
      refine lv_lshr hx hb dX1_exponent_65 rfl ?_
      refine lv_lstore (nL := 7) (lv' := [(5, .long (v5 >>> ((1 : Int32).toInt64 &&& 63))), (4, .int (v4 + (1 : Int32))), (0, .ref h0), (1, .int c1), (2, .long c2)]) hx hb dX1_exponent_66 hl (by decide) rfl (fun ls hl => ?_)
      refine lv_goto (tgt := 52) hx hb dX1_exponent_68 (by decide) ?_
      exact ih (v4 + (1 : Int32)) (v5 >>> ((1 : Int32).toInt64 &&& 63)) ls r (lv_sub hl [2, 3, 4, 1, 0] rfl) (bl_stepL (s := (v4, v5)) (show bl_expo_1_b v4 v5 = .inl (v4 + (1 : Int32), v5 >>> ((1 : Int32).toInt64 &&& 63)) by rw [bl_expo_1_b, if_neg h4]) h) kk
set_option maxHeartbeats 4000000 in
set_option maxRecDepth 100000 in
theorem bd_exponent (l : Launch) (dC : Nat → ClassId) (dI : Nat → Nat → Nat) (h0 a0 : Nat) (cA : ClassId) (sz : Nat) (f1 : Int32) (f2 : Int32) (f3 : Int64) (f4 : Int64) (g : Nat → Int64) (x1 : Int32) : Met l yX1_exponent wsX1_exponent ({ frames := 2, cells := 0, slots := 0, locals := 44 }) (va_Pc [.ref h0, .int x1] (bw_I2 (dC, dI) vwCl sz h0 a0 cA (.inr (1, [.ref a0, .int f1, .int f2, .long f3, .long f4])) (.inl (cA, 8, .inr (.inl g))))) (va_Qi (fun (r : Int32) (u : Int32 × Int32 × Int64 × Int64 × (Nat → Int64)) => (r, u) = bg_exponent f1 f2 f3 f4 g x1) (fun u t => bw_O2 (dC, dI) vwCl (va_A [(h0, .inr (1, [.ref a0, .int f1, .int f2, .long f3, .long f4])), (a0, .inl (cA, 8, .inr (.inl g)))] sz) h0 a0 cA (.inr (1, [.ref a0, .int u.1, .int u.2.1, .long u.2.2.1, .long u.2.2.2.1])) (.inl (cA, 8, .inr (.inl u.2.2.2.2))) t) (va_A [(h0, .inr (1, [.ref a0, .int f1, .int f2, .long f3, .long f4])), (a0, .inl (cA, 8, .inr (.inl g)))] sz)) 0 0 (va_A [(h0, .inr (1, [.ref a0, .int f1, .int f2, .long f3, .long f4])), (a0, .inl (cA, 8, .inr (.inl g)))] sz) := by
  refine Met.ofW (cc := cX1_exponent) (maxL := 7) (ret := (some .int)) (by decide) rfl ?_
  intro p e s m args below meth c s₁ B hml hv
  obtain ⟨rfl, hsz, hP, hK, hD0⟩ := hv
  have hx := B.exec
  have hb := B.bytes
  have hr := B.returns
  have hts := atoms_spec (ws := wsX1_exponent) B.pre
  have hown : s.vm.findClass RX1 = some m.cls := findClass_of_methodNamed B.named
  have hlocks := B.notSynchronized
  subst hsz
  have hD := hD0.self (sz := s.heap.size)
  generalize hAe : va_A [(h0, .inr (1, [.ref a0, .int f1, .int f2, .long f3, .long f4])), (a0, .inl (cA, 8, .inr (.inl g)))] s.heap.size = A at hD ⊢
  have hA : ∀ q : Nat, s.heap.size ≤ q → A q := fun q h => by rw [← hAe]; exact Or.inr h
  have hS : va_S A s.heap s.heap [] := va_S.rf
  have hP : va_P (dC, dI) vwCl [(h0, .inr (1, [.ref a0, .int f1, .int f2, .long f3, .long f4])), (a0, .inl (cA, 8, .inr (.inl g)))] s.heap := hP
  have hin0 : ∀ w ∈ u_ws RX1 TX1 5, w ∈ wsX1_exponent := by decide +kernel
  have hl := lv_entry ([.ref h0, .int x1]) (n := 7) (Nat.le_of_ble_eq_true rfl)
  rw [lg_entry_eq]
  generalize (lg_sl ([.ref h0, .int x1]) ++ List.replicate (7 - (lg_sl ([.ref h0, .int x1])).length) Slot.unset).toArray = ls at hl ⊢
  have hl : lv_has ls 7 [(0, .ref h0), (1, .int x1)] := hl
  refine lv_iload_n hx hb dX1_exponent_0 rfl (lv_at hl 1 rfl) ?_
  refine bw_csi (rest := []) ⟨hx, hb, hml, hown, hts⟩ (bd_isRegister l x1) (va_cwS 1 hts gX1_exponent_X1_isRegister rfl rfl rfl (by decide +kernel) ⟨Nat.le_of_ble_eq_true rfl, Nat.le_of_ble_eq_true rfl⟩) rfl hl.1 rfl (Nat.le_of_ble_eq_true rfl) dX1_exponent_1 (Nat.zero_le _) (Nat.zero_le _) ?_
  refine lv_if_ne (tgt := 9) hx hb dX1_exponent_4 (by decide) (fun h1 => ?_) (fun h1 => ?_)
  · refine lv_aload_n hx hb dX1_exponent_9 rfl (lv_at hl 0 rfl) ?_
    refine va_get (D := (dC, dI)) (ci := 1) (v := .ref a0) (C := RX1) (T := TX1) (N := 5) hx hb hts hin0 hown hK hP 0 rfl rfl 0 (by decide) (hts (.fieldLink RX1 7 "BinaryFunctionsModel" "register" "[J") (by decide +kernel)) (fun _ h9 => h9) rfl dX1_exponent_10 ?_
    refine lv_iload_n hx hb dX1_exponent_13 rfl (lv_at hl 1 rfl) ?_
    refine va_lald hx hb hK hP 1 0 rfl rfl (bm_reg1 h1) dX1_exponent_14 ?_
    refine lv_lstore_n (nL := 7) (lv' := [(2, .long (g x1.toNatClampNeg)), (0, .ref h0), (1, .int x1)]) hx hb dX1_exponent_15 rfl hl (by decide) rfl (fun ls hl => ?_)
    refine lv_lload_n hx hb dX1_exponent_16 rfl (lv_at hl 0 rfl) ?_
    refine bw_csi (rest := []) ⟨hx, hb, hml, hown, hts⟩ (bd_isZero l (g x1.toNatClampNeg)) (va_cwS 1 hts gX1_exponent_X1_isZero rfl rfl rfl (by decide +kernel) ⟨Nat.le_of_ble_eq_true rfl, Nat.le_of_ble_eq_true rfl⟩) rfl hl.1 rfl (Nat.le_of_ble_eq_true rfl) dX1_exponent_17 (Nat.zero_le _) (Nat.zero_le _) ?_
    refine lv_if_eq (tgt := 26) hx hb dX1_exponent_20 (by decide) (fun h2 => ?_) (fun h2 => ?_)
    · refine lv_lload_n hx hb dX1_exponent_26 rfl (lv_at hl 0 rfl) ?_
      refine bw_csl (rest := []) ⟨hx, hb, hml, hown, hts⟩ (bd_plain l (g x1.toNatClampNeg)) (va_cwS 1 hts gX1_exponent_X1_plain rfl rfl rfl (by decide +kernel) ⟨Nat.le_of_ble_eq_true rfl, Nat.le_of_ble_eq_true rfl⟩) rfl hl.1 rfl (Nat.le_of_ble_eq_true rfl) dX1_exponent_27 (Nat.zero_le _) (Nat.zero_le _) ?_
      refine lv_ldc2 hx hb hown (hts (.constantLong RX1 21 9218868437227405312) (by decide +kernel)) dX1_exponent_30 ?_
      refine bw_lc_lt (tgt := 40) hx hb dX1_exponent_33 dX1_exponent_34 (by decide) (fun h3 => ?_) (fun h3 => ?_)
      · refine lv_lload_n hx hb dX1_exponent_40 rfl (lv_at hl 0 rfl) ?_
        refine bw_csi (rest := []) ⟨hx, hb, hml, hown, hts⟩ (bd_power l (g x1.toNatClampNeg)) (va_cwS 1 hts gX1_exponent_X1_power rfl rfl rfl (by decide +kernel) ⟨Nat.le_of_ble_eq_true rfl, Nat.le_of_ble_eq_true rfl⟩) rfl hl.1 rfl (Nat.le_of_ble_eq_true rfl) dX1_exponent_41 (Nat.zero_le _) (Nat.zero_le _) ?_
        refine lv_istore (nL := 7) (lv' := [(4, .int (bg_power (g x1.toNatClampNeg))), (2, .long (g x1.toNatClampNeg)), (0, .ref h0), (1, .int x1)]) hx hb dX1_exponent_44 hl (by decide) rfl (fun ls hl => ?_)
        refine lv_lload_n hx hb dX1_exponent_46 rfl (lv_at hl 1 rfl) ?_
        refine bw_csl (rest := []) ⟨hx, hb, hml, hown, hts⟩ (bd_number l (g x1.toNatClampNeg)) (va_cwS 1 hts gX1_exponent_X1_number rfl rfl rfl (by decide +kernel) ⟨Nat.le_of_ble_eq_true rfl, Nat.le_of_ble_eq_true rfl⟩) rfl hl.1 rfl (Nat.le_of_ble_eq_true rfl) dX1_exponent_47 (Nat.zero_le _) (Nat.zero_le _) ?_
        refine lv_lstore (nL := 7) (lv' := [(5, .long (bg_number (g x1.toNatClampNeg))), (4, .int (bg_power (g x1.toNatClampNeg))), (2, .long (g x1.toNatClampNeg)), (0, .ref h0), (1, .int x1)]) hx hb dX1_exponent_50 hl (by decide) rfl (fun ls hl => ?_)
        obtain ⟨n5, e5⟩ := bl_expo_1_ok (bg_power (g x1.toNatClampNeg), bg_number (g x1.toNatClampNeg))
        refine bl_expo_1_w hx hb hml hown hts n5 (bg_power (g x1.toNatClampNeg)) (bg_number (g x1.toNatClampNeg)) ls _ (lv_sub hl [3, 4, 2, 1, 0] rfl) e5 (fun ls hl => ?_)
        have hl : lv_has ls 7 [(0, .ref h0), (1, .int x1), (2, .long (g x1.toNatClampNeg)), (4, .int ((bl_expo_1 (bg_power (g x1.toNatClampNeg), bg_number (g x1.toNatClampNeg))).1)), (5, .long ((bl_expo_1 (bg_power (g x1.toNatClampNeg), bg_number (g x1.toNatClampNeg))).2))] := hl
        obtain ⟨r6, e6⟩ : ∃ r, (bl_expo_1 (bg_power (g x1.toNatClampNeg), bg_number (g x1.toNatClampNeg))) = r := ⟨_, rfl⟩
        rw [e6] at hl
        refine lv_iload hx hb dX1_exponent_71 (lv_at hl 3 rfl) ?_
        exact W.iret (v := r6.1) hx hb hr (fun t ht hW => ⟨⟨r6.1, (f1, f2, f3, f4, g), rfl, by rw [bg_exponent, if_neg h1, if_pos h2, if_pos h3, e6, bg_exponent_k1], by rw [ht]; exact hP, va_K.moved hW.alike hK, hD⟩, hS.F ht⟩) hS.2.2 dX1_exponent_73
      · refine lv_ldc hx hb hown (hts (.constant RX1 120 2147483647) (by decide +kernel)) dX1_exponent_37 ?_
        exact W.iret (v := (2147483647 : Int32)) hx hb hr (fun t ht hW => ⟨⟨(2147483647 : Int32), (f1, f2, f3, f4, g), rfl, by rw [bg_exponent, if_neg h1, if_pos h2, if_neg h3], by rw [ht]; exact hP, va_K.moved hW.alike hK, hD⟩, hS.F ht⟩) hS.2.2 dX1_exponent_39
    · refine lv_ldc hx hb hown (hts (.constant RX1 119 (-2147483648)) (by decide +kernel)) dX1_exponent_23 ?_
      exact W.iret (v := (-2147483648 : Int32)) hx hb hr (fun t ht hW => ⟨⟨(-2147483648 : Int32), (f1, f2, f3, f4, g), rfl, by rw [bg_exponent, if_neg h1, if_neg h2], by rw [ht]; exact hP, va_K.moved hW.alike hK, hD⟩, hS.F ht⟩) hS.2.2 dX1_exponent_25
  · refine lv_iconst (v := 0) hx hb dX1_exponent_7 (by decide) ?_
    exact W.iret (v := (0 : Int32)) hx hb hr (fun t ht hW => ⟨⟨(0 : Int32), (f1, f2, f3, f4, g), rfl, by rw [bg_exponent, if_pos h1], by rw [ht]; exact hP, va_K.moved hW.alike hK, hD⟩, hS.F ht⟩) hS.2.2 dX1_exponent_8
set_option maxHeartbeats 4000000 in
set_option maxRecDepth 100000 in
theorem bd_compare (l : Launch) (dC : Nat → ClassId) (dI : Nat → Nat → Nat) (h0 a0 : Nat) (cA : ClassId) (sz : Nat) (f1 : Int32) (f2 : Int32) (f3 : Int64) (f4 : Int64) (g : Nat → Int64) (x1 : Int32) (x2 : Int32) : Met l yX1_compare wsX1_compare ({ frames := 2, cells := 0, slots := 0, locals := 42 }) (va_Pc [.ref h0, .int x1, .int x2] (bw_I2 (dC, dI) vwCl sz h0 a0 cA (.inr (1, [.ref a0, .int f1, .int f2, .long f3, .long f4])) (.inl (cA, 8, .inr (.inl g))))) (va_Qi (fun (r : Int32) (u : Int32 × Int32 × Int64 × Int64 × (Nat → Int64)) => (r, u) = bg_compare f1 f2 f3 f4 g x1 x2) (fun u t => bw_O2 (dC, dI) vwCl (va_A [(h0, .inr (1, [.ref a0, .int f1, .int f2, .long f3, .long f4])), (a0, .inl (cA, 8, .inr (.inl g)))] sz) h0 a0 cA (.inr (1, [.ref a0, .int u.1, .int u.2.1, .long u.2.2.1, .long u.2.2.2.1])) (.inl (cA, 8, .inr (.inl u.2.2.2.2))) t) (va_A [(h0, .inr (1, [.ref a0, .int f1, .int f2, .long f3, .long f4])), (a0, .inl (cA, 8, .inr (.inl g)))] sz)) 0 0 (va_A [(h0, .inr (1, [.ref a0, .int f1, .int f2, .long f3, .long f4])), (a0, .inl (cA, 8, .inr (.inl g)))] sz) := by
  refine Met.ofW (cc := cX1_compare) (maxL := 7) (ret := (some .int)) (by decide) rfl ?_
  intro p e s m args below meth c s₁ B hml hv
  obtain ⟨rfl, hsz, hP, hK, hD0⟩ := hv
  have hx := B.exec
  have hb := B.bytes
  have hr := B.returns
  have hts := atoms_spec (ws := wsX1_compare) B.pre
  have hown : s.vm.findClass RX1 = some m.cls := findClass_of_methodNamed B.named
  have hlocks := B.notSynchronized
  subst hsz
  have hD := hD0.self (sz := s.heap.size)
  generalize hAe : va_A [(h0, .inr (1, [.ref a0, .int f1, .int f2, .long f3, .long f4])), (a0, .inl (cA, 8, .inr (.inl g)))] s.heap.size = A at hD ⊢
  have hA : ∀ q : Nat, s.heap.size ≤ q → A q := fun q h => by rw [← hAe]; exact Or.inr h
  have hS : va_S A s.heap s.heap [] := va_S.rf
  have hP : va_P (dC, dI) vwCl [(h0, .inr (1, [.ref a0, .int f1, .int f2, .long f3, .long f4])), (a0, .inl (cA, 8, .inr (.inl g)))] s.heap := hP
  have hin0 : ∀ w ∈ u_ws RX1 TX1 5, w ∈ wsX1_compare := by decide +kernel
  have hl := lv_entry ([.ref h0, .int x1, .int x2]) (n := 7) (Nat.le_of_ble_eq_true rfl)
  rw [lg_entry_eq]
  generalize (lg_sl ([.ref h0, .int x1, .int x2]) ++ List.replicate (7 - (lg_sl ([.ref h0, .int x1, .int x2])).length) Slot.unset).toArray = ls at hl ⊢
  have hl : lv_has ls 7 [(0, .ref h0), (1, .int x1), (2, .int x2)] := hl
  refine lv_iload_n hx hb dX1_compare_0 rfl (lv_at hl 1 rfl) ?_
  refine bw_csi (rest := []) ⟨hx, hb, hml, hown, hts⟩ (bd_isRegister l x1) (va_cwS 1 hts gX1_compare_X1_isRegister rfl rfl rfl (by decide +kernel) ⟨Nat.le_of_ble_eq_true rfl, Nat.le_of_ble_eq_true rfl⟩) rfl hl.1 rfl (Nat.le_of_ble_eq_true rfl) dX1_compare_1 (Nat.zero_le _) (Nat.zero_le _) ?_
  refine lv_if_eq (tgt := 38) hx hb dX1_compare_4 (by decide) (fun h1 => ?_) (fun h1 => ?_)
  · refine lv_iconst (v := 2) hx hb dX1_compare_38 (by decide) ?_
    exact W.iret (v := (2 : Int32)) hx hb hr (fun t ht hW => ⟨⟨(2 : Int32), (f1, f2, f3, f4, g), rfl, by rw [bg_compare, if_pos h1], by rw [ht]; exact hP, va_K.moved hW.alike hK, hD⟩, hS.F ht⟩) hS.2.2 dX1_compare_39
  · refine lv_iload_n hx hb dX1_compare_7 rfl (lv_at hl 2 rfl) ?_
    refine bw_csi (rest := []) ⟨hx, hb, hml, hown, hts⟩ (bd_isRegister l x2) (va_cwS 1 hts gX1_compare_X1_isRegister rfl rfl rfl (by decide +kernel) ⟨Nat.le_of_ble_eq_true rfl, Nat.le_of_ble_eq_true rfl⟩) rfl hl.1 rfl (Nat.le_of_ble_eq_true rfl) dX1_compare_8 (Nat.zero_le _) (Nat.zero_le _) ?_
    refine lv_if_eq (tgt := 38) hx hb dX1_compare_11 (by decide) (fun h2 => ?_) (fun h2 => ?_)
    · refine lv_iconst (v := 2) hx hb dX1_compare_38 (by decide) ?_
      exact W.iret (v := (2 : Int32)) hx hb hr (fun t ht hW => ⟨⟨(2 : Int32), (f1, f2, f3, f4, g), rfl, by rw [bg_compare, if_neg h1, if_pos h2], by rw [ht]; exact hP, va_K.moved hW.alike hK, hD⟩, hS.F ht⟩) hS.2.2 dX1_compare_39
    · refine lv_aload_n hx hb dX1_compare_14 rfl (lv_at hl 0 rfl) ?_
      refine va_get (D := (dC, dI)) (ci := 1) (v := .ref a0) (C := RX1) (T := TX1) (N := 5) hx hb hts hin0 hown hK hP 0 rfl rfl 0 (by decide) (hts (.fieldLink RX1 7 "BinaryFunctionsModel" "register" "[J") (by decide +kernel)) (fun _ h9 => h9) rfl dX1_compare_15 ?_
      refine lv_iload_n hx hb dX1_compare_18 rfl (lv_at hl 1 rfl) ?_
      refine va_lald hx hb hK hP 1 0 rfl rfl (bm_reg1 h1) dX1_compare_19 ?_
      refine bw_csi (rest := []) ⟨hx, hb, hml, hown, hts⟩ (bd_isNan l (g x1.toNatClampNeg)) (va_cwS 1 hts gX1_compare_X1_isNan rfl rfl rfl (by decide +kernel) ⟨Nat.le_of_ble_eq_true rfl, Nat.le_of_ble_eq_true rfl⟩) rfl hl.1 rfl (Nat.le_of_ble_eq_true rfl) dX1_compare_20 (Nat.zero_le _) (Nat.zero_le _) ?_
      refine lv_if_ne (tgt := 38) hx hb dX1_compare_23 (by decide) (fun h3 => ?_) (fun h3 => ?_)
      · refine lv_iconst (v := 2) hx hb dX1_compare_38 (by decide) ?_
        exact W.iret (v := (2 : Int32)) hx hb hr (fun t ht hW => ⟨⟨(2 : Int32), (f1, f2, f3, f4, g), rfl, by rw [bg_compare, if_neg h1, if_neg h2, if_neg h3], by rw [ht]; exact hP, va_K.moved hW.alike hK, hD⟩, hS.F ht⟩) hS.2.2 dX1_compare_39
      · refine lv_aload_n hx hb dX1_compare_26 rfl (lv_at hl 0 rfl) ?_
        refine va_get (D := (dC, dI)) (ci := 1) (v := .ref a0) (C := RX1) (T := TX1) (N := 5) hx hb hts hin0 hown hK hP 0 rfl rfl 0 (by decide) (hts (.fieldLink RX1 7 "BinaryFunctionsModel" "register" "[J") (by decide +kernel)) (fun _ h9 => h9) rfl dX1_compare_27 ?_
        refine lv_iload_n hx hb dX1_compare_30 rfl (lv_at hl 2 rfl) ?_
        refine va_lald hx hb hK hP 1 0 rfl rfl (bm_reg1 h2) dX1_compare_31 ?_
        refine bw_csi (rest := []) ⟨hx, hb, hml, hown, hts⟩ (bd_isNan l (g x2.toNatClampNeg)) (va_cwS 1 hts gX1_compare_X1_isNan rfl rfl rfl (by decide +kernel) ⟨Nat.le_of_ble_eq_true rfl, Nat.le_of_ble_eq_true rfl⟩) rfl hl.1 rfl (Nat.le_of_ble_eq_true rfl) dX1_compare_32 (Nat.zero_le _) (Nat.zero_le _) ?_
        refine lv_if_eq (tgt := 40) hx hb dX1_compare_35 (by decide) (fun h4 => ?_) (fun h4 => ?_)
        · refine lv_aload_n hx hb dX1_compare_40 rfl (lv_at hl 0 rfl) ?_
          refine va_get (D := (dC, dI)) (ci := 1) (v := .ref a0) (C := RX1) (T := TX1) (N := 5) hx hb hts hin0 hown hK hP 0 rfl rfl 0 (by decide) (hts (.fieldLink RX1 7 "BinaryFunctionsModel" "register" "[J") (by decide +kernel)) (fun _ h9 => h9) rfl dX1_compare_41 ?_
          refine lv_iload_n hx hb dX1_compare_44 rfl (lv_at hl 1 rfl) ?_
          refine va_lald hx hb hK hP 1 0 rfl rfl (bm_reg1 h1) dX1_compare_45 ?_
          refine bw_csl (rest := []) ⟨hx, hb, hml, hown, hts⟩ (bd_place l (g x1.toNatClampNeg)) (va_cwS 1 hts gX1_compare_X1_place rfl rfl rfl (by decide +kernel) ⟨Nat.le_of_ble_eq_true rfl, Nat.le_of_ble_eq_true rfl⟩) rfl hl.1 rfl (Nat.le_of_ble_eq_true rfl) dX1_compare_46 (Nat.zero_le _) (Nat.zero_le _) ?_
          refine lv_lstore_n (nL := 7) (lv' := [(3, .long (bg_place (g x1.toNatClampNeg))), (0, .ref h0), (1, .int x1), (2, .int x2)]) hx hb dX1_compare_49 rfl hl (by decide) rfl (fun ls hl => ?_)
          refine lv_aload_n hx hb dX1_compare_50 rfl (lv_at hl 1 rfl) ?_
          refine va_get (D := (dC, dI)) (ci := 1) (v := .ref a0) (C := RX1) (T := TX1) (N := 5) hx hb hts hin0 hown hK hP 0 rfl rfl 0 (by decide) (hts (.fieldLink RX1 7 "BinaryFunctionsModel" "register" "[J") (by decide +kernel)) (fun _ h9 => h9) rfl dX1_compare_51 ?_
          refine lv_iload_n hx hb dX1_compare_54 rfl (lv_at hl 3 rfl) ?_
          refine va_lald hx hb hK hP 1 0 rfl rfl (bm_reg1 h2) dX1_compare_55 ?_
          refine bw_csl (rest := []) ⟨hx, hb, hml, hown, hts⟩ (bd_place l (g x2.toNatClampNeg)) (va_cwS 1 hts gX1_compare_X1_place rfl rfl rfl (by decide +kernel) ⟨Nat.le_of_ble_eq_true rfl, Nat.le_of_ble_eq_true rfl⟩) rfl hl.1 rfl (Nat.le_of_ble_eq_true rfl) dX1_compare_56 (Nat.zero_le _) (Nat.zero_le _) ?_
          refine lv_lstore (nL := 7) (lv' := [(5, .long (bg_place (g x2.toNatClampNeg))), (3, .long (bg_place (g x1.toNatClampNeg))), (0, .ref h0), (1, .int x1), (2, .int x2)]) hx hb dX1_compare_59 hl (by decide) rfl (fun ls hl => ?_)
          refine lv_lload_n hx hb dX1_compare_61 rfl (lv_at hl 1 rfl) ?_
          refine lv_lload hx hb dX1_compare_62 (lv_at hl 0 rfl) ?_
          refine bw_lc_ge (tgt := 72) hx hb dX1_compare_64 dX1_compare_65 (by decide) (fun h5 => ?_) (fun h5 => ?_)
          · refine lv_lload_n hx hb dX1_compare_72 rfl (lv_at hl 1 rfl) ?_
            refine lv_lload hx hb dX1_compare_73 (lv_at hl 0 rfl) ?_
            refine bw_lc_le (tgt := 83) hx hb dX1_compare_75 dX1_compare_76 (by decide) (fun h6 => ?_) (fun h6 => ?_)
            · refine lv_iconst (v := 0) hx hb dX1_compare_83 (by decide) ?_
              exact W.iret (v := (0 : Int32)) hx hb hr (fun t ht hW => ⟨⟨(0 : Int32), (f1, f2, f3, f4, g), rfl, by rw [bg_compare, if_neg h1, if_neg h2, if_pos h3, if_pos h4, if_pos h5, if_pos h6], by rw [ht]; exact hP, va_K.moved hW.alike hK, hD⟩, hS.F ht⟩) hS.2.2 dX1_compare_84
            · refine lv_iconst (v := 1) hx hb dX1_compare_79 (by decide) ?_
              refine lv_goto (tgt := 84) hx hb dX1_compare_80 (by decide) ?_
              exact W.iret (v := (1 : Int32)) hx hb hr (fun t ht hW => ⟨⟨(1 : Int32), (f1, f2, f3, f4, g), rfl, by rw [bg_compare, if_neg h1, if_neg h2, if_pos h3, if_pos h4, if_pos h5, if_neg h6], by rw [ht]; exact hP, va_K.moved hW.alike hK, hD⟩, hS.F ht⟩) hS.2.2 dX1_compare_84
          · refine lv_iconst (v := -1) hx hb dX1_compare_68 (by decide) ?_
            refine lv_goto (tgt := 84) hx hb dX1_compare_69 (by decide) ?_
            exact W.iret (v := (-1 : Int32)) hx hb hr (fun t ht hW => ⟨⟨(-1 : Int32), (f1, f2, f3, f4, g), rfl, by rw [bg_compare, if_neg h1, if_neg h2, if_pos h3, if_pos h4, if_neg h5], by rw [ht]; exact hP, va_K.moved hW.alike hK, hD⟩, hS.F ht⟩) hS.2.2 dX1_compare_84
        · refine lv_iconst (v := 2) hx hb dX1_compare_38 (by decide) ?_
          exact W.iret (v := (2 : Int32)) hx hb hr (fun t ht hW => ⟨⟨(2 : Int32), (f1, f2, f3, f4, g), rfl, by rw [bg_compare, if_neg h1, if_neg h2, if_pos h3, if_neg h4], by rw [ht]; exact hP, va_K.moved hW.alike hK, hD⟩, hS.F ht⟩) hS.2.2 dX1_compare_39
set_option maxHeartbeats 4000000 in
set_option maxRecDepth 100000 in
theorem bd_sort (l : Launch) (dC : Nat → ClassId) (dI : Nat → Nat → Nat) (h0 a0 : Nat) (cA : ClassId) (sz : Nat) (f1 : Int32) (f2 : Int32) (f3 : Int64) (f4 : Int64) (g : Nat → Int64) (x1 : Int32) : Met l yX1_sort wsX1_sort ({ frames := 2, cells := 0, slots := 0, locals := 42 }) (va_Pc [.ref h0, .int x1] (bw_I2 (dC, dI) vwCl sz h0 a0 cA (.inr (1, [.ref a0, .int f1, .int f2, .long f3, .long f4])) (.inl (cA, 8, .inr (.inl g))))) (va_Qi (fun (r : Int32) (u : Int32 × Int32 × Int64 × Int64 × (Nat → Int64)) => (r, u) = bg_sort f1 f2 f3 f4 g x1) (fun u t => bw_O2 (dC, dI) vwCl (va_A [(h0, .inr (1, [.ref a0, .int f1, .int f2, .long f3, .long f4])), (a0, .inl (cA, 8, .inr (.inl g)))] sz) h0 a0 cA (.inr (1, [.ref a0, .int u.1, .int u.2.1, .long u.2.2.1, .long u.2.2.2.1])) (.inl (cA, 8, .inr (.inl u.2.2.2.2))) t) (va_A [(h0, .inr (1, [.ref a0, .int f1, .int f2, .long f3, .long f4])), (a0, .inl (cA, 8, .inr (.inl g)))] sz)) 0 0 (va_A [(h0, .inr (1, [.ref a0, .int f1, .int f2, .long f3, .long f4])), (a0, .inl (cA, 8, .inr (.inl g)))] sz) := by
  refine Met.ofW (cc := cX1_sort) (maxL := 5) (ret := (some .int)) (by decide) rfl ?_
  intro p e s m args below meth c s₁ B hml hv
  obtain ⟨rfl, hsz, hP, hK, hD0⟩ := hv
  have hx := B.exec
  have hb := B.bytes
  have hr := B.returns
  have hts := atoms_spec (ws := wsX1_sort) B.pre
  have hown : s.vm.findClass RX1 = some m.cls := findClass_of_methodNamed B.named
  have hlocks := B.notSynchronized
  subst hsz
  have hD := hD0.self (sz := s.heap.size)
  generalize hAe : va_A [(h0, .inr (1, [.ref a0, .int f1, .int f2, .long f3, .long f4])), (a0, .inl (cA, 8, .inr (.inl g)))] s.heap.size = A at hD ⊢
  have hA : ∀ q : Nat, s.heap.size ≤ q → A q := fun q h => by rw [← hAe]; exact Or.inr h
  have hS : va_S A s.heap s.heap [] := va_S.rf
  have hP : va_P (dC, dI) vwCl [(h0, .inr (1, [.ref a0, .int f1, .int f2, .long f3, .long f4])), (a0, .inl (cA, 8, .inr (.inl g)))] s.heap := hP
  have hin0 : ∀ w ∈ u_ws RX1 TX1 5, w ∈ wsX1_sort := by decide +kernel
  have hl := lv_entry ([.ref h0, .int x1]) (n := 5) (Nat.le_of_ble_eq_true rfl)
  rw [lg_entry_eq]
  generalize (lg_sl ([.ref h0, .int x1]) ++ List.replicate (5 - (lg_sl ([.ref h0, .int x1])).length) Slot.unset).toArray = ls at hl ⊢
  have hl : lv_has ls 5 [(0, .ref h0), (1, .int x1)] := hl
  refine lv_iload_n hx hb dX1_sort_0 rfl (lv_at hl 1 rfl) ?_
  refine bw_csi (rest := []) ⟨hx, hb, hml, hown, hts⟩ (bd_isRegister l x1) (va_cwS 1 hts gX1_sort_X1_isRegister rfl rfl rfl (by decide +kernel) ⟨Nat.le_of_ble_eq_true rfl, Nat.le_of_ble_eq_true rfl⟩) rfl hl.1 rfl (Nat.le_of_ble_eq_true rfl) dX1_sort_1 (Nat.zero_le _) (Nat.zero_le _) ?_
  refine lv_if_ne (tgt := 9) hx hb dX1_sort_4 (by decide) (fun h1 => ?_) (fun h1 => ?_)
  · refine lv_aload_n hx hb dX1_sort_9 rfl (lv_at hl 0 rfl) ?_
    refine va_get (D := (dC, dI)) (ci := 1) (v := .ref a0) (C := RX1) (T := TX1) (N := 5) hx hb hts hin0 hown hK hP 0 rfl rfl 0 (by decide) (hts (.fieldLink RX1 7 "BinaryFunctionsModel" "register" "[J") (by decide +kernel)) (fun _ h9 => h9) rfl dX1_sort_10 ?_
    refine lv_iload_n hx hb dX1_sort_13 rfl (lv_at hl 1 rfl) ?_
    refine va_lald hx hb hK hP 1 0 rfl rfl (bm_reg1 h1) dX1_sort_14 ?_
    refine lv_lstore_n (nL := 5) (lv' := [(2, .long (g x1.toNatClampNeg)), (0, .ref h0), (1, .int x1)]) hx hb dX1_sort_15 rfl hl (by decide) rfl (fun ls hl => ?_)
    refine lv_lload_n hx hb dX1_sort_16 rfl (lv_at hl 0 rfl) ?_
    refine bw_csi (rest := []) ⟨hx, hb, hml, hown, hts⟩ (bd_isZero l (g x1.toNatClampNeg)) (va_cwS 1 hts gX1_sort_X1_isZero rfl rfl rfl (by decide +kernel) ⟨Nat.le_of_ble_eq_true rfl, Nat.le_of_ble_eq_true rfl⟩) rfl hl.1 rfl (Nat.le_of_ble_eq_true rfl) dX1_sort_17 (Nat.zero_le _) (Nat.zero_le _) ?_
    refine lv_if_eq (tgt := 27) hx hb dX1_sort_20 (by decide) (fun h2 => ?_) (fun h2 => ?_)
    · refine lv_lload_n hx hb dX1_sort_27 rfl (lv_at hl 0 rfl) ?_
      refine bw_csi (rest := []) ⟨hx, hb, hml, hown, hts⟩ (bd_isNan l (g x1.toNatClampNeg)) (va_cwS 1 hts gX1_sort_X1_isNan rfl rfl rfl (by decide +kernel) ⟨Nat.le_of_ble_eq_true rfl, Nat.le_of_ble_eq_true rfl⟩) rfl hl.1 rfl (Nat.le_of_ble_eq_true rfl) dX1_sort_28 (Nat.zero_le _) (Nat.zero_le _) ?_
      refine lv_if_eq (tgt := 38) hx hb dX1_sort_31 (by decide) (fun h3 => ?_) (fun h3 => ?_)
      · refine lv_lload_n hx hb dX1_sort_38 rfl (lv_at hl 0 rfl) ?_
        refine bw_csi (rest := []) ⟨hx, hb, hml, hown, hts⟩ (bd_isInfinite l (g x1.toNatClampNeg)) (va_cwS 1 hts gX1_sort_X1_isInfinite rfl rfl rfl (by decide +kernel) ⟨Nat.le_of_ble_eq_true rfl, Nat.le_of_ble_eq_true rfl⟩) rfl hl.1 rfl (Nat.le_of_ble_eq_true rfl) dX1_sort_39 (Nat.zero_le _) (Nat.zero_le _) ?_
        refine lv_if_eq (tgt := 49) hx hb dX1_sort_42 (by decide) (fun h4 => ?_) (fun h4 => ?_)
        · refine lv_lload_n hx hb dX1_sort_49 rfl (lv_at hl 0 rfl) ?_
          refine bw_csl (rest := []) ⟨hx, hb, hml, hown, hts⟩ (bd_plain l (g x1.toNatClampNeg)) (va_cwS 1 hts gX1_sort_X1_plain rfl rfl rfl (by decide +kernel) ⟨Nat.le_of_ble_eq_true rfl, Nat.le_of_ble_eq_true rfl⟩) rfl hl.1 rfl (Nat.le_of_ble_eq_true rfl) dX1_sort_50 (Nat.zero_le _) (Nat.zero_le _) ?_
          refine lv_ldc2 hx hb hown (hts (.constantLong RX1 25 4503599627370496) (by decide +kernel)) dX1_sort_53 ?_
          refine bw_lc_ge (tgt := 64) hx hb dX1_sort_56 dX1_sort_57 (by decide) (fun h5 => ?_) (fun h5 => ?_)
          · refine lv_iconst (v := 2) hx hb dX1_sort_64 (by decide) ?_
            refine lv_istore (nL := 5) (lv' := [(4, .int (2 : Int32)), (2, .long (g x1.toNatClampNeg)), (0, .ref h0), (1, .int x1)]) hx hb dX1_sort_65 hl (by decide) rfl (fun ls hl => ?_)
            refine lv_lload_n hx hb dX1_sort_67 rfl (lv_at hl 1 rfl) ?_
            refine bw_csi (rest := []) ⟨hx, hb, hml, hown, hts⟩ (bd_negative l (g x1.toNatClampNeg)) (va_cwS 1 hts gX1_sort_X1_negative rfl rfl rfl (by decide +kernel) ⟨Nat.le_of_ble_eq_true rfl, Nat.le_of_ble_eq_true rfl⟩) rfl hl.1 rfl (Nat.le_of_ble_eq_true rfl) dX1_sort_68 (Nat.zero_le _) (Nat.zero_le _) ?_
            refine lv_if_eq (tgt := 82) hx hb dX1_sort_71 (by decide) (fun h6 => ?_) (fun h6 => ?_)
            · refine lv_iload hx hb dX1_sort_82 (lv_at hl 0 rfl) ?_
              exact W.iret (v := (2 : Int32)) hx hb hr (fun t ht hW => ⟨⟨(2 : Int32), (f1, f2, f3, f4, g), rfl, by rw [bg_sort, if_neg h1, if_pos h2, if_pos h3, if_pos h4, if_pos h5, if_pos h6], by rw [ht]; exact hP, va_K.moved hW.alike hK, hD⟩, hS.F ht⟩) hS.2.2 dX1_sort_84
            · refine lv_iload hx hb dX1_sort_74 (lv_at hl 0 rfl) ?_
              refine lv_bipush (v := 8) hx hb dX1_sort_76 (by decide) ?_
              refine lv_iadd hx hb dX1_sort_78 ?_
              refine lv_goto (tgt := 84) hx hb dX1_sort_79 (by decide) ?_
              exact W.iret (v := (2 : Int32) + (8 : Int32)) hx hb hr (fun t ht hW => ⟨⟨(2 : Int32) + (8 : Int32), (f1, f2, f3, f4, g), rfl, by rw [bg_sort, if_neg h1, if_pos h2, if_pos h3, if_pos h4, if_pos h5, if_neg h6], by rw [ht]; exact hP, va_K.moved hW.alike hK, hD⟩, hS.F ht⟩) hS.2.2 dX1_sort_84
          · refine lv_iconst (v := 1) hx hb dX1_sort_60 (by decide) ?_
            refine lv_goto (tgt := 65) hx hb dX1_sort_61 (by decide) ?_
            refine lv_istore (nL := 5) (lv' := [(4, .int (1 : Int32)), (2, .long (g x1.toNatClampNeg)), (0, .ref h0), (1, .int x1)]) hx hb dX1_sort_65 hl (by decide) rfl (fun ls hl => ?_)
            refine lv_lload_n hx hb dX1_sort_67 rfl (lv_at hl 1 rfl) ?_
            refine bw_csi (rest := []) ⟨hx, hb, hml, hown, hts⟩ (bd_negative l (g x1.toNatClampNeg)) (va_cwS 1 hts gX1_sort_X1_negative rfl rfl rfl (by decide +kernel) ⟨Nat.le_of_ble_eq_true rfl, Nat.le_of_ble_eq_true rfl⟩) rfl hl.1 rfl (Nat.le_of_ble_eq_true rfl) dX1_sort_68 (Nat.zero_le _) (Nat.zero_le _) ?_
            refine lv_if_eq (tgt := 82) hx hb dX1_sort_71 (by decide) (fun h7 => ?_) (fun h7 => ?_)
            · refine lv_iload hx hb dX1_sort_82 (lv_at hl 0 rfl) ?_
              exact W.iret (v := (1 : Int32)) hx hb hr (fun t ht hW => ⟨⟨(1 : Int32), (f1, f2, f3, f4, g), rfl, by rw [bg_sort, if_neg h1, if_pos h2, if_pos h3, if_pos h4, if_neg h5, if_pos h7], by rw [ht]; exact hP, va_K.moved hW.alike hK, hD⟩, hS.F ht⟩) hS.2.2 dX1_sort_84
            · refine lv_iload hx hb dX1_sort_74 (lv_at hl 0 rfl) ?_
              refine lv_bipush (v := 8) hx hb dX1_sort_76 (by decide) ?_
              refine lv_iadd hx hb dX1_sort_78 ?_
              refine lv_goto (tgt := 84) hx hb dX1_sort_79 (by decide) ?_
              exact W.iret (v := (1 : Int32) + (8 : Int32)) hx hb hr (fun t ht hW => ⟨⟨(1 : Int32) + (8 : Int32), (f1, f2, f3, f4, g), rfl, by rw [bg_sort, if_neg h1, if_pos h2, if_pos h3, if_pos h4, if_neg h5, if_neg h7], by rw [ht]; exact hP, va_K.moved hW.alike hK, hD⟩, hS.F ht⟩) hS.2.2 dX1_sort_84
        · refine lv_iconst (v := 3) hx hb dX1_sort_45 (by decide) ?_
          refine lv_goto (tgt := 65) hx hb dX1_sort_46 (by decide) ?_
          refine lv_istore (nL := 5) (lv' := [(4, .int (3 : Int32)), (2, .long (g x1.toNatClampNeg)), (0, .ref h0), (1, .int x1)]) hx hb dX1_sort_65 hl (by decide) rfl (fun ls hl => ?_)
          refine lv_lload_n hx hb dX1_sort_67 rfl (lv_at hl 1 rfl) ?_
          refine bw_csi (rest := []) ⟨hx, hb, hml, hown, hts⟩ (bd_negative l (g x1.toNatClampNeg)) (va_cwS 1 hts gX1_sort_X1_negative rfl rfl rfl (by decide +kernel) ⟨Nat.le_of_ble_eq_true rfl, Nat.le_of_ble_eq_true rfl⟩) rfl hl.1 rfl (Nat.le_of_ble_eq_true rfl) dX1_sort_68 (Nat.zero_le _) (Nat.zero_le _) ?_
          refine lv_if_eq (tgt := 82) hx hb dX1_sort_71 (by decide) (fun h8 => ?_) (fun h8 => ?_)
          · refine lv_iload hx hb dX1_sort_82 (lv_at hl 0 rfl) ?_
            exact W.iret (v := (3 : Int32)) hx hb hr (fun t ht hW => ⟨⟨(3 : Int32), (f1, f2, f3, f4, g), rfl, by rw [bg_sort, if_neg h1, if_pos h2, if_pos h3, if_neg h4, if_pos h8], by rw [ht]; exact hP, va_K.moved hW.alike hK, hD⟩, hS.F ht⟩) hS.2.2 dX1_sort_84
          · refine lv_iload hx hb dX1_sort_74 (lv_at hl 0 rfl) ?_
            refine lv_bipush (v := 8) hx hb dX1_sort_76 (by decide) ?_
            refine lv_iadd hx hb dX1_sort_78 ?_
            refine lv_goto (tgt := 84) hx hb dX1_sort_79 (by decide) ?_
            exact W.iret (v := (3 : Int32) + (8 : Int32)) hx hb hr (fun t ht hW => ⟨⟨(3 : Int32) + (8 : Int32), (f1, f2, f3, f4, g), rfl, by rw [bg_sort, if_neg h1, if_pos h2, if_pos h3, if_neg h4, if_neg h8], by rw [ht]; exact hP, va_K.moved hW.alike hK, hD⟩, hS.F ht⟩) hS.2.2 dX1_sort_84
      · refine lv_iconst (v := 4) hx hb dX1_sort_34 (by decide) ?_
        refine lv_goto (tgt := 65) hx hb dX1_sort_35 (by decide) ?_
        refine lv_istore (nL := 5) (lv' := [(4, .int (4 : Int32)), (2, .long (g x1.toNatClampNeg)), (0, .ref h0), (1, .int x1)]) hx hb dX1_sort_65 hl (by decide) rfl (fun ls hl => ?_)
        refine lv_lload_n hx hb dX1_sort_67 rfl (lv_at hl 1 rfl) ?_
        refine bw_csi (rest := []) ⟨hx, hb, hml, hown, hts⟩ (bd_negative l (g x1.toNatClampNeg)) (va_cwS 1 hts gX1_sort_X1_negative rfl rfl rfl (by decide +kernel) ⟨Nat.le_of_ble_eq_true rfl, Nat.le_of_ble_eq_true rfl⟩) rfl hl.1 rfl (Nat.le_of_ble_eq_true rfl) dX1_sort_68 (Nat.zero_le _) (Nat.zero_le _) ?_
        refine lv_if_eq (tgt := 82) hx hb dX1_sort_71 (by decide) (fun h9 => ?_) (fun h9 => ?_)
        · refine lv_iload hx hb dX1_sort_82 (lv_at hl 0 rfl) ?_
          exact W.iret (v := (4 : Int32)) hx hb hr (fun t ht hW => ⟨⟨(4 : Int32), (f1, f2, f3, f4, g), rfl, by rw [bg_sort, if_neg h1, if_pos h2, if_neg h3, if_pos h9], by rw [ht]; exact hP, va_K.moved hW.alike hK, hD⟩, hS.F ht⟩) hS.2.2 dX1_sort_84
        · refine lv_iload hx hb dX1_sort_74 (lv_at hl 0 rfl) ?_
          refine lv_bipush (v := 8) hx hb dX1_sort_76 (by decide) ?_
          refine lv_iadd hx hb dX1_sort_78 ?_
          refine lv_goto (tgt := 84) hx hb dX1_sort_79 (by decide) ?_
          exact W.iret (v := (4 : Int32) + (8 : Int32)) hx hb hr (fun t ht hW => ⟨⟨(4 : Int32) + (8 : Int32), (f1, f2, f3, f4, g), rfl, by rw [bg_sort, if_neg h1, if_pos h2, if_neg h3, if_neg h9], by rw [ht]; exact hP, va_K.moved hW.alike hK, hD⟩, hS.F ht⟩) hS.2.2 dX1_sort_84
    · refine lv_iconst (v := 0) hx hb dX1_sort_23 (by decide) ?_
      refine lv_goto (tgt := 65) hx hb dX1_sort_24 (by decide) ?_
      refine lv_istore (nL := 5) (lv' := [(4, .int (0 : Int32)), (2, .long (g x1.toNatClampNeg)), (0, .ref h0), (1, .int x1)]) hx hb dX1_sort_65 hl (by decide) rfl (fun ls hl => ?_)
      refine lv_lload_n hx hb dX1_sort_67 rfl (lv_at hl 1 rfl) ?_
      refine bw_csi (rest := []) ⟨hx, hb, hml, hown, hts⟩ (bd_negative l (g x1.toNatClampNeg)) (va_cwS 1 hts gX1_sort_X1_negative rfl rfl rfl (by decide +kernel) ⟨Nat.le_of_ble_eq_true rfl, Nat.le_of_ble_eq_true rfl⟩) rfl hl.1 rfl (Nat.le_of_ble_eq_true rfl) dX1_sort_68 (Nat.zero_le _) (Nat.zero_le _) ?_
      refine lv_if_eq (tgt := 82) hx hb dX1_sort_71 (by decide) (fun h10 => ?_) (fun h10 => ?_)
      · refine lv_iload hx hb dX1_sort_82 (lv_at hl 0 rfl) ?_
        exact W.iret (v := (0 : Int32)) hx hb hr (fun t ht hW => ⟨⟨(0 : Int32), (f1, f2, f3, f4, g), rfl, by rw [bg_sort, if_neg h1, if_neg h2, if_pos h10], by rw [ht]; exact hP, va_K.moved hW.alike hK, hD⟩, hS.F ht⟩) hS.2.2 dX1_sort_84
      · refine lv_iload hx hb dX1_sort_74 (lv_at hl 0 rfl) ?_
        refine lv_bipush (v := 8) hx hb dX1_sort_76 (by decide) ?_
        refine lv_iadd hx hb dX1_sort_78 ?_
        refine lv_goto (tgt := 84) hx hb dX1_sort_79 (by decide) ?_
        exact W.iret (v := (0 : Int32) + (8 : Int32)) hx hb hr (fun t ht hW => ⟨⟨(0 : Int32) + (8 : Int32), (f1, f2, f3, f4, g), rfl, by rw [bg_sort, if_neg h1, if_neg h2, if_neg h10], by rw [ht]; exact hP, va_K.moved hW.alike hK, hD⟩, hS.F ht⟩) hS.2.2 dX1_sort_84
  · refine lv_iconst (v := -1) hx hb dX1_sort_7 (by decide) ?_
    exact W.iret (v := (-1 : Int32)) hx hb hr (fun t ht hW => ⟨⟨(-1 : Int32), (f1, f2, f3, f4, g), rfl, by rw [bg_sort, if_pos h1], by rw [ht]; exact hP, va_K.moved hW.alike hK, hD⟩, hS.F ht⟩) hS.2.2 dX1_sort_8
set_option maxHeartbeats 4000000 in
set_option maxRecDepth 100000 in
theorem bd_flags (l : Launch) (dC : Nat → ClassId) (dI : Nat → Nat → Nat) (h0 a0 : Nat) (cA : ClassId) (sz : Nat) (f1 : Int32) (f2 : Int32) (f3 : Int64) (f4 : Int64) (g : Nat → Int64) : Met l yX1_flags wsX1_flags ({ frames := 0, cells := 0, slots := 0, locals := 0 }) (va_Pc [.ref h0] (bw_I2 (dC, dI) vwCl sz h0 a0 cA (.inr (1, [.ref a0, .int f1, .int f2, .long f3, .long f4])) (.inl (cA, 8, .inr (.inl g))))) (va_Qi (fun (r : Int32) (u : Int32 × Int32 × Int64 × Int64 × (Nat → Int64)) => (r, u) = bg_flags f1 f2 f3 f4 g) (fun u t => bw_O2 (dC, dI) vwCl (va_A [(h0, .inr (1, [.ref a0, .int f1, .int f2, .long f3, .long f4])), (a0, .inl (cA, 8, .inr (.inl g)))] sz) h0 a0 cA (.inr (1, [.ref a0, .int u.1, .int u.2.1, .long u.2.2.1, .long u.2.2.2.1])) (.inl (cA, 8, .inr (.inl u.2.2.2.2))) t) (va_A [(h0, .inr (1, [.ref a0, .int f1, .int f2, .long f3, .long f4])), (a0, .inl (cA, 8, .inr (.inl g)))] sz)) 0 0 (va_A [(h0, .inr (1, [.ref a0, .int f1, .int f2, .long f3, .long f4])), (a0, .inl (cA, 8, .inr (.inl g)))] sz) := by
  refine Met.ofW (cc := cX1_flags) (maxL := 1) (ret := (some .int)) (by decide) rfl ?_
  intro p e s m args below meth c s₁ B hml hv
  obtain ⟨rfl, hsz, hP, hK, hD0⟩ := hv
  have hx := B.exec
  have hb := B.bytes
  have hr := B.returns
  have hts := atoms_spec (ws := wsX1_flags) B.pre
  have hown : s.vm.findClass RX1 = some m.cls := findClass_of_methodNamed B.named
  have hlocks := B.notSynchronized
  subst hsz
  have hD := hD0.self (sz := s.heap.size)
  generalize hAe : va_A [(h0, .inr (1, [.ref a0, .int f1, .int f2, .long f3, .long f4])), (a0, .inl (cA, 8, .inr (.inl g)))] s.heap.size = A at hD ⊢
  have hA : ∀ q : Nat, s.heap.size ≤ q → A q := fun q h => by rw [← hAe]; exact Or.inr h
  have hS : va_S A s.heap s.heap [] := va_S.rf
  have hP : va_P (dC, dI) vwCl [(h0, .inr (1, [.ref a0, .int f1, .int f2, .long f3, .long f4])), (a0, .inl (cA, 8, .inr (.inl g)))] s.heap := hP
  have hin0 : ∀ w ∈ u_ws RX1 TX1 5, w ∈ wsX1_flags := by decide +kernel
  have hl := lv_entry ([.ref h0]) (n := 1) (Nat.le_of_ble_eq_true rfl)
  rw [lg_entry_eq]
  generalize (lg_sl ([.ref h0]) ++ List.replicate (1 - (lg_sl ([.ref h0])).length) Slot.unset).toArray = ls at hl ⊢
  have hl : lv_has ls 1 [(0, .ref h0)] := hl
  refine lv_aload_n hx hb dX1_flags_0 rfl (lv_at hl 0 rfl) ?_
  refine va_get (D := (dC, dI)) (ci := 1) (v := .int f1) (C := RX1) (T := TX1) (N := 5) hx hb hts hin0 hown hK hP 0 rfl rfl 1 (by decide) (hts (.fieldLink RX1 61 "BinaryFunctionsModel" "flag" "I") (by decide +kernel)) (fun _ h9 => h9) rfl dX1_flags_1 ?_
  exact W.iret (v := f1) hx hb hr (fun t ht hW => ⟨⟨f1, (f1, f2, f3, f4, g), rfl, by rw [bg_flags], by rw [ht]; exact hP, va_K.moved hW.alike hK, hD⟩, hS.F ht⟩) hS.2.2 dX1_flags_4
set_option maxHeartbeats 4000000 in
set_option maxRecDepth 100000 in
theorem bd_clear (l : Launch) (dC : Nat → ClassId) (dI : Nat → Nat → Nat) (h0 a0 : Nat) (cA : ClassId) (sz : Nat) (f1 : Int32) (f2 : Int32) (f3 : Int64) (f4 : Int64) (g : Nat → Int64) : Met l yX1_clear wsX1_clear ({ frames := 0, cells := 0, slots := 0, locals := 0 }) (va_Pc [.ref h0] (bw_I2 (dC, dI) vwCl sz h0 a0 cA (.inr (1, [.ref a0, .int f1, .int f2, .long f3, .long f4])) (.inl (cA, 8, .inr (.inl g))))) (va_Qv (fun (u : Int32 × Int32 × Int64 × Int64 × (Nat → Int64)) => u = bg_clear f1 f2 f3 f4 g) (fun u t => bw_O2 (dC, dI) vwCl (va_A [(h0, .inr (1, [.ref a0, .int f1, .int f2, .long f3, .long f4])), (a0, .inl (cA, 8, .inr (.inl g)))] sz) h0 a0 cA (.inr (1, [.ref a0, .int u.1, .int u.2.1, .long u.2.2.1, .long u.2.2.2.1])) (.inl (cA, 8, .inr (.inl u.2.2.2.2))) t) (va_A [(h0, .inr (1, [.ref a0, .int f1, .int f2, .long f3, .long f4])), (a0, .inl (cA, 8, .inr (.inl g)))] sz)) 0 0 (va_A [(h0, .inr (1, [.ref a0, .int f1, .int f2, .long f3, .long f4])), (a0, .inl (cA, 8, .inr (.inl g)))] sz) := by
  refine Met.ofW (cc := cX1_clear) (maxL := 1) (ret := none) (by decide) rfl ?_
  intro p e s m args below meth c s₁ B hml hv
  obtain ⟨rfl, hsz, hP, hK, hD0⟩ := hv
  have hx := B.exec
  have hb := B.bytes
  have hr := B.returns
  have hts := atoms_spec (ws := wsX1_clear) B.pre
  have hown : s.vm.findClass RX1 = some m.cls := findClass_of_methodNamed B.named
  have hlocks := B.notSynchronized
  subst hsz
  have hD := hD0.self (sz := s.heap.size)
  generalize hAe : va_A [(h0, .inr (1, [.ref a0, .int f1, .int f2, .long f3, .long f4])), (a0, .inl (cA, 8, .inr (.inl g)))] s.heap.size = A at hD ⊢
  have hA : ∀ q : Nat, s.heap.size ≤ q → A q := fun q h => by rw [← hAe]; exact Or.inr h
  have hS : va_S A s.heap s.heap [] := va_S.rf
  have hP : va_P (dC, dI) vwCl [(h0, .inr (1, [.ref a0, .int f1, .int f2, .long f3, .long f4])), (a0, .inl (cA, 8, .inr (.inl g)))] s.heap := hP
  have hin0 : ∀ w ∈ u_ws RX1 TX1 5, w ∈ wsX1_clear := by decide +kernel
  have hl := lv_entry ([.ref h0]) (n := 1) (Nat.le_of_ble_eq_true rfl)
  rw [lg_entry_eq]
  generalize (lg_sl ([.ref h0]) ++ List.replicate (1 - (lg_sl ([.ref h0])).length) Slot.unset).toArray = ls at hl ⊢
  have hl : lv_has ls 1 [(0, .ref h0)] := hl
  refine lv_aload_n hx hb dX1_clear_0 rfl (lv_at hl 0 rfl) ?_
  refine lv_iconst (v := 0) hx hb dX1_clear_1 (by decide) ?_
  refine va_put (D := (dC, dI)) (ci := 1) (v := .int (0 : Int32)) (ty := .int) (C := RX1) (T := TX1) (N := 5) hx hb hts hin0 tyX1 tyX1_ok nmX1 hown hK hP hD hS 0 rfl rfl 1 (by decide) (hts (.fieldLink RX1 61 "BinaryFunctionsModel" "flag" "I") (by decide +kernel)) (fun _ h9 => h9) rfl (by decide +kernel) rfl rfl (Nat.le_of_ble_eq_true rfl) dX1_clear_2 (fun H locs hP hD hS => ?_)
  have hP : va_P (dC, dI) vwCl [(h0, .inr (1, [.ref a0, .int (0 : Int32), .int f2, .long f3, .long f4])), (a0, .inl (cA, 8, .inr (.inl g)))] H := hP
  have hD : va_D A [(h0, .inr (1, [.ref a0, .int (0 : Int32), .int f2, .long f3, .long f4])), (a0, .inl (cA, 8, .inr (.inl g)))] := hD
  exact W.vret hx hb hr (fun t ht hW => ⟨⟨((0 : Int32), f2, f3, f4, g), rfl, by rw [bg_clear], by rw [ht]; exact hP, va_K.moved hW.alike hK, hD⟩, hS.F ht⟩) hS.2.2 dX1_clear_5
