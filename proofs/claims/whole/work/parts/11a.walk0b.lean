/-! walks: the class, methods over the object -/
set_option maxHeartbeats 4000000 in
set_option maxRecDepth 100000 in
theorem bc_raise (l : Launch) (dC : Nat → ClassId) (dI : Nat → Nat → Nat) (h0 a0 : Nat) (sz : Nat) (f1 : Int32) (f2 : Int32) (x1 : Int32) : Met l yX0_raise wsX0_raise ({ frames := 0, cells := 0, slots := 0, locals := 0 }) (va_Pc [.ref h0, .int x1] (bw_I1 (dC, dI) vwCl sz h0 (.inr (0, [.ref a0, .int f1, .int f2])))) (va_Qv (fun (u : Int32 × Int32) => u = bf_raise f1 f2 x1) (fun u t => bw_O1 (dC, dI) vwCl (va_A [(h0, .inr (0, [.ref a0, .int f1, .int f2]))] sz) h0 (.inr (0, [.ref a0, .int u.1, .int u.2])) t) (va_A [(h0, .inr (0, [.ref a0, .int f1, .int f2]))] sz)) 0 0 (va_A [(h0, .inr (0, [.ref a0, .int f1, .int f2]))] sz) := by
  refine Met.ofW (cc := cX0_raise) (maxL := 2) (ret := none) (by decide) rfl ?_
  intro p e s m args below meth c s₁ B hml hv
  obtain ⟨rfl, hsz, hP, hK, hD0⟩ := hv
  have hx := B.exec
  have hb := B.bytes
  have hr := B.returns
  have hts := atoms_spec (ws := wsX0_raise) B.pre
  have hown : s.vm.findClass RX0 = some m.cls := findClass_of_methodNamed B.named
  have hlocks := B.notSynchronized
  subst hsz
  have hD := hD0.self (sz := s.heap.size)
  generalize hAe : va_A [(h0, .inr (0, [.ref a0, .int f1, .int f2]))] s.heap.size = A at hD ⊢
  have hA : ∀ q : Nat, s.heap.size ≤ q → A q := fun q h => by rw [← hAe]; exact Or.inr h
  have hS : va_S A s.heap s.heap [] := va_S.rf
  have hP : va_P (dC, dI) vwCl [(h0, .inr (0, [.ref a0, .int f1, .int f2]))] s.heap := hP
  have hin0 : ∀ w ∈ u_ws RX0 TX0 3, w ∈ wsX0_raise := by decide +kernel
  have hl := lv_entry ([.ref h0, .int x1]) (n := 2) (Nat.le_of_ble_eq_true rfl)
  rw [lg_entry_eq]
  generalize (lg_sl ([.ref h0, .int x1]) ++ List.replicate (2 - (lg_sl ([.ref h0, .int x1])).length) Slot.unset).toArray = ls at hl ⊢
  have hl : lv_has ls 2 [(0, .ref h0), (1, .int x1)] := hl
  refine lv_aload_n hx hb dX0_raise_0 rfl (lv_at hl 0 rfl) ?_
  refine lv_dup hx hb dX0_raise_1 rfl ?_
  refine va_get (D := (dC, dI)) (ci := 0) (v := .int f1) (C := RX0) (T := TX0) (N := 3) hx hb hts hin0 hown hK hP 0 rfl rfl 1 (by decide) (hts (.fieldLink RX0 13 "BinaryFunctions" "raised" "I") (by decide +kernel)) (fun _ h9 => h9) rfl dX0_raise_2 ?_
  refine lv_iload_n hx hb dX0_raise_5 rfl (lv_at hl 1 rfl) ?_
  refine lv_ior hx hb dX0_raise_6 ?_
  refine va_put (D := (dC, dI)) (ci := 0) (v := .int (f1 ||| x1)) (ty := .int) (C := RX0) (T := TX0) (N := 3) hx hb hts hin0 tyX0 tyX0_ok nmX0 hown hK hP hD hS 0 rfl rfl 1 (by decide) (hts (.fieldLink RX0 13 "BinaryFunctions" "raised" "I") (by decide +kernel)) (fun _ h9 => h9) rfl (by decide +kernel) rfl rfl (Nat.le_of_ble_eq_true rfl) dX0_raise_7 (fun H locs hP hD hS => ?_)
  have hP : va_P (dC, dI) vwCl [(h0, .inr (0, [.ref a0, .int (f1 ||| x1), .int f2]))] H := hP
  have hD : va_D A [(h0, .inr (0, [.ref a0, .int (f1 ||| x1), .int f2]))] := hD
  exact W.vret hx hb hr (fun t ht hW => ⟨⟨(f1 ||| x1, f2), rfl, by rw [bf_raise], by rw [ht]; exact hP, va_K.moved hW.alike hK, hD⟩, hS.F ht⟩) hS.2.2 dX0_raise_10
set_option maxHeartbeats 4000000 in
set_option maxRecDepth 100000 in
theorem bl_cr_w {p : Program} {l : Launch} {e : Env} {R : Room} {s : State} {m : MethodId} {args : Array Value} {below : List Frame} {meth : Method} {c : Code} {H : Heap} {locs : List Loc} {Q : State → Prop} (hx : p.tables.exec = Jvm.exec) (hb : c.code = cX0_rootOfPositive) (hml : c.maxLocals = 14) (hown : s.vm.findClass RX0 = some m.cls) (hts : ∀ w ∈ wsX0_rootOfPositive, w.before args s = true) {h0 : Nat} {c1 : Int64} {c3 : Int32} {c4 : Int32} : ∀ (n : Nat) (v5 : Int64) (v7 : Int64) (v9 : Int64) (v11 : Int32) (ls : Array Slot) (r : Int64 × Int64 × Int64 × Int32), lv_has ls 14 [(0, .ref h0), (1, .long c1), (3, .int c3), (4, .int c4), (5, .long v5), (7, .long v7), (9, .long v9), (11, .int v11)] → bl_it (bl_cr_st) n (v5, v7, v9, v11) = some r → (∀ (ls : Array Slot), lv_has ls 14 [(0, .ref h0), (1, .long c1), (3, .int c3), (4, .int c4), (5, .long r.1), (7, .long r.2.1), (9, .long r.2.2.1), (11, .int r.2.2.2)] → W p l e R s m args below meth c H locs 0 0 Q (F0 m 103 ls [])) → W p l e R s m args below meth c H locs 0 0 Q (F0 m 37 ls []) := by
  intro n
  induction n with
  | zero => intro v5 v7 v9 v11 ls r hl h; cases h
  | succ n ih =>
    intro v5 v7 v9 v11 ls r hl h kk
    refine lv_iload hx hb dX0_rootOfPositive_37 (lv_at hl 7 rfl) ?_
    refine lv_bipush (v := 54) hx hb dX0_rootOfPositive_39 (by decide) ?_
    refine lv_icmp_ge (tgt := 103) hx hb dX0_rootOfPositive_41 (by decide) (fun h1 => ?_) (fun h1 => ?_)
    · obtain rfl := bl_stepR (s := (v5, v7, v9, v11)) (show bl_cr_b v5 v7 v9 v11 = .inr (v5, v7, v9, v11) by rw [bl_cr_b, if_pos h1]) h
      exact kk ls (lv_sub hl [0, 1, 2, 3, 4, 5, 6, 7] rfl)
    · refine lv_lload hx hb dX0_rootOfPositive_44 (lv_at hl 6 rfl) ?_
      refine lv_iconst (v := 2) hx hb dX0_rootOfPositive_46 (by decide) ?_
      refine lv_lshl hx hb dX0_rootOfPositive_47 rfl ?_
      refine lv_lload hx hb dX0_rootOfPositive_48 (lv_at hl 4 rfl) ?_
      refine lv_bipush (v := 62) hx hb dX0_rootOfPositive_50 (by decide) ?_
      refine lv_lushr hx hb dX0_rootOfPositive_52 rfl ?_
      refine lv_ladd hx hb dX0_rootOfPositive_53 ?_
      refine lv_lstore (nL := 14) (lv' := [(9, .long ((v9 <<< ((2 : Int32).toInt64 &&& 63)) + ((v5.toUInt64 >>> ((62 : Int32).toInt64.toUInt64 &&& Int64.toUInt64 63)).toInt64))), (0, .ref h0), (1, .long c1), (3, .int c3), (4, .int c4), (5, .long v5), (7, .long v7), (11, .int v11)]) hx hb dX0_rootOfPositive_54 hl (by decide) rfl (fun ls hl => ?_)
      refine lv_lload hx hb dX0_rootOfPositive_56 (lv_at hl 5 rfl) ?_
      refine lv_iconst (v := 2) hx hb dX0_rootOfPositive_58 (by decide) ?_
      refine lv_lshl hx hb dX0_rootOfPositive_59 rfl ?_
      refine lv_lstore (nL := 14) (lv' := [(5, .long (v5 <<< ((2 : Int32).toInt64 &&& 63))), (9, .long ((v9 <<< ((2 : Int32).toInt64 &&& 63)) + ((v5.toUInt64 >>> ((62 : Int32).toInt64.toUInt64 &&& Int64.toUInt64 63)).toInt64))), (0, .ref h0), (1, .long c1), (3, .int c3), (4, .int c4), (7, .long v7), (11, .int v11)]) hx hb dX0_rootOfPositive_60 hl (by decide) rfl (fun ls hl => ?_)
      refine lv_lload hx hb dX0_rootOfPositive_62 (lv_at hl 6 rfl) ?_
      refine lv_iconst (v := 2) hx hb dX0_rootOfPositive_64 (by decide) ?_
      refine lv_lshl hx hb dX0_rootOfPositive_65 rfl ?_
      refine lv_lconst (v := 1) hx hb dX0_rootOfPositive_66 (by decide) ?_
      refine lv_ladd hx hb dX0_rootOfPositive_67 ?_
      refine lv_lstore (nL := 14) (lv' := [(12, .long ((v7 <<< ((2 : Int32).toInt64 &&& 63)) + (1 : Int64))), (5, .long (v5 <<< ((2 : Int32).toInt64 &&& 63))), (9, .long ((v9 <<< ((2 : Int32).toInt64 &&& 63)) + ((v5.toUInt64 >>> ((62 : Int32).toInt64.toUInt64 &&& Int64.toUInt64 63)).toInt64))), (0, .ref h0), (1, .long c1), (3, .int c3), (4, .int c4), (7, .long v7), (11, .int v11)]) hx hb dX0_rootOfPositive_68 hl (by decide) rfl (fun ls hl => ?_)
      refine lv_lload hx hb dX0_rootOfPositive_70 (lv_at hl 7 rfl) ?_
      refine lv_iconst (v := 1) hx hb dX0_rootOfPositive_72 (by decide) ?_
      refine lv_lshl hx hb dX0_rootOfPositive_73 rfl ?_
      refine lv_lstore (nL := 14) (lv' := [(7, .long (v7 <<< ((1 : Int32).toInt64 &&& 63))), (12, .long ((v7 <<< ((2 : Int32).toInt64 &&& 63)) + (1 : Int64))), (5, .long (v5 <<< ((2 : Int32).toInt64 &&& 63))), (9, .long ((v9 <<< ((2 : Int32).toInt64 &&& 63)) + ((v5.toUInt64 >>> ((62 : Int32).toInt64.toUInt64 &&& Int64.toUInt64 63)).toInt64))), (0, .ref h0), (1, .long c1), (3, .int c3), (4, .int c4), (11, .int v11)]) hx hb dX0_rootOfPositive_74 hl (by decide) rfl (fun ls hl => ?_)
      refine lv_lload hx hb dX0_rootOfPositive_76 (lv_at hl 3 rfl) ?_
      refine lv_lload hx hb dX0_rootOfPositive_78 (lv_at hl 1 rfl) ?_
      refine bw_lc_lt (tgt := 97) hx hb dX0_rootOfPositive_80 dX0_rootOfPositive_81 (by decide) (fun h2 => ?_) (fun h2 => ?_)
      · refine lv_iinc (nL := 14) (k := 8) (v := v11 + (1 : Int32)) (lv' := [(11, .int (v11 + (1 : Int32))), (7, .long (v7 <<< ((1 : Int32).toInt64 &&& 63))), (12, .long ((v7 <<< ((2 : Int32).toInt64 &&& 63)) + (1 : Int64))), (5, .long (v5 <<< ((2 : Int32).toInt64 &&& 63))), (9, .long ((v9 <<< ((2 : Int32).toInt64 &&& 63)) + ((v5.toUInt64 >>> ((62 : Int32).toInt64.toUInt64 &&& Int64.toUInt64 63)).toInt64))), (0, .ref h0), (1, .long c1), (3, .int c3), (4, .int c4)]) hx hb dX0_rootOfPositive_97 hl rfl rfl (by decide) rfl (fun ls hl => ?_)
        refine lv_goto (tgt := 37) hx hb dX0_rootOfPositive_100 (by decide) ?_
        exact ih (v5 <<< ((2 : Int32).toInt64 &&& 63)) (v7 <<< ((1 : Int32).toInt64 &&& 63)) ((v9 <<< ((2 : Int32).toInt64 &&& 63)) + ((v5.toUInt64 >>> ((62 : Int32).toInt64.toUInt64 &&& Int64.toUInt64 63)).toInt64)) (v11 + (1 : Int32)) ls r (lv_sub hl [5, 6, 7, 8, 3, 1, 4, 0] rfl) (bl_stepL (s := (v5, v7, v9, v11)) (show bl_cr_b v5 v7 v9 v11 = .inl (v5 <<< ((2 : Int32).toInt64 &&& 63), v7 <<< ((1 : Int32).toInt64 &&& 63), (v9 <<< ((2 : Int32).toInt64 &&& 63)) + ((v5.toUInt64 >>> ((62 : Int32).toInt64.toUInt64 &&& Int64.toUInt64 63)).toInt64), v11 + (1 : Int32)) by rw [bl_cr_b, if_neg h1, if_pos h2]) h) kk
      · refine lv_lload hx hb dX0_rootOfPositive_84 (lv_at hl 3 rfl) ?_
        refine lv_lload hx hb dX0_rootOfPositive_86 (lv_at hl 1 rfl) ?_
        refine lv_lsub hx hb dX0_rootOfPositive_88 ?_
        refine lv_lstore (nL := 14) (lv' := [(9, .long (((v9 <<< ((2 : Int32).toInt64 &&& 63)) + ((v5.toUInt64 >>> ((62 : Int32).toInt64.toUInt64 &&& Int64.toUInt64 63)).toInt64)) - ((v7 <<< ((2 : Int32).toInt64 &&& 63)) + (1 : Int64)))), (7, .long (v7 <<< ((1 : Int32).toInt64 &&& 63))), (12, .long ((v7 <<< ((2 : Int32).toInt64 &&& 63)) + (1 : Int64))), (5, .long (v5 <<< ((2 : Int32).toInt64 &&& 63))), (0, .ref h0), (1, .long c1), (3, .int c3), (4, .int c4), (11, .int v11)]) hx hb dX0_rootOfPositive_89 hl (by decide) rfl (fun ls hl => ?_)
        refine lv_lload hx hb dX0_rootOfPositive_91 (lv_at hl 1 rfl) ?_
        refine lv_lconst (v := 1) hx hb dX0_rootOfPositive_93 (by decide) ?_
        refine lv_ladd hx hb dX0_rootOfPositive_94 ?_
        refine lv_lstore (nL := 14) (lv' := [(7, .long ((v7 <<< ((1 : Int32).toInt64 &&& 63)) + (1 : Int64))), (9, .long (((v9 <<< ((2 : Int32).toInt64 &&& 63)) + ((v5.toUInt64 >>> ((62 : Int32).toInt64.toUInt64 &&& Int64.toUInt64 63)).toInt64)) - ((v7 <<< ((2 : Int32).toInt64 &&& 63)) + (1 : Int64)))), (12, .long ((v7 <<< ((2 : Int32).toInt64 &&& 63)) + (1 : Int64))), (5, .long (v5 <<< ((2 : Int32).toInt64 &&& 63))), (0, .ref h0), (1, .long c1), (3, .int c3), (4, .int c4), (11, .int v11)]) hx hb dX0_rootOfPositive_95 hl (by decide) rfl (fun ls hl => ?_)
        refine lv_iinc (nL := 14) (k := 8) (v := v11 + (1 : Int32)) (lv' := [(11, .int (v11 + (1 : Int32))), (7, .long ((v7 <<< ((1 : Int32).toInt64 &&& 63)) + (1 : Int64))), (9, .long (((v9 <<< ((2 : Int32).toInt64 &&& 63)) + ((v5.toUInt64 >>> ((62 : Int32).toInt64.toUInt64 &&& Int64.toUInt64 63)).toInt64)) - ((v7 <<< ((2 : Int32).toInt64 &&& 63)) + (1 : Int64)))), (12, .long ((v7 <<< ((2 : Int32).toInt64 &&& 63)) + (1 : Int64))), (5, .long (v5 <<< ((2 : Int32).toInt64 &&& 63))), (0, .ref h0), (1, .long c1), (3, .int c3), (4, .int c4)]) hx hb dX0_rootOfPositive_97 hl rfl rfl (by decide) rfl (fun ls hl => ?_)
        refine lv_goto (tgt := 37) hx hb dX0_rootOfPositive_100 (by decide) ?_
        exact ih (v5 <<< ((2 : Int32).toInt64 &&& 63)) ((v7 <<< ((1 : Int32).toInt64 &&& 63)) + (1 : Int64)) (((v9 <<< ((2 : Int32).toInt64 &&& 63)) + ((v5.toUInt64 >>> ((62 : Int32).toInt64.toUInt64 &&& Int64.toUInt64 63)).toInt64)) - ((v7 <<< ((2 : Int32).toInt64 &&& 63)) + (1 : Int64))) (v11 + (1 : Int32)) ls r (lv_sub hl [5, 6, 7, 8, 4, 1, 2, 0] rfl) (bl_stepL (s := (v5, v7, v9, v11)) (show bl_cr_b v5 v7 v9 v11 = .inl (v5 <<< ((2 : Int32).toInt64 &&& 63), (v7 <<< ((1 : Int32).toInt64 &&& 63)) + (1 : Int64), ((v9 <<< ((2 : Int32).toInt64 &&& 63)) + ((v5.toUInt64 >>> ((62 : Int32).toInt64.toUInt64 &&& Int64.toUInt64 63)).toInt64)) - ((v7 <<< ((2 : Int32).toInt64 &&& 63)) + (1 : Int64)), v11 + (1 : Int32)) by rw [bl_cr_b, if_neg h1, if_neg h2]) h) kk
set_option maxHeartbeats 4000000 in
set_option maxRecDepth 100000 in
theorem bc_rootOfPositive (l : Launch) (dC : Nat → ClassId) (dI : Nat → Nat → Nat) (h0 a0 : Nat) (sz : Nat) (f1 : Int32) (f2 : Int32) (x1 : Int64) : Met l yX0_rootOfPositive wsX0_rootOfPositive ({ frames := 4, cells := 0, slots := 0, locals := 86 }) (va_Pc [.ref h0, .long x1] (bw_I1 (dC, dI) vwCl sz h0 (.inr (0, [.ref a0, .int f1, .int f2])))) (va_Ql (fun (r : Int64) (u : Int32 × Int32) => (r, u) = bf_rootOfPositive f1 f2 x1) (fun u t => bw_O1 (dC, dI) vwCl (va_A [(h0, .inr (0, [.ref a0, .int f1, .int f2]))] sz) h0 (.inr (0, [.ref a0, .int u.1, .int u.2])) t) (va_A [(h0, .inr (0, [.ref a0, .int f1, .int f2]))] sz)) 0 0 (va_A [(h0, .inr (0, [.ref a0, .int f1, .int f2]))] sz) := by
  refine Met.ofW (cc := cX0_rootOfPositive) (maxL := 14) (ret := (some .long)) (by decide) rfl ?_
  intro p e s m args below meth c s₁ B hml hv
  obtain ⟨rfl, hsz, hP, hK, hD0⟩ := hv
  have hx := B.exec
  have hb := B.bytes
  have hr := B.returns
  have hts := atoms_spec (ws := wsX0_rootOfPositive) B.pre
  have hown : s.vm.findClass RX0 = some m.cls := findClass_of_methodNamed B.named
  have hlocks := B.notSynchronized
  subst hsz
  have hD := hD0.self (sz := s.heap.size)
  generalize hAe : va_A [(h0, .inr (0, [.ref a0, .int f1, .int f2]))] s.heap.size = A at hD ⊢
  have hA : ∀ q : Nat, s.heap.size ≤ q → A q := fun q h => by rw [← hAe]; exact Or.inr h
  have hS : va_S A s.heap s.heap [] := va_S.rf
  have hP : va_P (dC, dI) vwCl [(h0, .inr (0, [.ref a0, .int f1, .int f2]))] s.heap := hP
  have hl := lv_entry ([.ref h0, .long x1]) (n := 14) (Nat.le_of_ble_eq_true rfl)
  rw [lg_entry_eq]
  generalize (lg_sl ([.ref h0, .long x1]) ++ List.replicate (14 - (lg_sl ([.ref h0, .long x1])).length) Slot.unset).toArray = ls at hl ⊢
  have hl : lv_has ls 14 [(0, .ref h0), (1, .long x1)] := hl
  refine lv_lload_n hx hb dX0_rootOfPositive_0 rfl (lv_at hl 1 rfl) ?_
  refine bw_csi (rest := []) ⟨hx, hb, hml, hown, hts⟩ (bc_fullPower l x1) (va_cwS 1 hts gX0_rootOfPositive_X0_fullPower rfl rfl rfl (by decide +kernel) ⟨Nat.le_of_ble_eq_true rfl, Nat.le_of_ble_eq_true rfl⟩) rfl hl.1 rfl (Nat.le_of_ble_eq_true rfl) dX0_rootOfPositive_1 (Nat.zero_le _) (Nat.zero_le _) ?_
  refine lv_iconst (v := 1) hx hb dX0_rootOfPositive_4 (by decide) ?_
  refine lv_iand hx hb dX0_rootOfPositive_5 ?_
  refine lv_istore_n (nL := 14) (lv' := [(3, .int ((bf_fullPower x1) &&& (1 : Int32))), (0, .ref h0), (1, .long x1)]) hx hb dX0_rootOfPositive_6 rfl hl (by decide) rfl (fun ls hl => ?_)
  refine lv_lload_n hx hb dX0_rootOfPositive_7 rfl (lv_at hl 2 rfl) ?_
  refine bw_csi (rest := []) ⟨hx, hb, hml, hown, hts⟩ (bc_fullPower l x1) (va_cwS 1 hts gX0_rootOfPositive_X0_fullPower rfl rfl rfl (by decide +kernel) ⟨Nat.le_of_ble_eq_true rfl, Nat.le_of_ble_eq_true rfl⟩) rfl hl.1 rfl (Nat.le_of_ble_eq_true rfl) dX0_rootOfPositive_8 (Nat.zero_le _) (Nat.zero_le _) ?_
  refine lv_iload_n hx hb dX0_rootOfPositive_11 rfl (lv_at hl 0 rfl) ?_
  refine lv_isub hx hb dX0_rootOfPositive_12 ?_
  refine lv_iconst (v := 2) hx hb dX0_rootOfPositive_13 (by decide) ?_
  refine lv_idiv hx hb dX0_rootOfPositive_14 (by decide) ?_
  refine lv_istore (nL := 14) (lv' := [(4, .int (((bf_fullPower x1) - ((bf_fullPower x1) &&& (1 : Int32))) / (2 : Int32))), (3, .int ((bf_fullPower x1) &&& (1 : Int32))), (0, .ref h0), (1, .long x1)]) hx hb dX0_rootOfPositive_15 hl (by decide) rfl (fun ls hl => ?_)
  refine lv_lload_n hx hb dX0_rootOfPositive_17 rfl (lv_at hl 3 rfl) ?_
  refine bw_csl (rest := []) ⟨hx, hb, hml, hown, hts⟩ (bc_fullSignificand l x1) (va_cwS 1 hts gX0_rootOfPositive_X0_fullSignificand rfl rfl rfl (by decide +kernel) ⟨Nat.le_of_ble_eq_true rfl, Nat.le_of_ble_eq_true rfl⟩) rfl hl.1 rfl (Nat.le_of_ble_eq_true rfl) dX0_rootOfPositive_18 (Nat.zero_le _) (Nat.zero_le _) ?_
  refine lv_bipush (v := 10) hx hb dX0_rootOfPositive_21 (by decide) ?_
  refine lv_iload_n hx hb dX0_rootOfPositive_23 rfl (lv_at hl 1 rfl) ?_
  refine lv_iadd hx hb dX0_rootOfPositive_24 ?_
  refine lv_lshl hx hb dX0_rootOfPositive_25 rfl ?_
  refine lv_lstore (nL := 14) (lv' := [(5, .long ((bf_fullSignificand x1) <<< (((10 : Int32) + ((bf_fullPower x1) &&& (1 : Int32))).toInt64 &&& 63))), (4, .int (((bf_fullPower x1) - ((bf_fullPower x1) &&& (1 : Int32))) / (2 : Int32))), (3, .int ((bf_fullPower x1) &&& (1 : Int32))), (0, .ref h0), (1, .long x1)]) hx hb dX0_rootOfPositive_26 hl (by decide) rfl (fun ls hl => ?_)
  refine lv_lconst (v := 0) hx hb dX0_rootOfPositive_28 (by decide) ?_
  refine lv_lstore (nL := 14) (lv' := [(7, .long (0 : Int64)), (5, .long ((bf_fullSignificand x1) <<< (((10 : Int32) + ((bf_fullPower x1) &&& (1 : Int32))).toInt64 &&& 63))), (4, .int (((bf_fullPower x1) - ((bf_fullPower x1) &&& (1 : Int32))) / (2 : Int32))), (3, .int ((bf_fullPower x1) &&& (1 : Int32))), (0, .ref h0), (1, .long x1)]) hx hb dX0_rootOfPositive_29 hl (by decide) rfl (fun ls hl => ?_)
  refine lv_lconst (v := 0) hx hb dX0_rootOfPositive_31 (by decide) ?_
  refine lv_lstore (nL := 14) (lv' := [(9, .long (0 : Int64)), (7, .long (0 : Int64)), (5, .long ((bf_fullSignificand x1) <<< (((10 : Int32) + ((bf_fullPower x1) &&& (1 : Int32))).toInt64 &&& 63))), (4, .int (((bf_fullPower x1) - ((bf_fullPower x1) &&& (1 : Int32))) / (2 : Int32))), (3, .int ((bf_fullPower x1) &&& (1 : Int32))), (0, .ref h0), (1, .long x1)]) hx hb dX0_rootOfPositive_32 hl (by decide) rfl (fun ls hl => ?_)
  refine lv_iconst (v := 0) hx hb dX0_rootOfPositive_34 (by decide) ?_
  refine lv_istore (nL := 14) (lv' := [(11, .int (0 : Int32)), (9, .long (0 : Int64)), (7, .long (0 : Int64)), (5, .long ((bf_fullSignificand x1) <<< (((10 : Int32) + ((bf_fullPower x1) &&& (1 : Int32))).toInt64 &&& 63))), (4, .int (((bf_fullPower x1) - ((bf_fullPower x1) &&& (1 : Int32))) / (2 : Int32))), (3, .int ((bf_fullPower x1) &&& (1 : Int32))), (0, .ref h0), (1, .long x1)]) hx hb dX0_rootOfPositive_35 hl (by decide) rfl (fun ls hl => ?_)
  obtain ⟨n3, e3⟩ := bl_cr_ok ((bf_fullSignificand x1) <<< (((10 : Int32) + ((bf_fullPower x1) &&& (1 : Int32))).toInt64 &&& 63), (0 : Int64), (0 : Int64), (0 : Int32))
  refine bl_cr_w hx hb hml hown hts n3 ((bf_fullSignificand x1) <<< (((10 : Int32) + ((bf_fullPower x1) &&& (1 : Int32))).toInt64 &&& 63)) (0 : Int64) (0 : Int64) (0 : Int32) ls _ (lv_sub hl [6, 7, 5, 4, 3, 2, 1, 0] rfl) e3 (fun ls hl => ?_)
  have hl : lv_has ls 14 [(0, .ref h0), (1, .long x1), (3, .int ((bf_fullPower x1) &&& (1 : Int32))), (4, .int (((bf_fullPower x1) - ((bf_fullPower x1) &&& (1 : Int32))) / (2 : Int32))), (5, .long ((bl_cr ((bf_fullSignificand x1) <<< (((10 : Int32) + ((bf_fullPower x1) &&& (1 : Int32))).toInt64 &&& 63), (0 : Int64), (0 : Int64), (0 : Int32))).1)), (7, .long ((bl_cr ((bf_fullSignificand x1) <<< (((10 : Int32) + ((bf_fullPower x1) &&& (1 : Int32))).toInt64 &&& 63), (0 : Int64), (0 : Int64), (0 : Int32))).2.1)), (9, .long ((bl_cr ((bf_fullSignificand x1) <<< (((10 : Int32) + ((bf_fullPower x1) &&& (1 : Int32))).toInt64 &&& 63), (0 : Int64), (0 : Int64), (0 : Int32))).2.2.1)), (11, .int ((bl_cr ((bf_fullSignificand x1) <<< (((10 : Int32) + ((bf_fullPower x1) &&& (1 : Int32))).toInt64 &&& 63), (0 : Int64), (0 : Int64), (0 : Int32))).2.2.2))] := hl
  obtain ⟨r4, e4⟩ : ∃ r, (bl_cr ((bf_fullSignificand x1) <<< (((10 : Int32) + ((bf_fullPower x1) &&& (1 : Int32))).toInt64 &&& 63), (0 : Int64), (0 : Int64), (0 : Int32))) = r := ⟨_, rfl⟩
  rw [e4] at hl
  refine lv_lload hx hb dX0_rootOfPositive_103 (lv_at hl 5 rfl) ?_
  refine lv_lconst (v := 1) hx hb dX0_rootOfPositive_105 (by decide) ?_
  refine lv_land hx hb dX0_rootOfPositive_106 ?_
  refine lv_lstore (nL := 14) (lv' := [(11, .long (r4.2.1 &&& (1 : Int64))), (0, .ref h0), (1, .long x1), (3, .int ((bf_fullPower x1) &&& (1 : Int32))), (4, .int (((bf_fullPower x1) - ((bf_fullPower x1) &&& (1 : Int32))) / (2 : Int32))), (5, .long r4.1), (7, .long r4.2.1), (9, .long r4.2.2.1)]) hx hb dX0_rootOfPositive_107 hl (by decide) rfl (fun ls hl => ?_)
  refine lv_lload hx hb dX0_rootOfPositive_109 (lv_at hl 0 rfl) ?_
  refine lv_lconst (v := 0) hx hb dX0_rootOfPositive_111 (by decide) ?_
  refine bw_lc_ne (tgt := 123) hx hb dX0_rootOfPositive_112 dX0_rootOfPositive_113 (by decide) (fun h5 => ?_) (fun h5 => ?_)
  · refine lv_aload_n hx hb dX0_rootOfPositive_123 rfl (lv_at hl 1 rfl) ?_
    refine lv_iconst (v := 2) hx hb dX0_rootOfPositive_124 (by decide) ?_
    refine bw_vv1 (rest := []) 0 ⟨hx, hb, hml, hown, hts⟩ (bc_raise l dC dI h0 a0 s.heap.size f1 f2 (2 : Int32)) (cwV 1 hts gX0_rootOfPositive_X0_raise rfl rfl rfl (by decide +kernel) ⟨Nat.le_of_ble_eq_true rfl, Nat.le_of_ble_eq_true rfl⟩) hK hP hD hS hA rfl rfl rfl hl.1 rfl (Nat.le_of_ble_eq_true rfl) dX0_rootOfPositive_125 (Nat.zero_le _) (Nat.zero_le _) (fun H locs hP hD hS => ?_)
    have hP : va_P (dC, dI) vwCl [(h0, .inr (0, [.ref a0, .int ((bf_raise f1 f2 (2 : Int32)).1), .int ((bf_raise f1 f2 (2 : Int32)).2)]))] H := hP
    have hD : va_D A [(h0, .inr (0, [.ref a0, .int ((bf_raise f1 f2 (2 : Int32)).1), .int ((bf_raise f1 f2 (2 : Int32)).2)]))] := hD
    obtain ⟨r6, e6⟩ : ∃ r, (bf_raise f1 f2 (2 : Int32)) = r := ⟨_, rfl⟩
    rw [e6] at hP hD
    refine lv_lload hx hb dX0_rootOfPositive_128 (lv_at hl 6 rfl) ?_
    refine lv_iconst (v := 1) hx hb dX0_rootOfPositive_130 (by decide) ?_
    refine lv_lshr hx hb dX0_rootOfPositive_131 rfl ?_
    refine lv_lload hx hb dX0_rootOfPositive_132 (lv_at hl 0 rfl) ?_
    refine lv_ladd hx hb dX0_rootOfPositive_134 ?_
    refine lv_iload hx hb dX0_rootOfPositive_135 (lv_at hl 4 rfl) ?_
    refine lv_bipush (v := 26) hx hb dX0_rootOfPositive_137 (by decide) ?_
    refine lv_isub hx hb dX0_rootOfPositive_139 ?_
    refine bw_csl (rest := []) ⟨hx, hb, hml, hown, hts⟩ (bc_pattern l ((r4.2.1 >>> ((1 : Int32).toInt64 &&& 63)) + (r4.2.1 &&& (1 : Int64))) ((((bf_fullPower x1) - ((bf_fullPower x1) &&& (1 : Int32))) / (2 : Int32)) - (26 : Int32))) (va_cwS 2 hts gX0_rootOfPositive_X0_pattern rfl rfl rfl (by decide +kernel) ⟨Nat.le_of_ble_eq_true rfl, Nat.le_of_ble_eq_true rfl⟩) rfl hl.1 rfl (Nat.le_of_ble_eq_true rfl) dX0_rootOfPositive_140 (Nat.zero_le _) (Nat.zero_le _) ?_
    exact W.lret (v := bf_pattern ((r4.2.1 >>> ((1 : Int32).toInt64 &&& 63)) + (r4.2.1 &&& (1 : Int64))) ((((bf_fullPower x1) - ((bf_fullPower x1) &&& (1 : Int32))) / (2 : Int32)) - (26 : Int32))) hx hb hr (fun t ht hW => ⟨⟨bf_pattern ((r4.2.1 >>> ((1 : Int32).toInt64 &&& 63)) + (r4.2.1 &&& (1 : Int64))) ((((bf_fullPower x1) - ((bf_fullPower x1) &&& (1 : Int32))) / (2 : Int32)) - (26 : Int32)), (r6.1, r6.2), rfl, by rw [bf_rootOfPositive, e4, bf_rootOfPositive_k1, if_neg h5, e6, bf_rootOfPositive_k2], by rw [ht]; exact hP, va_K.moved hW.alike hK, hD⟩, hS.F ht⟩) hS.2.2 dX0_rootOfPositive_143
  · refine lv_lload hx hb dX0_rootOfPositive_116 (lv_at hl 7 rfl) ?_
    refine lv_lconst (v := 0) hx hb dX0_rootOfPositive_118 (by decide) ?_
    refine bw_lc_eq (tgt := 128) hx hb dX0_rootOfPositive_119 dX0_rootOfPositive_120 (by decide) (fun h7 => ?_) (fun h7 => ?_)
    · refine lv_lload hx hb dX0_rootOfPositive_128 (lv_at hl 6 rfl) ?_
      refine lv_iconst (v := 1) hx hb dX0_rootOfPositive_130 (by decide) ?_
      refine lv_lshr hx hb dX0_rootOfPositive_131 rfl ?_
      refine lv_lload hx hb dX0_rootOfPositive_132 (lv_at hl 0 rfl) ?_
      refine lv_ladd hx hb dX0_rootOfPositive_134 ?_
      refine lv_iload hx hb dX0_rootOfPositive_135 (lv_at hl 4 rfl) ?_
      refine lv_bipush (v := 26) hx hb dX0_rootOfPositive_137 (by decide) ?_
      refine lv_isub hx hb dX0_rootOfPositive_139 ?_
      refine bw_csl (rest := []) ⟨hx, hb, hml, hown, hts⟩ (bc_pattern l ((r4.2.1 >>> ((1 : Int32).toInt64 &&& 63)) + (r4.2.1 &&& (1 : Int64))) ((((bf_fullPower x1) - ((bf_fullPower x1) &&& (1 : Int32))) / (2 : Int32)) - (26 : Int32))) (va_cwS 2 hts gX0_rootOfPositive_X0_pattern rfl rfl rfl (by decide +kernel) ⟨Nat.le_of_ble_eq_true rfl, Nat.le_of_ble_eq_true rfl⟩) rfl hl.1 rfl (Nat.le_of_ble_eq_true rfl) dX0_rootOfPositive_140 (Nat.zero_le _) (Nat.zero_le _) ?_
      exact W.lret (v := bf_pattern ((r4.2.1 >>> ((1 : Int32).toInt64 &&& 63)) + (r4.2.1 &&& (1 : Int64))) ((((bf_fullPower x1) - ((bf_fullPower x1) &&& (1 : Int32))) / (2 : Int32)) - (26 : Int32))) hx hb hr (fun t ht hW => ⟨⟨bf_pattern ((r4.2.1 >>> ((1 : Int32).toInt64 &&& 63)) + (r4.2.1 &&& (1 : Int64))) ((((bf_fullPower x1) - ((bf_fullPower x1) &&& (1 : Int32))) / (2 : Int32)) - (26 : Int32)), (f1, f2), rfl, by rw [bf_rootOfPositive, e4, bf_rootOfPositive_k1, if_pos h5, if_pos h7], by rw [ht]; exact hP, va_K.moved hW.alike hK, hD⟩, hS.F ht⟩) hS.2.2 dX0_rootOfPositive_143
    · refine lv_aload_n hx hb dX0_rootOfPositive_123 rfl (lv_at hl 1 rfl) ?_
      refine lv_iconst (v := 2) hx hb dX0_rootOfPositive_124 (by decide) ?_
      refine bw_vv1 (rest := []) 0 ⟨hx, hb, hml, hown, hts⟩ (bc_raise l dC dI h0 a0 s.heap.size f1 f2 (2 : Int32)) (cwV 1 hts gX0_rootOfPositive_X0_raise rfl rfl rfl (by decide +kernel) ⟨Nat.le_of_ble_eq_true rfl, Nat.le_of_ble_eq_true rfl⟩) hK hP hD hS hA rfl rfl rfl hl.1 rfl (Nat.le_of_ble_eq_true rfl) dX0_rootOfPositive_125 (Nat.zero_le _) (Nat.zero_le _) (fun H locs hP hD hS => ?_)
      have hP : va_P (dC, dI) vwCl [(h0, .inr (0, [.ref a0, .int ((bf_raise f1 f2 (2 : Int32)).1), .int ((bf_raise f1 f2 (2 : Int32)).2)]))] H := hP
      have hD : va_D A [(h0, .inr (0, [.ref a0, .int ((bf_raise f1 f2 (2 : Int32)).1), .int ((bf_raise f1 f2 (2 : Int32)).2)]))] := hD
      obtain ⟨r8, e8⟩ : ∃ r, (bf_raise f1 f2 (2 : Int32)) = r := ⟨_, rfl⟩
      rw [e8] at hP hD
      refine lv_lload hx hb dX0_rootOfPositive_128 (lv_at hl 6 rfl) ?_
      refine lv_iconst (v := 1) hx hb dX0_rootOfPositive_130 (by decide) ?_
      refine lv_lshr hx hb dX0_rootOfPositive_131 rfl ?_
      refine lv_lload hx hb dX0_rootOfPositive_132 (lv_at hl 0 rfl) ?_
      refine lv_ladd hx hb dX0_rootOfPositive_134 ?_
      refine lv_iload hx hb dX0_rootOfPositive_135 (lv_at hl 4 rfl) ?_
      refine lv_bipush (v := 26) hx hb dX0_rootOfPositive_137 (by decide) ?_
      refine lv_isub hx hb dX0_rootOfPositive_139 ?_
      refine bw_csl (rest := []) ⟨hx, hb, hml, hown, hts⟩ (bc_pattern l ((r4.2.1 >>> ((1 : Int32).toInt64 &&& 63)) + (r4.2.1 &&& (1 : Int64))) ((((bf_fullPower x1) - ((bf_fullPower x1) &&& (1 : Int32))) / (2 : Int32)) - (26 : Int32))) (va_cwS 2 hts gX0_rootOfPositive_X0_pattern rfl rfl rfl (by decide +kernel) ⟨Nat.le_of_ble_eq_true rfl, Nat.le_of_ble_eq_true rfl⟩) rfl hl.1 rfl (Nat.le_of_ble_eq_true rfl) dX0_rootOfPositive_140 (Nat.zero_le _) (Nat.zero_le _) ?_
      exact W.lret (v := bf_pattern ((r4.2.1 >>> ((1 : Int32).toInt64 &&& 63)) + (r4.2.1 &&& (1 : Int64))) ((((bf_fullPower x1) - ((bf_fullPower x1) &&& (1 : Int32))) / (2 : Int32)) - (26 : Int32))) hx hb hr (fun t ht hW => ⟨⟨bf_pattern ((r4.2.1 >>> ((1 : Int32).toInt64 &&& 63)) + (r4.2.1 &&& (1 : Int64))) ((((bf_fullPower x1) - ((bf_fullPower x1) &&& (1 : Int32))) / (2 : Int32)) - (26 : Int32)), (r8.1, r8.2), rfl, by rw [bf_rootOfPositive, e4, bf_rootOfPositive_k1, if_pos h5, if_neg h7, e8, bf_rootOfPositive_k3], by rw [ht]; exact hP, va_K.moved hW.alike hK, hD⟩, hS.F ht⟩) hS.2.2 dX0_rootOfPositive_143
set_option maxHeartbeats 4000000 in
set_option maxRecDepth 100000 in
theorem bc_squareRoot (l : Launch) (dC : Nat → ClassId) (dI : Nat → Nat → Nat) (h0 a0 : Nat) (sz : Nat) (f1 : Int32) (f2 : Int32) (x1 : Int64) : Met l yX0_squareRoot wsX0_squareRoot ({ frames := 5, cells := 0, slots := 0, locals := 119 }) (va_Pc [.ref h0, .long x1] (bw_I1 (dC, dI) vwCl sz h0 (.inr (0, [.ref a0, .int f1, .int f2])))) (va_Ql (fun (r : Int64) (u : Int32 × Int32) => (r, u) = bf_squareRoot f1 f2 x1) (fun u t => bw_O1 (dC, dI) vwCl (va_A [(h0, .inr (0, [.ref a0, .int f1, .int f2]))] sz) h0 (.inr (0, [.ref a0, .int u.1, .int u.2])) t) (va_A [(h0, .inr (0, [.ref a0, .int f1, .int f2]))] sz)) 0 0 (va_A [(h0, .inr (0, [.ref a0, .int f1, .int f2]))] sz) := by
  refine Met.ofW (cc := cX0_squareRoot) (maxL := 3) (ret := (some .long)) (by decide) rfl ?_
  intro p e s m args below meth c s₁ B hml hv
  obtain ⟨rfl, hsz, hP, hK, hD0⟩ := hv
  have hx := B.exec
  have hb := B.bytes
  have hr := B.returns
  have hts := atoms_spec (ws := wsX0_squareRoot) B.pre
  have hown : s.vm.findClass RX0 = some m.cls := findClass_of_methodNamed B.named
  have hlocks := B.notSynchronized
  subst hsz
  have hD := hD0.self (sz := s.heap.size)
  generalize hAe : va_A [(h0, .inr (0, [.ref a0, .int f1, .int f2]))] s.heap.size = A at hD ⊢
  have hA : ∀ q : Nat, s.heap.size ≤ q → A q := fun q h => by rw [← hAe]; exact Or.inr h
  have hS : va_S A s.heap s.heap [] := va_S.rf
  have hP : va_P (dC, dI) vwCl [(h0, .inr (0, [.ref a0, .int f1, .int f2]))] s.heap := hP
  have hl := lv_entry ([.ref h0, .long x1]) (n := 3) (Nat.le_of_ble_eq_true rfl)
  rw [lg_entry_eq]
  generalize (lg_sl ([.ref h0, .long x1]) ++ List.replicate (3 - (lg_sl ([.ref h0, .long x1])).length) Slot.unset).toArray = ls at hl ⊢
  have hl : lv_has ls 3 [(0, .ref h0), (1, .long x1)] := hl
  refine lv_lload_n hx hb dX0_squareRoot_0 rfl (lv_at hl 1 rfl) ?_
  refine bw_csi (rest := []) ⟨hx, hb, hml, hown, hts⟩ (bc_isNan l x1) (va_cwS 1 hts gX0_squareRoot_X0_isNan rfl rfl rfl (by decide +kernel) ⟨Nat.le_of_ble_eq_true rfl, Nat.le_of_ble_eq_true rfl⟩) rfl hl.1 rfl (Nat.le_of_ble_eq_true rfl) dX0_squareRoot_1 (Nat.zero_le _) (Nat.zero_le _) ?_
  refine lv_if_eq (tgt := 11) hx hb dX0_squareRoot_4 (by decide) (fun h1 => ?_) (fun h1 => ?_)
  · refine lv_lload_n hx hb dX0_squareRoot_11 rfl (lv_at hl 1 rfl) ?_
    refine bw_csi (rest := []) ⟨hx, hb, hml, hown, hts⟩ (bc_isZero l x1) (va_cwS 1 hts gX0_squareRoot_X0_isZero rfl rfl rfl (by decide +kernel) ⟨Nat.le_of_ble_eq_true rfl, Nat.le_of_ble_eq_true rfl⟩) rfl hl.1 rfl (Nat.le_of_ble_eq_true rfl) dX0_squareRoot_12 (Nat.zero_le _) (Nat.zero_le _) ?_
    refine lv_if_ne (tgt := 26) hx hb dX0_squareRoot_15 (by decide) (fun h2 => ?_) (fun h2 => ?_)
    · refine lv_lload_n hx hb dX0_squareRoot_26 rfl (lv_at hl 1 rfl) ?_
      exact W.lret (v := x1) hx hb hr (fun t ht hW => ⟨⟨x1, (f1, f2), rfl, by rw [bf_squareRoot, if_pos h1, if_neg h2], by rw [ht]; exact hP, va_K.moved hW.alike hK, hD⟩, hS.F ht⟩) hS.2.2 dX0_squareRoot_27
    · refine lv_lload_n hx hb dX0_squareRoot_18 rfl (lv_at hl 1 rfl) ?_
      refine lv_ldc2 hx hb hown (hts (.constantLong RX0 67 9218868437227405312) (by decide +kernel)) dX0_squareRoot_19 ?_
      refine bw_lc_ne (tgt := 28) hx hb dX0_squareRoot_22 dX0_squareRoot_23 (by decide) (fun h3 => ?_) (fun h3 => ?_)
      · refine lv_lload_n hx hb dX0_squareRoot_28 rfl (lv_at hl 1 rfl) ?_
        refine lv_lconst (v := 0) hx hb dX0_squareRoot_29 (by decide) ?_
        refine bw_lc_ge (tgt := 43) hx hb dX0_squareRoot_30 dX0_squareRoot_31 (by decide) (fun h4 => ?_) (fun h4 => ?_)
        · refine lv_aload_n hx hb dX0_squareRoot_43 rfl (lv_at hl 0 rfl) ?_
          refine lv_lload_n hx hb dX0_squareRoot_44 rfl (lv_at hl 1 rfl) ?_
          refine bw_vl1 (rest := []) 0 ⟨hx, hb, hml, hown, hts⟩ (bc_rootOfPositive l dC dI h0 a0 s.heap.size f1 f2 x1) (cwV 1 hts gX0_squareRoot_X0_rootOfPositive rfl rfl rfl (by decide +kernel) ⟨Nat.le_of_ble_eq_true rfl, Nat.le_of_ble_eq_true rfl⟩) hK hP hD hS hA rfl rfl rfl hl.1 rfl (Nat.le_of_ble_eq_true rfl) dX0_squareRoot_45 (Nat.zero_le _) (Nat.zero_le _) (fun H locs hP hD hS => ?_)
          have hP : va_P (dC, dI) vwCl [(h0, .inr (0, [.ref a0, .int ((bf_rootOfPositive f1 f2 x1).2.1), .int ((bf_rootOfPositive f1 f2 x1).2.2)]))] H := hP
          have hD : va_D A [(h0, .inr (0, [.ref a0, .int ((bf_rootOfPositive f1 f2 x1).2.1), .int ((bf_rootOfPositive f1 f2 x1).2.2)]))] := hD
          obtain ⟨r5, e5⟩ : ∃ r, (bf_rootOfPositive f1 f2 x1) = r := ⟨_, rfl⟩
          rw [e5] at hP hD ⊢
          exact W.lret (v := r5.1) hx hb hr (fun t ht hW => ⟨⟨r5.1, (r5.2.1, r5.2.2), rfl, by rw [bf_squareRoot, if_pos h1, if_pos h2, if_neg h3, if_pos h4, e5, bf_squareRoot_k1], by rw [ht]; exact hP, va_K.moved hW.alike hK, hD⟩, hS.F ht⟩) hS.2.2 dX0_squareRoot_48
        · refine lv_aload_n hx hb dX0_squareRoot_34 rfl (lv_at hl 0 rfl) ?_
          refine lv_iconst (v := 1) hx hb dX0_squareRoot_35 (by decide) ?_
          refine bw_vv1 (rest := []) 0 ⟨hx, hb, hml, hown, hts⟩ (bc_raise l dC dI h0 a0 s.heap.size f1 f2 (1 : Int32)) (cwV 1 hts gX0_squareRoot_X0_raise rfl rfl rfl (by decide +kernel) ⟨Nat.le_of_ble_eq_true rfl, Nat.le_of_ble_eq_true rfl⟩) hK hP hD hS hA rfl rfl rfl hl.1 rfl (Nat.le_of_ble_eq_true rfl) dX0_squareRoot_36 (Nat.zero_le _) (Nat.zero_le _) (fun H locs hP hD hS => ?_)
          have hP : va_P (dC, dI) vwCl [(h0, .inr (0, [.ref a0, .int ((bf_raise f1 f2 (1 : Int32)).1), .int ((bf_raise f1 f2 (1 : Int32)).2)]))] H := hP
          have hD : va_D A [(h0, .inr (0, [.ref a0, .int ((bf_raise f1 f2 (1 : Int32)).1), .int ((bf_raise f1 f2 (1 : Int32)).2)]))] := hD
          obtain ⟨r6, e6⟩ : ∃ r, (bf_raise f1 f2 (1 : Int32)) = r := ⟨_, rfl⟩
          rw [e6] at hP hD
          refine lv_ldc2 hx hb hown (hts (.constantLong RX0 101 9221120237041090560) (by decide +kernel)) dX0_squareRoot_39 ?_
          exact W.lret (v := (9221120237041090560 : Int64)) hx hb hr (fun t ht hW => ⟨⟨(9221120237041090560 : Int64), (r6.1, r6.2), rfl, by rw [bf_squareRoot, if_pos h1, if_pos h2, if_neg h3, if_neg h4, e6, bf_squareRoot_k2], by rw [ht]; exact hP, va_K.moved hW.alike hK, hD⟩, hS.F ht⟩) hS.2.2 dX0_squareRoot_42
      · refine lv_lload_n hx hb dX0_squareRoot_26 rfl (lv_at hl 1 rfl) ?_
        exact W.lret (v := x1) hx hb hr (fun t ht hW => ⟨⟨x1, (f1, f2), rfl, by rw [bf_squareRoot, if_pos h1, if_pos h2, if_pos h3], by rw [ht]; exact hP, va_K.moved hW.alike hK, hD⟩, hS.F ht⟩) hS.2.2 dX0_squareRoot_27
  · refine lv_ldc2 hx hb hown (hts (.constantLong RX0 101 9221120237041090560) (by decide +kernel)) dX0_squareRoot_7 ?_
    exact W.lret (v := (9221120237041090560 : Int64)) hx hb hr (fun t ht hW => ⟨⟨(9221120237041090560 : Int64), (f1, f2), rfl, by rw [bf_squareRoot, if_neg h1], by rw [ht]; exact hP, va_K.moved hW.alike hK, hD⟩, hS.F ht⟩) hS.2.2 dX0_squareRoot_10
set_option maxHeartbeats 4000000 in
set_option maxRecDepth 100000 in
theorem bc_madeWhole (l : Launch) (dC : Nat → ClassId) (dI : Nat → Nat → Nat) (h0 a0 : Nat) (sz : Nat) (f1 : Int32) (f2 : Int32) (x1 : Int64) (x2 : Int32) : Met l yX0_madeWhole wsX0_madeWhole ({ frames := 3, cells := 0, slots := 0, locals := 67 }) (va_Pc [.ref h0, .long x1, .int x2] (bw_I1 (dC, dI) vwCl sz h0 (.inr (0, [.ref a0, .int f1, .int f2])))) (va_Ql (fun (r : Int64) (u : Int32 × Int32) => (r, u) = bf_madeWhole f1 f2 x1 x2) (fun u t => bw_O1 (dC, dI) vwCl (va_A [(h0, .inr (0, [.ref a0, .int f1, .int f2]))] sz) h0 (.inr (0, [.ref a0, .int u.1, .int u.2])) t) (va_A [(h0, .inr (0, [.ref a0, .int f1, .int f2]))] sz)) 0 0 (va_A [(h0, .inr (0, [.ref a0, .int f1, .int f2]))] sz) := by
  refine Met.ofW (cc := cX0_madeWhole) (maxL := 7) (ret := (some .long)) (by decide) rfl ?_
  intro p e s m args below meth c s₁ B hml hv
  obtain ⟨rfl, hsz, hP, hK, hD0⟩ := hv
  have hx := B.exec
  have hb := B.bytes
  have hr := B.returns
  have hts := atoms_spec (ws := wsX0_madeWhole) B.pre
  have hown : s.vm.findClass RX0 = some m.cls := findClass_of_methodNamed B.named
  have hlocks := B.notSynchronized
  subst hsz
  have hD := hD0.self (sz := s.heap.size)
  generalize hAe : va_A [(h0, .inr (0, [.ref a0, .int f1, .int f2]))] s.heap.size = A at hD ⊢
  have hA : ∀ q : Nat, s.heap.size ≤ q → A q := fun q h => by rw [← hAe]; exact Or.inr h
  have hS : va_S A s.heap s.heap [] := va_S.rf
  have hP : va_P (dC, dI) vwCl [(h0, .inr (0, [.ref a0, .int f1, .int f2]))] s.heap := hP
  have hl := lv_entry ([.ref h0, .long x1, .int x2]) (n := 7) (Nat.le_of_ble_eq_true rfl)
  rw [lg_entry_eq]
  generalize (lg_sl ([.ref h0, .long x1, .int x2]) ++ List.replicate (7 - (lg_sl ([.ref h0, .long x1, .int x2])).length) Slot.unset).toArray = ls at hl ⊢
  have hl : lv_has ls 7 [(0, .ref h0), (1, .long x1), (3, .int x2)] := hl
  refine lv_lload_n hx hb dX0_madeWhole_0 rfl (lv_at hl 1 rfl) ?_
  refine bw_csi (rest := []) ⟨hx, hb, hml, hown, hts⟩ (bc_isNan l x1) (va_cwS 1 hts gX0_madeWhole_X0_isNan rfl rfl rfl (by decide +kernel) ⟨Nat.le_of_ble_eq_true rfl, Nat.le_of_ble_eq_true rfl⟩) rfl hl.1 rfl (Nat.le_of_ble_eq_true rfl) dX0_madeWhole_1 (Nat.zero_le _) (Nat.zero_le _) ?_
  refine lv_if_eq (tgt := 11) hx hb dX0_madeWhole_4 (by decide) (fun h1 => ?_) (fun h1 => ?_)
  · refine lv_lload_n hx hb dX0_madeWhole_11 rfl (lv_at hl 1 rfl) ?_
    refine bw_csi (rest := []) ⟨hx, hb, hml, hown, hts⟩ (bc_isZero l x1) (va_cwS 1 hts gX0_madeWhole_X0_isZero rfl rfl rfl (by decide +kernel) ⟨Nat.le_of_ble_eq_true rfl, Nat.le_of_ble_eq_true rfl⟩) rfl hl.1 rfl (Nat.le_of_ble_eq_true rfl) dX0_madeWhole_12 (Nat.zero_le _) (Nat.zero_le _) ?_
    refine lv_if_ne (tgt := 32) hx hb dX0_madeWhole_15 (by decide) (fun h2 => ?_) (fun h2 => ?_)
    · refine lv_lload_n hx hb dX0_madeWhole_32 rfl (lv_at hl 1 rfl) ?_
      exact W.lret (v := x1) hx hb hr (fun t ht hW => ⟨⟨x1, (f1, f2), rfl, by rw [bf_madeWhole, if_pos h1, if_neg h2], by rw [ht]; exact hP, va_K.moved hW.alike hK, hD⟩, hS.F ht⟩) hS.2.2 dX0_madeWhole_33
    · refine lv_lload_n hx hb dX0_madeWhole_18 rfl (lv_at hl 1 rfl) ?_
      refine bw_csi (rest := []) ⟨hx, hb, hml, hown, hts⟩ (bc_isInfinity l x1) (va_cwS 1 hts gX0_madeWhole_X0_isInfinity rfl rfl rfl (by decide +kernel) ⟨Nat.le_of_ble_eq_true rfl, Nat.le_of_ble_eq_true rfl⟩) rfl hl.1 rfl (Nat.le_of_ble_eq_true rfl) dX0_madeWhole_19 (Nat.zero_le _) (Nat.zero_le _) ?_
      refine lv_if_ne (tgt := 32) hx hb dX0_madeWhole_22 (by decide) (fun h3 => ?_) (fun h3 => ?_)
      · refine lv_lload_n hx hb dX0_madeWhole_32 rfl (lv_at hl 1 rfl) ?_
        exact W.lret (v := x1) hx hb hr (fun t ht hW => ⟨⟨x1, (f1, f2), rfl, by rw [bf_madeWhole, if_pos h1, if_pos h2, if_neg h3], by rw [ht]; exact hP, va_K.moved hW.alike hK, hD⟩, hS.F ht⟩) hS.2.2 dX0_madeWhole_33
      · refine lv_lload_n hx hb dX0_madeWhole_25 rfl (lv_at hl 1 rfl) ?_
        refine bw_csi (rest := []) ⟨hx, hb, hml, hown, hts⟩ (bc_power l x1) (va_cwS 1 hts gX0_madeWhole_X0_power rfl rfl rfl (by decide +kernel) ⟨Nat.le_of_ble_eq_true rfl, Nat.le_of_ble_eq_true rfl⟩) rfl hl.1 rfl (Nat.le_of_ble_eq_true rfl) dX0_madeWhole_26 (Nat.zero_le _) (Nat.zero_le _) ?_
        refine lv_if_lt (tgt := 34) hx hb dX0_madeWhole_29 (by decide) (fun h4 => ?_) (fun h4 => ?_)
        · refine lv_lload_n hx hb dX0_madeWhole_34 rfl (lv_at hl 1 rfl) ?_
          refine bw_csi (rest := []) ⟨hx, hb, hml, hown, hts⟩ (bc_power l x1) (va_cwS 1 hts gX0_madeWhole_X0_power rfl rfl rfl (by decide +kernel) ⟨Nat.le_of_ble_eq_true rfl, Nat.le_of_ble_eq_true rfl⟩) rfl hl.1 rfl (Nat.le_of_ble_eq_true rfl) dX0_madeWhole_35 (Nat.zero_le _) (Nat.zero_le _) ?_
          refine lv_ineg hx hb dX0_madeWhole_38 ?_
          refine lv_bipush (v := 60) hx hb dX0_madeWhole_39 (by decide) ?_
          refine va_mmin (rest := []) hx hb (hml.trans hl.1.symm) hown (hts (.methodLink RX0 98 Lib.Math.min.name) (by decide +kernel)) (hts (.static Lib.Math.min.name) (by decide +kernel)) (hts (.initialized "java/lang/Math") (by decide +kernel)) (hts (.code Lib.Math.min.name Lib.Math.min.code 2 (some .int)) (by decide +kernel)) (Nat.le_of_ble_eq_true rfl) (Nat.le_of_ble_eq_true rfl) (Nat.zero_le _) (Nat.zero_le _) dX0_madeWhole_41 ?_
          refine lv_istore (nL := 7) (lv' := [(4, .int (if (60 : Int32) < (-(bf_power x1)) then (60 : Int32) else (-(bf_power x1)))), (0, .ref h0), (1, .long x1), (3, .int x2)]) hx hb dX0_madeWhole_44 hl (by decide) rfl (fun ls hl => ?_)
          refine lv_lload_n hx hb dX0_madeWhole_46 rfl (lv_at hl 2 rfl) ?_
          refine bw_csl (rest := []) ⟨hx, hb, hml, hown, hts⟩ (bc_signOf l x1) (va_cwS 1 hts gX0_madeWhole_X0_signOf rfl rfl rfl (by decide +kernel) ⟨Nat.le_of_ble_eq_true rfl, Nat.le_of_ble_eq_true rfl⟩) rfl hl.1 rfl (Nat.le_of_ble_eq_true rfl) dX0_madeWhole_47 (Nat.zero_le _) (Nat.zero_le _) ?_
          refine lv_lload_n hx hb dX0_madeWhole_50 rfl (lv_at hl 2 rfl) ?_
          refine bw_csl (rest := [.long (bf_signOf x1)]) ⟨hx, hb, hml, hown, hts⟩ (bc_significand l x1) (va_cwS 1 hts gX0_madeWhole_X0_significand rfl rfl rfl (by decide +kernel) ⟨Nat.le_of_ble_eq_true rfl, Nat.le_of_ble_eq_true rfl⟩) rfl hl.1 rfl (Nat.le_of_ble_eq_true rfl) dX0_madeWhole_51 (Nat.zero_le _) (Nat.zero_le _) ?_
          refine lv_iload hx hb dX0_madeWhole_54 (lv_at hl 0 rfl) ?_
          refine lv_lload_n hx hb dX0_madeWhole_56 rfl (lv_at hl 2 rfl) ?_
          refine lv_lconst (v := 0) hx hb dX0_madeWhole_57 (by decide) ?_
          refine bw_lc_ge (tgt := 66) hx hb dX0_madeWhole_58 dX0_madeWhole_59 (by decide) (fun h5 => ?_) (fun h5 => ?_)
          · refine lv_iconst (v := 0) hx hb dX0_madeWhole_66 (by decide) ?_
            refine lv_iload_n hx hb dX0_madeWhole_67 rfl (lv_at hl 3 rfl) ?_
            refine bw_csl (rest := [.long (bf_signOf x1)]) ⟨hx, hb, hml, hown, hts⟩ (bc_wholeAmount l (bf_significand x1) (if (60 : Int32) < (-(bf_power x1)) then (60 : Int32) else (-(bf_power x1))) (0 : Int32) x2) (va_cwS 4 hts gX0_madeWhole_X0_wholeAmount rfl rfl rfl (by decide +kernel) ⟨Nat.le_of_ble_eq_true rfl, Nat.le_of_ble_eq_true rfl⟩) rfl hl.1 rfl (Nat.le_of_ble_eq_true rfl) dX0_madeWhole_68 (Nat.zero_le _) (Nat.zero_le _) ?_
            refine lv_iconst (v := 0) hx hb dX0_madeWhole_71 (by decide) ?_
            refine bw_csl (rest := [.long (bf_signOf x1)]) ⟨hx, hb, hml, hown, hts⟩ (bc_pattern l (bf_wholeAmount (bf_significand x1) (if (60 : Int32) < (-(bf_power x1)) then (60 : Int32) else (-(bf_power x1))) (0 : Int32) x2) (0 : Int32)) (va_cwS 2 hts gX0_madeWhole_X0_pattern rfl rfl rfl (by decide +kernel) ⟨Nat.le_of_ble_eq_true rfl, Nat.le_of_ble_eq_true rfl⟩) rfl hl.1 rfl (Nat.le_of_ble_eq_true rfl) dX0_madeWhole_72 (Nat.zero_le _) (Nat.zero_le _) ?_
            refine lv_lor hx hb dX0_madeWhole_75 ?_
            refine lv_lstore (nL := 7) (lv' := [(5, .long ((bf_signOf x1) ||| (bf_pattern (bf_wholeAmount (bf_significand x1) (if (60 : Int32) < (-(bf_power x1)) then (60 : Int32) else (-(bf_power x1))) (0 : Int32) x2) (0 : Int32)))), (4, .int (if (60 : Int32) < (-(bf_power x1)) then (60 : Int32) else (-(bf_power x1)))), (0, .ref h0), (1, .long x1), (3, .int x2)]) hx hb dX0_madeWhole_76 hl (by decide) rfl (fun ls hl => ?_)
            refine lv_iload_n hx hb dX0_madeWhole_78 rfl (lv_at hl 4 rfl) ?_
            refine lv_if_ne (tgt := 94) hx hb dX0_madeWhole_79 (by decide) (fun h6 => ?_) (fun h6 => ?_)
            · refine lv_lload hx hb dX0_madeWhole_94 (lv_at hl 0 rfl) ?_
              exact W.lret (v := (bf_signOf x1) ||| (bf_pattern (bf_wholeAmount (bf_significand x1) (if (60 : Int32) < (-(bf_power x1)) then (60 : Int32) else (-(bf_power x1))) (0 : Int32) x2) (0 : Int32))) hx hb hr (fun t ht hW => ⟨⟨(bf_signOf x1) ||| (bf_pattern (bf_wholeAmount (bf_significand x1) (if (60 : Int32) < (-(bf_power x1)) then (60 : Int32) else (-(bf_power x1))) (0 : Int32) x2) (0 : Int32)), (f1, f2), rfl, by rw [bf_madeWhole, if_pos h1, if_pos h2, if_pos h3, if_pos h4, if_pos h5, if_neg h6], by rw [ht]; exact hP, va_K.moved hW.alike hK, hD⟩, hS.F ht⟩) hS.2.2 dX0_madeWhole_96
            · refine lv_lload hx hb dX0_madeWhole_82 (lv_at hl 0 rfl) ?_
              refine lv_lload_n hx hb dX0_madeWhole_84 rfl (lv_at hl 3 rfl) ?_
              refine bw_lc_eq (tgt := 94) hx hb dX0_madeWhole_85 dX0_madeWhole_86 (by decide) (fun h7 => ?_) (fun h7 => ?_)
              · refine lv_lload hx hb dX0_madeWhole_94 (lv_at hl 0 rfl) ?_
                exact W.lret (v := (bf_signOf x1) ||| (bf_pattern (bf_wholeAmount (bf_significand x1) (if (60 : Int32) < (-(bf_power x1)) then (60 : Int32) else (-(bf_power x1))) (0 : Int32) x2) (0 : Int32))) hx hb hr (fun t ht hW => ⟨⟨(bf_signOf x1) ||| (bf_pattern (bf_wholeAmount (bf_significand x1) (if (60 : Int32) < (-(bf_power x1)) then (60 : Int32) else (-(bf_power x1))) (0 : Int32) x2) (0 : Int32)), (f1, f2), rfl, by rw [bf_madeWhole, if_pos h1, if_pos h2, if_pos h3, if_pos h4, if_pos h5, if_pos h6, if_pos h7], by rw [ht]; exact hP, va_K.moved hW.alike hK, hD⟩, hS.F ht⟩) hS.2.2 dX0_madeWhole_96
              · refine lv_aload_n hx hb dX0_madeWhole_89 rfl (lv_at hl 2 rfl) ?_
                refine lv_iconst (v := 2) hx hb dX0_madeWhole_90 (by decide) ?_
                refine bw_vv1 (rest := []) 0 ⟨hx, hb, hml, hown, hts⟩ (bc_raise l dC dI h0 a0 s.heap.size f1 f2 (2 : Int32)) (cwV 1 hts gX0_madeWhole_X0_raise rfl rfl rfl (by decide +kernel) ⟨Nat.le_of_ble_eq_true rfl, Nat.le_of_ble_eq_true rfl⟩) hK hP hD hS hA rfl rfl rfl hl.1 rfl (Nat.le_of_ble_eq_true rfl) dX0_madeWhole_91 (Nat.zero_le _) (Nat.zero_le _) (fun H locs hP hD hS => ?_)
                have hP : va_P (dC, dI) vwCl [(h0, .inr (0, [.ref a0, .int ((bf_raise f1 f2 (2 : Int32)).1), .int ((bf_raise f1 f2 (2 : Int32)).2)]))] H := hP
                have hD : va_D A [(h0, .inr (0, [.ref a0, .int ((bf_raise f1 f2 (2 : Int32)).1), .int ((bf_raise f1 f2 (2 : Int32)).2)]))] := hD
                obtain ⟨r8, e8⟩ : ∃ r, (bf_raise f1 f2 (2 : Int32)) = r := ⟨_, rfl⟩
                rw [e8] at hP hD
                refine lv_lload hx hb dX0_madeWhole_94 (lv_at hl 0 rfl) ?_
                exact W.lret (v := (bf_signOf x1) ||| (bf_pattern (bf_wholeAmount (bf_significand x1) (if (60 : Int32) < (-(bf_power x1)) then (60 : Int32) else (-(bf_power x1))) (0 : Int32) x2) (0 : Int32))) hx hb hr (fun t ht hW => ⟨⟨(bf_signOf x1) ||| (bf_pattern (bf_wholeAmount (bf_significand x1) (if (60 : Int32) < (-(bf_power x1)) then (60 : Int32) else (-(bf_power x1))) (0 : Int32) x2) (0 : Int32)), (r8.1, r8.2), rfl, by rw [bf_madeWhole, if_pos h1, if_pos h2, if_pos h3, if_pos h4, if_pos h5, if_pos h6, if_neg h7, e8, bf_madeWhole_k1], by rw [ht]; exact hP, va_K.moved hW.alike hK, hD⟩, hS.F ht⟩) hS.2.2 dX0_madeWhole_96
          · refine lv_iconst (v := 1) hx hb dX0_madeWhole_62 (by decide) ?_
            refine lv_goto (tgt := 67) hx hb dX0_madeWhole_63 (by decide) ?_
            refine lv_iload_n hx hb dX0_madeWhole_67 rfl (lv_at hl 3 rfl) ?_
            refine bw_csl (rest := [.long (bf_signOf x1)]) ⟨hx, hb, hml, hown, hts⟩ (bc_wholeAmount l (bf_significand x1) (if (60 : Int32) < (-(bf_power x1)) then (60 : Int32) else (-(bf_power x1))) (1 : Int32) x2) (va_cwS 4 hts gX0_madeWhole_X0_wholeAmount rfl rfl rfl (by decide +kernel) ⟨Nat.le_of_ble_eq_true rfl, Nat.le_of_ble_eq_true rfl⟩) rfl hl.1 rfl (Nat.le_of_ble_eq_true rfl) dX0_madeWhole_68 (Nat.zero_le _) (Nat.zero_le _) ?_
            refine lv_iconst (v := 0) hx hb dX0_madeWhole_71 (by decide) ?_
            refine bw_csl (rest := [.long (bf_signOf x1)]) ⟨hx, hb, hml, hown, hts⟩ (bc_pattern l (bf_wholeAmount (bf_significand x1) (if (60 : Int32) < (-(bf_power x1)) then (60 : Int32) else (-(bf_power x1))) (1 : Int32) x2) (0 : Int32)) (va_cwS 2 hts gX0_madeWhole_X0_pattern rfl rfl rfl (by decide +kernel) ⟨Nat.le_of_ble_eq_true rfl, Nat.le_of_ble_eq_true rfl⟩) rfl hl.1 rfl (Nat.le_of_ble_eq_true rfl) dX0_madeWhole_72 (Nat.zero_le _) (Nat.zero_le _) ?_
            refine lv_lor hx hb dX0_madeWhole_75 ?_
            refine lv_lstore (nL := 7) (lv' := [(5, .long ((bf_signOf x1) ||| (bf_pattern (bf_wholeAmount (bf_significand x1) (if (60 : Int32) < (-(bf_power x1)) then (60 : Int32) else (-(bf_power x1))) (1 : Int32) x2) (0 : Int32)))), (4, .int (if (60 : Int32) < (-(bf_power x1)) then (60 : Int32) else (-(bf_power x1)))), (0, .ref h0), (1, .long x1), (3, .int x2)]) hx hb dX0_madeWhole_76 hl (by decide) rfl (fun ls hl => ?_)
            refine lv_iload_n hx hb dX0_madeWhole_78 rfl (lv_at hl 4 rfl) ?_
            refine lv_if_ne (tgt := 94) hx hb dX0_madeWhole_79 (by decide) (fun h9 => ?_) (fun h9 => ?_)
            · refine lv_lload hx hb dX0_madeWhole_94 (lv_at hl 0 rfl) ?_
              exact W.lret (v := (bf_signOf x1) ||| (bf_pattern (bf_wholeAmount (bf_significand x1) (if (60 : Int32) < (-(bf_power x1)) then (60 : Int32) else (-(bf_power x1))) (1 : Int32) x2) (0 : Int32))) hx hb hr (fun t ht hW => ⟨⟨(bf_signOf x1) ||| (bf_pattern (bf_wholeAmount (bf_significand x1) (if (60 : Int32) < (-(bf_power x1)) then (60 : Int32) else (-(bf_power x1))) (1 : Int32) x2) (0 : Int32)), (f1, f2), rfl, by rw [bf_madeWhole, if_pos h1, if_pos h2, if_pos h3, if_pos h4, if_neg h5, if_neg h9], by rw [ht]; exact hP, va_K.moved hW.alike hK, hD⟩, hS.F ht⟩) hS.2.2 dX0_madeWhole_96
            · refine lv_lload hx hb dX0_madeWhole_82 (lv_at hl 0 rfl) ?_
              refine lv_lload_n hx hb dX0_madeWhole_84 rfl (lv_at hl 3 rfl) ?_
              refine bw_lc_eq (tgt := 94) hx hb dX0_madeWhole_85 dX0_madeWhole_86 (by decide) (fun h10 => ?_) (fun h10 => ?_)
              · refine lv_lload hx hb dX0_madeWhole_94 (lv_at hl 0 rfl) ?_
                exact W.lret (v := (bf_signOf x1) ||| (bf_pattern (bf_wholeAmount (bf_significand x1) (if (60 : Int32) < (-(bf_power x1)) then (60 : Int32) else (-(bf_power x1))) (1 : Int32) x2) (0 : Int32))) hx hb hr (fun t ht hW => ⟨⟨(bf_signOf x1) ||| (bf_pattern (bf_wholeAmount (bf_significand x1) (if (60 : Int32) < (-(bf_power x1)) then (60 : Int32) else (-(bf_power x1))) (1 : Int32) x2) (0 : Int32)), (f1, f2), rfl, by rw [bf_madeWhole, if_pos h1, if_pos h2, if_pos h3, if_pos h4, if_neg h5, if_pos h9, if_pos h10], by rw [ht]; exact hP, va_K.moved hW.alike hK, hD⟩, hS.F ht⟩) hS.2.2 dX0_madeWhole_96
              · refine lv_aload_n hx hb dX0_madeWhole_89 rfl (lv_at hl 2 rfl) ?_
                refine lv_iconst (v := 2) hx hb dX0_madeWhole_90 (by decide) ?_
                refine bw_vv1 (rest := []) 0 ⟨hx, hb, hml, hown, hts⟩ (bc_raise l dC dI h0 a0 s.heap.size f1 f2 (2 : Int32)) (cwV 1 hts gX0_madeWhole_X0_raise rfl rfl rfl (by decide +kernel) ⟨Nat.le_of_ble_eq_true rfl, Nat.le_of_ble_eq_true rfl⟩) hK hP hD hS hA rfl rfl rfl hl.1 rfl (Nat.le_of_ble_eq_true rfl) dX0_madeWhole_91 (Nat.zero_le _) (Nat.zero_le _) (fun H locs hP hD hS => ?_)
                have hP : va_P (dC, dI) vwCl [(h0, .inr (0, [.ref a0, .int ((bf_raise f1 f2 (2 : Int32)).1), .int ((bf_raise f1 f2 (2 : Int32)).2)]))] H := hP
                have hD : va_D A [(h0, .inr (0, [.ref a0, .int ((bf_raise f1 f2 (2 : Int32)).1), .int ((bf_raise f1 f2 (2 : Int32)).2)]))] := hD
                obtain ⟨r11, e11⟩ : ∃ r, (bf_raise f1 f2 (2 : Int32)) = r := ⟨_, rfl⟩
                rw [e11] at hP hD
                refine lv_lload hx hb dX0_madeWhole_94 (lv_at hl 0 rfl) ?_
                exact W.lret (v := (bf_signOf x1) ||| (bf_pattern (bf_wholeAmount (bf_significand x1) (if (60 : Int32) < (-(bf_power x1)) then (60 : Int32) else (-(bf_power x1))) (1 : Int32) x2) (0 : Int32))) hx hb hr (fun t ht hW => ⟨⟨(bf_signOf x1) ||| (bf_pattern (bf_wholeAmount (bf_significand x1) (if (60 : Int32) < (-(bf_power x1)) then (60 : Int32) else (-(bf_power x1))) (1 : Int32) x2) (0 : Int32)), (r11.1, r11.2), rfl, by rw [bf_madeWhole, if_pos h1, if_pos h2, if_pos h3, if_pos h4, if_neg h5, if_pos h9, if_neg h10, e11, bf_madeWhole_k2], by rw [ht]; exact hP, va_K.moved hW.alike hK, hD⟩, hS.F ht⟩) hS.2.2 dX0_madeWhole_96
        · refine lv_lload_n hx hb dX0_madeWhole_32 rfl (lv_at hl 1 rfl) ?_
          exact W.lret (v := x1) hx hb hr (fun t ht hW => ⟨⟨x1, (f1, f2), rfl, by rw [bf_madeWhole, if_pos h1, if_pos h2, if_pos h3, if_neg h4], by rw [ht]; exact hP, va_K.moved hW.alike hK, hD⟩, hS.F ht⟩) hS.2.2 dX0_madeWhole_33
  · refine lv_ldc2 hx hb hown (hts (.constantLong RX0 101 9221120237041090560) (by decide +kernel)) dX0_madeWhole_7 ?_
    exact W.lret (v := (9221120237041090560 : Int64)) hx hb hr (fun t ht hW => ⟨⟨(9221120237041090560 : Int64), (f1, f2), rfl, by rw [bf_madeWhole, if_neg h1], by rw [ht]; exact hP, va_K.moved hW.alike hK, hD⟩, hS.F ht⟩) hS.2.2 dX0_madeWhole_10
