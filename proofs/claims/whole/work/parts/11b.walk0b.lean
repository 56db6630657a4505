/-! walks: the class, remainders -/
set_option maxHeartbeats 4000000 in
set_option maxRecDepth 100000 in
theorem bl_cd_w {p : Program} {l : Launch} {e : Env} {R : Room} {s : State} {m : MethodId} {args : Array Value} {below : List Frame} {meth : Method} {c : Code} {H : Heap} {locs : List Loc} {Q : State → Prop} (hx : p.tables.exec = Jvm.exec) (hb : c.code = cX0_remainderOfFinite) (hml : c.maxLocals = 18) (hown : s.vm.findClass RX0 = some m.cls) (hts : ∀ w ∈ wsX0_remainderOfFinite, w.before args s = true) (hRf : 1 ≤ R.frames) (hRl : 13 ≤ R.locals) (c7 : Int64) (hnz : ¬ c7 = 0) {h0 : Nat} {c1 : Int64} {c3 : Int64} {c5 : Int32} {c6 : Int32} {c9 : Int32} : ∀ (n : Nat) (v10 : Int64) (v12 : Int64) (v14 : Int32) (ls : Array Slot) (r : Int64 × Int64 × Int32), lv_has ls 18 [(0, .ref h0), (1, .long c1), (3, .long c3), (5, .int c5), (6, .int c6), (7, .long c7), (9, .int c9), (10, .long v10), (12, .long v12), (14, .int v14)] → bl_it (bl_cd_st c7) n (v10, v12, v14) = some r → (∀ (ls : Array Slot), lv_has ls 18 [(0, .ref h0), (1, .long c1), (3, .long c3), (5, .int c5), (6, .int c6), (7, .long c7), (9, .int c9), (10, .long r.1), (12, .long r.2.1), (14, .int r.2.2)] → W p l e R s m args below meth c H locs 0 0 Q (F0 m 96 ls [])) → W p l e R s m args below meth c H locs 0 0 Q (F0 m 49 ls []) := by
  intro n
  induction n with
  | zero => intro v10 v12 v14 ls r hl h; cases h
  | succ n ih =>
    intro v10 v12 v14 ls r hl h kk
    refine lv_iload hx hb dX0_remainderOfFinite_49 (lv_at hl 9 rfl) ?_
    refine lv_if_le (tgt := 96) hx hb dX0_remainderOfFinite_51 (by decide) (fun h1 => ?_) (fun h1 => ?_)
    · obtain rfl := bl_stepR (s := (v10, v12, v14)) (show bl_cd_b c7 v10 v12 v14 = .inr (v10, v12, v14) by rw [bl_cd_b, if_pos h1]) h
      exact kk ls (lv_sub hl [0, 1, 2, 3, 4, 5, 6, 7, 8, 9] rfl)
    · refine lv_iload hx hb dX0_remainderOfFinite_54 (lv_at hl 9 rfl) ?_
      refine lv_bipush (v := 10) hx hb dX0_remainderOfFinite_56 (by decide) ?_
      refine va_mmin (rest := []) hx hb (hml.trans hl.1.symm) hown (hts (.methodLink RX0 98 Lib.Math.min.name) (by decide +kernel)) (hts (.static Lib.Math.min.name) (by decide +kernel)) (hts (.initialized "java/lang/Math") (by decide +kernel)) (hts (.code Lib.Math.min.name Lib.Math.min.code 2 (some .int)) (by decide +kernel)) (Nat.le_trans (Nat.le_of_ble_eq_true rfl) hRf) (Nat.le_trans (Nat.le_of_ble_eq_true rfl) hRl) (Nat.zero_le _) (Nat.zero_le _) dX0_remainderOfFinite_58 ?_
      refine lv_istore (nL := 18) (lv' := [(15, .int (if (10 : Int32) < v14 then (10 : Int32) else v14)), (0, .ref h0), (1, .long c1), (3, .long c3), (5, .int c5), (6, .int c6), (7, .long c7), (9, .int c9), (10, .long v10), (12, .long v12), (14, .int v14)]) hx hb dX0_remainderOfFinite_61 hl (by decide) rfl (fun ls hl => ?_)
      refine lv_lload hx hb dX0_remainderOfFinite_63 (lv_at hl 9 rfl) ?_
      refine lv_iload hx hb dX0_remainderOfFinite_65 (lv_at hl 0 rfl) ?_
      refine lv_lshl hx hb dX0_remainderOfFinite_67 rfl ?_
      refine lv_lstore (nL := 18) (lv' := [(16, .long (v12 <<< ((if (10 : Int32) < v14 then (10 : Int32) else v14).toInt64 &&& 63))), (15, .int (if (10 : Int32) < v14 then (10 : Int32) else v14)), (0, .ref h0), (1, .long c1), (3, .long c3), (5, .int c5), (6, .int c6), (7, .long c7), (9, .int c9), (10, .long v10), (12, .long v12), (14, .int v14)]) hx hb dX0_remainderOfFinite_68 hl (by decide) rfl (fun ls hl => ?_)
      refine lv_lload hx hb dX0_remainderOfFinite_70 (lv_at hl 9 rfl) ?_
      refine lv_iload hx hb dX0_remainderOfFinite_72 (lv_at hl 1 rfl) ?_
      refine lv_lshl hx hb dX0_remainderOfFinite_74 rfl ?_
      refine lv_lload hx hb dX0_remainderOfFinite_75 (lv_at hl 0 rfl) ?_
      refine lv_lload hx hb dX0_remainderOfFinite_77 (lv_at hl 7 rfl) ?_
      refine lv_ldiv hx hb dX0_remainderOfFinite_79 hnz ?_
      refine lv_ladd hx hb dX0_remainderOfFinite_80 ?_
      refine lv_lstore (nL := 18) (lv' := [(10, .long ((v10 <<< ((if (10 : Int32) < v14 then (10 : Int32) else v14).toInt64 &&& 63)) + ((v12 <<< ((if (10 : Int32) < v14 then (10 : Int32) else v14).toInt64 &&& 63)) / c7))), (16, .long (v12 <<< ((if (10 : Int32) < v14 then (10 : Int32) else v14).toInt64 &&& 63))), (15, .int (if (10 : Int32) < v14 then (10 : Int32) else v14)), (0, .ref h0), (1, .long c1), (3, .long c3), (5, .int c5), (6, .int c6), (7, .long c7), (9, .int c9), (12, .long v12), (14, .int v14)]) hx hb dX0_remainderOfFinite_81 hl (by decide) rfl (fun ls hl => ?_)
      refine lv_lload hx hb dX0_remainderOfFinite_83 (lv_at hl 1 rfl) ?_
      refine lv_lload hx hb dX0_remainderOfFinite_85 (lv_at hl 8 rfl) ?_
      refine lv_lrem hx hb dX0_remainderOfFinite_87 hnz ?_
      refine lv_lstore (nL := 18) (lv' := [(12, .long ((v12 <<< ((if (10 : Int32) < v14 then (10 : Int32) else v14).toInt64 &&& 63)) - (v12 <<< ((if (10 : Int32) < v14 then (10 : Int32) else v14).toInt64 &&& 63)) / c7 * c7)), (10, .long ((v10 <<< ((if (10 : Int32) < v14 then (10 : Int32) else v14).toInt64 &&& 63)) + ((v12 <<< ((if (10 : Int32) < v14 then (10 : Int32) else v14).toInt64 &&& 63)) / c7))), (16, .long (v12 <<< ((if (10 : Int32) < v14 then (10 : Int32) else v14).toInt64 &&& 63))), (15, .int (if (10 : Int32) < v14 then (10 : Int32) else v14)), (0, .ref h0), (1, .long c1), (3, .long c3), (5, .int c5), (6, .int c6), (7, .long c7), (9, .int c9), (14, .int v14)]) hx hb dX0_remainderOfFinite_88 hl (by decide) rfl (fun ls hl => ?_)
      refine lv_iinc (nL := 18) (k := 11) (v := v14 + (-10 : Int32)) (lv' := [(14, .int (v14 + (-10 : Int32))), (12, .long ((v12 <<< ((if (10 : Int32) < v14 then (10 : Int32) else v14).toInt64 &&& 63)) - (v12 <<< ((if (10 : Int32) < v14 then (10 : Int32) else v14).toInt64 &&& 63)) / c7 * c7)), (10, .long ((v10 <<< ((if (10 : Int32) < v14 then (10 : Int32) else v14).toInt64 &&& 63)) + ((v12 <<< ((if (10 : Int32) < v14 then (10 : Int32) else v14).toInt64 &&& 63)) / c7))), (16, .long (v12 <<< ((if (10 : Int32) < v14 then (10 : Int32) else v14).toInt64 &&& 63))), (15, .int (if (10 : Int32) < v14 then (10 : Int32) else v14)), (0, .ref h0), (1, .long c1), (3, .long c3), (5, .int c5), (6, .int c6), (7, .long c7), (9, .int c9)]) hx hb dX0_remainderOfFinite_90 hl rfl rfl (by decide) rfl (fun ls hl => ?_)
      refine lv_goto (tgt := 49) hx hb dX0_remainderOfFinite_93 (by decide) ?_
      exact ih ((v10 <<< ((if (10 : Int32) < v14 then (10 : Int32) else v14).toInt64 &&& 63)) + ((v12 <<< ((if (10 : Int32) < v14 then (10 : Int32) else v14).toInt64 &&& 63)) / c7)) ((v12 <<< ((if (10 : Int32) < v14 then (10 : Int32) else v14).toInt64 &&& 63)) - (v12 <<< ((if (10 : Int32) < v14 then (10 : Int32) else v14).toInt64 &&& 63)) / c7 * c7) (v14 + (-10 : Int32)) ls r (lv_sub hl [5, 6, 7, 8, 9, 10, 11, 2, 1, 0] rfl) (bl_stepL (s := (v10, v12, v14)) (show bl_cd_b c7 v10 v12 v14 = .inl ((v10 <<< ((if (10 : Int32) < v14 then (10 : Int32) else v14).toInt64 &&& 63)) + ((v12 <<< ((if (10 : Int32) < v14 then (10 : Int32) else v14).toInt64 &&& 63)) / c7), (v12 <<< ((if (10 : Int32) < v14 then (10 : Int32) else v14).toInt64 &&& 63)) - (v12 <<< ((if (10 : Int32) < v14 then (10 : Int32) else v14).toInt64 &&& 63)) / c7 * c7, v14 + (-10 : Int32)) by rw [bl_cd_b, if_neg h1]) h) kk
set_option maxHeartbeats 4000000 in
set_option maxRecDepth 100000 in
theorem bc_remainderOfFinite (l : Launch) (dC : Nat → ClassId) (dI : Nat → Nat → Nat) (h0 a0 : Nat) (sz : Nat) (f1 : Int32) (f2 : Int32) (x1 : Int64) (x2 : Int64) (x3 : Int32) (x4 : Int32) (hnz : ¬ ((bf_significand x2) <<< ((if (-x3) < (0 : Int32) then (0 : Int32) else (-x3)).toInt64 &&& 63)) = 0) : Met l yX0_remainderOfFinite wsX0_remainderOfFinite ({ frames := 3, cells := 0, slots := 0, locals := 67 }) (va_Pc [.ref h0, .long x1, .long x2, .int x3, .int x4] (bw_I1 (dC, dI) vwCl sz h0 (.inr (0, [.ref a0, .int f1, .int f2])))) (va_Ql (fun (r : Int64) (u : Int32 × Int32) => (r, u) = bf_remainderOfFinite f1 f2 x1 x2 x3 x4) (fun u t => bw_O1 (dC, dI) vwCl (va_A [(h0, .inr (0, [.ref a0, .int f1, .int f2]))] sz) h0 (.inr (0, [.ref a0, .int u.1, .int u.2])) t) (va_A [(h0, .inr (0, [.ref a0, .int f1, .int f2]))] sz)) 0 0 (va_A [(h0, .inr (0, [.ref a0, .int f1, .int f2]))] sz) := by
  refine Met.ofW (cc := cX0_remainderOfFinite) (maxL := 18) (ret := (some .long)) (by decide) rfl ?_
  intro p e s m args below meth c s₁ B hml hv
  obtain ⟨rfl, hsz, hP, hK, hD0⟩ := hv
  have hx := B.exec
  have hb := B.bytes
  have hr := B.returns
  have hts := atoms_spec (ws := wsX0_remainderOfFinite) B.pre
  have hown : s.vm.findClass RX0 = some m.cls := findClass_of_methodNamed B.named
  have hlocks := B.notSynchronized
  subst hsz
  have hD := hD0.self (sz := s.heap.size)
  generalize hAe : va_A [(h0, .inr (0, [.ref a0, .int f1, .int f2]))] s.heap.size = A at hD ⊢
  have hA : ∀ q : Nat, s.heap.size ≤ q → A q := fun q h => by rw [← hAe]; exact Or.inr h
  have hS : va_S A s.heap s.heap [] := va_S.rf
  have hP : va_P (dC, dI) vwCl [(h0, .inr (0, [.ref a0, .int f1, .int f2]))] s.heap := hP
  have hin0 : ∀ w ∈ u_ws RX0 TX0 3, w ∈ wsX0_remainderOfFinite := by decide +kernel
  have hl := lv_entry ([.ref h0, .long x1, .long x2, .int x3, .int x4]) (n := 18) (Nat.le_of_ble_eq_true rfl)
  rw [lg_entry_eq]
  generalize (lg_sl ([.ref h0, .long x1, .long x2, .int x3, .int x4]) ++ List.replicate (18 - (lg_sl ([.ref h0, .long x1, .long x2, .int x3, .int x4])).length) Slot.unset).toArray = ls at hl ⊢
  have hl : lv_has ls 18 [(0, .ref h0), (1, .long x1), (3, .long x2), (5, .int x3), (6, .int x4)] := hl
  refine lv_lload_n hx hb dX0_remainderOfFinite_0 rfl (lv_at hl 2 rfl) ?_
  refine bw_csl (rest := []) ⟨hx, hb, hml, hown, hts⟩ (bc_significand l x2) (va_cwS 1 hts gX0_remainderOfFinite_X0_significand rfl rfl rfl (by decide +kernel) ⟨Nat.le_of_ble_eq_true rfl, Nat.le_of_ble_eq_true rfl⟩) rfl hl.1 rfl (Nat.le_of_ble_eq_true rfl) dX0_remainderOfFinite_1 (Nat.zero_le _) (Nat.zero_le _) ?_
  refine lv_iload hx hb dX0_remainderOfFinite_4 (lv_at hl 3 rfl) ?_
  refine lv_ineg hx hb dX0_remainderOfFinite_6 ?_
  refine lv_iconst (v := 0) hx hb dX0_remainderOfFinite_7 (by decide) ?_
  refine va_mmax (rest := [.long (bf_significand x2)]) hx hb (hml.trans hl.1.symm) hown (hts (.methodLink RX0 78 Lib.Math.max.name) (by decide +kernel)) (hts (.static Lib.Math.max.name) (by decide +kernel)) (hts (.initialized "java/lang/Math") (by decide +kernel)) (hts (.code Lib.Math.max.name Lib.Math.max.code 2 (some .int)) (by decide +kernel)) (Nat.le_of_ble_eq_true rfl) (Nat.le_of_ble_eq_true rfl) (Nat.zero_le _) (Nat.zero_le _) dX0_remainderOfFinite_8 ?_
  refine lv_lshl hx hb dX0_remainderOfFinite_11 rfl ?_
  refine lv_lstore (nL := 18) (lv' := [(7, .long ((bf_significand x2) <<< ((if (-x3) < (0 : Int32) then (0 : Int32) else (-x3)).toInt64 &&& 63))), (0, .ref h0), (1, .long x1), (3, .long x2), (5, .int x3), (6, .int x4)]) hx hb dX0_remainderOfFinite_12 hl (by decide) rfl (fun ls hl => ?_)
  refine lv_lload_n hx hb dX0_remainderOfFinite_14 rfl (lv_at hl 2 rfl) ?_
  refine bw_csi (rest := []) ⟨hx, hb, hml, hown, hts⟩ (bc_power l x1) (va_cwS 1 hts gX0_remainderOfFinite_X0_power rfl rfl rfl (by decide +kernel) ⟨Nat.le_of_ble_eq_true rfl, Nat.le_of_ble_eq_true rfl⟩) rfl hl.1 rfl (Nat.le_of_ble_eq_true rfl) dX0_remainderOfFinite_15 (Nat.zero_le _) (Nat.zero_le _) ?_
  refine lv_lload_n hx hb dX0_remainderOfFinite_18 rfl (lv_at hl 3 rfl) ?_
  refine bw_csi (rest := [.int (bf_power x1)]) ⟨hx, hb, hml, hown, hts⟩ (bc_power l x2) (va_cwS 1 hts gX0_remainderOfFinite_X0_power rfl rfl rfl (by decide +kernel) ⟨Nat.le_of_ble_eq_true rfl, Nat.le_of_ble_eq_true rfl⟩) rfl hl.1 rfl (Nat.le_of_ble_eq_true rfl) dX0_remainderOfFinite_19 (Nat.zero_le _) (Nat.zero_le _) ?_
  refine va_mmin (rest := []) hx hb (hml.trans hl.1.symm) hown (hts (.methodLink RX0 98 Lib.Math.min.name) (by decide +kernel)) (hts (.static Lib.Math.min.name) (by decide +kernel)) (hts (.initialized "java/lang/Math") (by decide +kernel)) (hts (.code Lib.Math.min.name Lib.Math.min.code 2 (some .int)) (by decide +kernel)) (Nat.le_of_ble_eq_true rfl) (Nat.le_of_ble_eq_true rfl) (Nat.zero_le _) (Nat.zero_le _) dX0_remainderOfFinite_22 ?_
  refine lv_istore (nL := 18) (lv' := [(9, .int (if (bf_power x2) < (bf_power x1) then (bf_power x2) else (bf_power x1))), (7, .long ((bf_significand x2) <<< ((if (-x3) < (0 : Int32) then (0 : Int32) else (-x3)).toInt64 &&& 63))), (0, .ref h0), (1, .long x1), (3, .long x2), (5, .int x3), (6, .int x4)]) hx hb dX0_remainderOfFinite_25 hl (by decide) rfl (fun ls hl => ?_)
  refine lv_lload_n hx hb dX0_remainderOfFinite_27 rfl (lv_at hl 3 rfl) ?_
  refine bw_csl (rest := []) ⟨hx, hb, hml, hown, hts⟩ (bc_significand l x1) (va_cwS 1 hts gX0_remainderOfFinite_X0_significand rfl rfl rfl (by decide +kernel) ⟨Nat.le_of_ble_eq_true rfl, Nat.le_of_ble_eq_true rfl⟩) rfl hl.1 rfl (Nat.le_of_ble_eq_true rfl) dX0_remainderOfFinite_28 (Nat.zero_le _) (Nat.zero_le _) ?_
  refine lv_lload hx hb dX0_remainderOfFinite_31 (lv_at hl 1 rfl) ?_
  refine lv_ldiv hx hb dX0_remainderOfFinite_33 hnz ?_
  refine lv_lstore (nL := 18) (lv' := [(10, .long ((bf_significand x1) / ((bf_significand x2) <<< ((if (-x3) < (0 : Int32) then (0 : Int32) else (-x3)).toInt64 &&& 63)))), (9, .int (if (bf_power x2) < (bf_power x1) then (bf_power x2) else (bf_power x1))), (7, .long ((bf_significand x2) <<< ((if (-x3) < (0 : Int32) then (0 : Int32) else (-x3)).toInt64 &&& 63))), (0, .ref h0), (1, .long x1), (3, .long x2), (5, .int x3), (6, .int x4)]) hx hb dX0_remainderOfFinite_34 hl (by decide) rfl (fun ls hl => ?_)
  refine lv_lload_n hx hb dX0_remainderOfFinite_36 rfl (lv_at hl 4 rfl) ?_
  refine bw_csl (rest := []) ⟨hx, hb, hml, hown, hts⟩ (bc_significand l x1) (va_cwS 1 hts gX0_remainderOfFinite_X0_significand rfl rfl rfl (by decide +kernel) ⟨Nat.le_of_ble_eq_true rfl, Nat.le_of_ble_eq_true rfl⟩) rfl hl.1 rfl (Nat.le_of_ble_eq_true rfl) dX0_remainderOfFinite_37 (Nat.zero_le _) (Nat.zero_le _) ?_
  refine lv_lload hx hb dX0_remainderOfFinite_40 (lv_at hl 2 rfl) ?_
  refine lv_lrem hx hb dX0_remainderOfFinite_42 hnz ?_
  refine lv_lstore (nL := 18) (lv' := [(12, .long ((bf_significand x1) - (bf_significand x1) / ((bf_significand x2) <<< ((if (-x3) < (0 : Int32) then (0 : Int32) else (-x3)).toInt64 &&& 63)) * ((bf_significand x2) <<< ((if (-x3) < (0 : Int32) then (0 : Int32) else (-x3)).toInt64 &&& 63)))), (10, .long ((bf_significand x1) / ((bf_significand x2) <<< ((if (-x3) < (0 : Int32) then (0 : Int32) else (-x3)).toInt64 &&& 63)))), (9, .int (if (bf_power x2) < (bf_power x1) then (bf_power x2) else (bf_power x1))), (7, .long ((bf_significand x2) <<< ((if (-x3) < (0 : Int32) then (0 : Int32) else (-x3)).toInt64 &&& 63))), (0, .ref h0), (1, .long x1), (3, .long x2), (5, .int x3), (6, .int x4)]) hx hb dX0_remainderOfFinite_43 hl (by decide) rfl (fun ls hl => ?_)
  refine lv_iload hx hb dX0_remainderOfFinite_45 (lv_at hl 7 rfl) ?_
  refine lv_istore (nL := 18) (lv' := [(14, .int x3), (12, .long ((bf_significand x1) - (bf_significand x1) / ((bf_significand x2) <<< ((if (-x3) < (0 : Int32) then (0 : Int32) else (-x3)).toInt64 &&& 63)) * ((bf_significand x2) <<< ((if (-x3) < (0 : Int32) then (0 : Int32) else (-x3)).toInt64 &&& 63)))), (10, .long ((bf_significand x1) / ((bf_significand x2) <<< ((if (-x3) < (0 : Int32) then (0 : Int32) else (-x3)).toInt64 &&& 63)))), (9, .int (if (bf_power x2) < (bf_power x1) then (bf_power x2) else (bf_power x1))), (7, .long ((bf_significand x2) <<< ((if (-x3) < (0 : Int32) then (0 : Int32) else (-x3)).toInt64 &&& 63))), (0, .ref h0), (1, .long x1), (3, .long x2), (5, .int x3), (6, .int x4)]) hx hb dX0_remainderOfFinite_47 hl (by decide) rfl (fun ls hl => ?_)
  obtain ⟨n2, e2⟩ := bl_cd_ok ((bf_significand x2) <<< ((if (-x3) < (0 : Int32) then (0 : Int32) else (-x3)).toInt64 &&& 63)) ((bf_significand x1) / ((bf_significand x2) <<< ((if (-x3) < (0 : Int32) then (0 : Int32) else (-x3)).toInt64 &&& 63)), (bf_significand x1) - (bf_significand x1) / ((bf_significand x2) <<< ((if (-x3) < (0 : Int32) then (0 : Int32) else (-x3)).toInt64 &&& 63)) * ((bf_significand x2) <<< ((if (-x3) < (0 : Int32) then (0 : Int32) else (-x3)).toInt64 &&& 63)), x3)
  refine bl_cd_w hx hb hml hown hts (Nat.le_of_ble_eq_true rfl) (Nat.le_of_ble_eq_true rfl) ((bf_significand x2) <<< ((if (-x3) < (0 : Int32) then (0 : Int32) else (-x3)).toInt64 &&& 63)) hnz n2 ((bf_significand x1) / ((bf_significand x2) <<< ((if (-x3) < (0 : Int32) then (0 : Int32) else (-x3)).toInt64 &&& 63))) ((bf_significand x1) - (bf_significand x1) / ((bf_significand x2) <<< ((if (-x3) < (0 : Int32) then (0 : Int32) else (-x3)).toInt64 &&& 63)) * ((bf_significand x2) <<< ((if (-x3) < (0 : Int32) then (0 : Int32) else (-x3)).toInt64 &&& 63))) x3 ls _ (lv_sub hl [5, 6, 7, 8, 9, 4, 3, 2, 1, 0] rfl) e2 (fun ls hl => ?_)
  have hl : lv_has ls 18 [(0, .ref h0), (1, .long x1), (3, .long x2), (5, .int x3), (6, .int x4), (7, .long ((bf_significand x2) <<< ((if (-x3) < (0 : Int32) then (0 : Int32) else (-x3)).toInt64 &&& 63))), (9, .int (if (bf_power x2) < (bf_power x1) then (bf_power x2) else (bf_power x1))), (10, .long ((bl_cd ((bf_significand x2) <<< ((if (-x3) < (0 : Int32) then (0 : Int32) else (-x3)).toInt64 &&& 63)) ((bf_significand x1) / ((bf_significand x2) <<< ((if (-x3) < (0 : Int32) then (0 : Int32) else (-x3)).toInt64 &&& 63)), (bf_significand x1) - (bf_significand x1) / ((bf_significand x2) <<< ((if (-x3) < (0 : Int32) then (0 : Int32) else (-x3)).toInt64 &&& 63)) * ((bf_significand x2) <<< ((if (-x3) < (0 : Int32) then (0 : Int32) else (-x3)).toInt64 &&& 63)), x3)).1)), (12, .long ((bl_cd ((bf_significand x2) <<< ((if (-x3) < (0 : Int32) then (0 : Int32) else (-x3)).toInt64 &&& 63)) ((bf_significand x1) / ((bf_significand x2) <<< ((if (-x3) < (0 : Int32) then (0 : Int32) else (-x3)).toInt64 &&& 63)), (bf_significand x1) - (bf_significand x1) / ((bf_significand x2) <<< ((if (-x3) < (0 : Int32) then (0 : Int32) else (-x3)).toInt64 &&& 63)) * ((bf_significand x2) <<< ((if (-x3) < (0 : Int32) then (0 : Int32) else (-x3)).toInt64 &&& 63)), x3)).2.1)), (14, .int ((bl_cd ((bf_significand x2) <<< ((if (-x3) < (0 : Int32) then (0 : Int32) else (-x3)).toInt64 &&& 63)) ((bf_significand x1) / ((bf_significand x2) <<< ((if (-x3) < (0 : Int32) then (0 : Int32) else (-x3)).toInt64 &&& 63)), (bf_significand x1) - (bf_significand x1) / ((bf_significand x2) <<< ((if (-x3) < (0 : Int32) then (0 : Int32) else (-x3)).toInt64 &&& 63)) * ((bf_significand x2) <<< ((if (-x3) < (0 : Int32) then (0 : Int32) else (-x3)).toInt64 &&& 63)), x3)).2.2))] := hl
  obtain ⟨r3, e3⟩ : ∃ r, (bl_cd ((bf_significand x2) <<< ((if (-x3) < (0 : Int32) then (0 : Int32) else (-x3)).toInt64 &&& 63)) ((bf_significand x1) / ((bf_significand x2) <<< ((if (-x3) < (0 : Int32) then (0 : Int32) else (-x3)).toInt64 &&& 63)), (bf_significand x1) - (bf_significand x1) / ((bf_significand x2) <<< ((if (-x3) < (0 : Int32) then (0 : Int32) else (-x3)).toInt64 &&& 63)) * ((bf_significand x2) <<< ((if (-x3) < (0 : Int32) then (0 : Int32) else (-x3)).toInt64 &&& 63)), x3)) = r := ⟨_, rfl⟩
  rw [e3] at hl
  refine lv_lload_n hx hb dX0_remainderOfFinite_96 rfl (lv_at hl 1 rfl) ?_
  refine bw_csl (rest := []) ⟨hx, hb, hml, hown, hts⟩ (bc_signOf l x1) (va_cwS 1 hts gX0_remainderOfFinite_X0_signOf rfl rfl rfl (by decide +kernel) ⟨Nat.le_of_ble_eq_true rfl, Nat.le_of_ble_eq_true rfl⟩) rfl hl.1 rfl (Nat.le_of_ble_eq_true rfl) dX0_remainderOfFinite_97 (Nat.zero_le _) (Nat.zero_le _) ?_
  refine lv_lstore (nL := 18) (lv' := [(14, .long (bf_signOf x1)), (0, .ref h0), (1, .long x1), (3, .long x2), (5, .int x3), (6, .int x4), (7, .long ((bf_significand x2) <<< ((if (-x3) < (0 : Int32) then (0 : Int32) else (-x3)).toInt64 &&& 63))), (9, .int (if (bf_power x2) < (bf_power x1) then (bf_power x2) else (bf_power x1))), (10, .long r3.1), (12, .long r3.2.1)]) hx hb dX0_remainderOfFinite_100 hl (by decide) rfl (fun ls hl => ?_)
  refine lv_lload hx hb dX0_remainderOfFinite_102 (lv_at hl 9 rfl) ?_
  refine lv_iconst (v := 1) hx hb dX0_remainderOfFinite_104 (by decide) ?_
  refine lv_lshl hx hb dX0_remainderOfFinite_105 rfl ?_
  refine lv_lstore (nL := 18) (lv' := [(16, .long (r3.2.1 <<< ((1 : Int32).toInt64 &&& 63))), (14, .long (bf_signOf x1)), (0, .ref h0), (1, .long x1), (3, .long x2), (5, .int x3), (6, .int x4), (7, .long ((bf_significand x2) <<< ((if (-x3) < (0 : Int32) then (0 : Int32) else (-x3)).toInt64 &&& 63))), (9, .int (if (bf_power x2) < (bf_power x1) then (bf_power x2) else (bf_power x1))), (10, .long r3.1), (12, .long r3.2.1)]) hx hb dX0_remainderOfFinite_106 hl (by decide) rfl (fun ls hl => ?_)
  refine lv_iload hx hb dX0_remainderOfFinite_108 (lv_at hl 6 rfl) ?_
  refine lv_if_eq (tgt := 159) hx hb dX0_remainderOfFinite_110 (by decide) (fun h4 => ?_) (fun h4 => ?_)
  · refine lv_aload_n hx hb dX0_remainderOfFinite_159 rfl (lv_at hl 2 rfl) ?_
    refine lv_lload hx hb dX0_remainderOfFinite_160 (lv_at hl 9 rfl) ?_
    refine lv_ldc2 hx hb hown (hts (.constantLong RX0 130 7) (by decide +kernel)) dX0_remainderOfFinite_162 ?_
    refine lv_land hx hb dX0_remainderOfFinite_165 ?_
    refine lv_l2i hx hb dX0_remainderOfFinite_166 rfl ?_
    refine va_put (D := (dC, dI)) (ci := 0) (v := .int ((r3.1 &&& (7 : Int64)).toInt32)) (ty := .int) (C := RX0) (T := TX0) (N := 3) hx hb hts hin0 tyX0 tyX0_ok nmX0 hown hK hP hD hS 0 rfl rfl 2 (by decide) (hts (.fieldLink RX0 17 "BinaryFunctions" "lastQuotient" "I") (by decide +kernel)) (fun _ h9 => h9) rfl (by decide +kernel) rfl rfl (Nat.le_of_ble_eq_true rfl) dX0_remainderOfFinite_167 (fun H locs hP hD hS => ?_)
    have hP : va_P (dC, dI) vwCl [(h0, .inr (0, [.ref a0, .int f1, .int ((r3.1 &&& (7 : Int64)).toInt32)]))] H := hP
    have hD : va_D A [(h0, .inr (0, [.ref a0, .int f1, .int ((r3.1 &&& (7 : Int64)).toInt32)]))] := hD
    refine lv_lload hx hb dX0_remainderOfFinite_170 (lv_at hl 1 rfl) ?_
    refine lv_lload hx hb dX0_remainderOfFinite_172 (lv_at hl 10 rfl) ?_
    refine lv_iload hx hb dX0_remainderOfFinite_174 (lv_at hl 8 rfl) ?_
    refine bw_csl (rest := [.long (bf_signOf x1)]) ⟨hx, hb, hml, hown, hts⟩ (bc_pattern l r3.2.1 (if (bf_power x2) < (bf_power x1) then (bf_power x2) else (bf_power x1))) (va_cwS 2 hts gX0_remainderOfFinite_X0_pattern rfl rfl rfl (by decide +kernel) ⟨Nat.le_of_ble_eq_true rfl, Nat.le_of_ble_eq_true rfl⟩) rfl hl.1 rfl (Nat.le_of_ble_eq_true rfl) dX0_remainderOfFinite_176 (Nat.zero_le _) (Nat.zero_le _) ?_
    refine lv_lor hx hb dX0_remainderOfFinite_179 ?_
    exact W.lret (v := (bf_signOf x1) ||| (bf_pattern r3.2.1 (if (bf_power x2) < (bf_power x1) then (bf_power x2) else (bf_power x1)))) hx hb hr (fun t ht hW => ⟨⟨(bf_signOf x1) ||| (bf_pattern r3.2.1 (if (bf_power x2) < (bf_power x1) then (bf_power x2) else (bf_power x1))), (f1, (r3.1 &&& (7 : Int64)).toInt32), rfl, by rw [bf_remainderOfFinite, e3, bf_remainderOfFinite_k1, if_pos h4], by rw [ht]; exact hP, va_K.moved hW.alike hK, hD⟩, hS.F ht⟩) hS.2.2 dX0_remainderOfFinite_180
  · refine lv_lload hx hb dX0_remainderOfFinite_113 (lv_at hl 0 rfl) ?_
    refine lv_lload hx hb dX0_remainderOfFinite_115 (lv_at hl 7 rfl) ?_
    refine bw_lc_gt (tgt := 138) hx hb dX0_remainderOfFinite_117 dX0_remainderOfFinite_118 (by decide) (fun h5 => ?_) (fun h5 => ?_)
    · refine lv_lload hx hb dX0_remainderOfFinite_138 (lv_at hl 9 rfl) ?_
      refine lv_lconst (v := 1) hx hb dX0_remainderOfFinite_140 (by decide) ?_
      refine lv_ladd hx hb dX0_remainderOfFinite_141 ?_
      refine lv_lstore (nL := 18) (lv' := [(10, .long (r3.1 + (1 : Int64))), (16, .long (r3.2.1 <<< ((1 : Int32).toInt64 &&& 63))), (14, .long (bf_signOf x1)), (0, .ref h0), (1, .long x1), (3, .long x2), (5, .int x3), (6, .int x4), (7, .long ((bf_significand x2) <<< ((if (-x3) < (0 : Int32) then (0 : Int32) else (-x3)).toInt64 &&& 63))), (9, .int (if (bf_power x2) < (bf_power x1) then (bf_power x2) else (bf_power x1))), (12, .long r3.2.1)]) hx hb dX0_remainderOfFinite_142 hl (by decide) rfl (fun ls hl => ?_)
      refine lv_lload hx hb dX0_remainderOfFinite_144 (lv_at hl 8 rfl) ?_
      refine lv_lload hx hb dX0_remainderOfFinite_146 (lv_at hl 10 rfl) ?_
      refine lv_lsub hx hb dX0_remainderOfFinite_148 ?_
      refine lv_lstore (nL := 18) (lv' := [(12, .long (((bf_significand x2) <<< ((if (-x3) < (0 : Int32) then (0 : Int32) else (-x3)).toInt64 &&& 63)) - r3.2.1)), (10, .long (r3.1 + (1 : Int64))), (16, .long (r3.2.1 <<< ((1 : Int32).toInt64 &&& 63))), (14, .long (bf_signOf x1)), (0, .ref h0), (1, .long x1), (3, .long x2), (5, .int x3), (6, .int x4), (7, .long ((bf_significand x2) <<< ((if (-x3) < (0 : Int32) then (0 : Int32) else (-x3)).toInt64 &&& 63))), (9, .int (if (bf_power x2) < (bf_power x1) then (bf_power x2) else (bf_power x1)))]) hx hb dX0_remainderOfFinite_149 hl (by decide) rfl (fun ls hl => ?_)
      refine lv_lload hx hb dX0_remainderOfFinite_151 (lv_at hl 3 rfl) ?_
      refine lv_ldc2 hx hb hown (hts (.constantLong RX0 69 (-9223372036854775808)) (by decide +kernel)) dX0_remainderOfFinite_153 ?_
      refine lv_lxor hx hb dX0_remainderOfFinite_156 ?_
      refine lv_lstore (nL := 18) (lv' := [(14, .long ((bf_signOf x1) ^^^ (-9223372036854775808 : Int64))), (12, .long (((bf_significand x2) <<< ((if (-x3) < (0 : Int32) then (0 : Int32) else (-x3)).toInt64 &&& 63)) - r3.2.1)), (10, .long (r3.1 + (1 : Int64))), (16, .long (r3.2.1 <<< ((1 : Int32).toInt64 &&& 63))), (0, .ref h0), (1, .long x1), (3, .long x2), (5, .int x3), (6, .int x4), (7, .long ((bf_significand x2) <<< ((if (-x3) < (0 : Int32) then (0 : Int32) else (-x3)).toInt64 &&& 63))), (9, .int (if (bf_power x2) < (bf_power x1) then (bf_power x2) else (bf_power x1)))]) hx hb dX0_remainderOfFinite_157 hl (by decide) rfl (fun ls hl => ?_)
      refine lv_aload_n hx hb dX0_remainderOfFinite_159 rfl (lv_at hl 4 rfl) ?_
      refine lv_lload hx hb dX0_remainderOfFinite_160 (lv_at hl 2 rfl) ?_
      refine lv_ldc2 hx hb hown (hts (.constantLong RX0 130 7) (by decide +kernel)) dX0_remainderOfFinite_162 ?_
      refine lv_land hx hb dX0_remainderOfFinite_165 ?_
      refine lv_l2i hx hb dX0_remainderOfFinite_166 rfl ?_
      refine va_put (D := (dC, dI)) (ci := 0) (v := .int (((r3.1 + (1 : Int64)) &&& (7 : Int64)).toInt32)) (ty := .int) (C := RX0) (T := TX0) (N := 3) hx hb hts hin0 tyX0 tyX0_ok nmX0 hown hK hP hD hS 0 rfl rfl 2 (by decide) (hts (.fieldLink RX0 17 "BinaryFunctions" "lastQuotient" "I") (by decide +kernel)) (fun _ h9 => h9) rfl (by decide +kernel) rfl rfl (Nat.le_of_ble_eq_true rfl) dX0_remainderOfFinite_167 (fun H locs hP hD hS => ?_)
      have hP : va_P (dC, dI) vwCl [(h0, .inr (0, [.ref a0, .int f1, .int (((r3.1 + (1 : Int64)) &&& (7 : Int64)).toInt32)]))] H := hP
      have hD : va_D A [(h0, .inr (0, [.ref a0, .int f1, .int (((r3.1 + (1 : Int64)) &&& (7 : Int64)).toInt32)]))] := hD
      refine lv_lload hx hb dX0_remainderOfFinite_170 (lv_at hl 0 rfl) ?_
      refine lv_lload hx hb dX0_remainderOfFinite_172 (lv_at hl 1 rfl) ?_
      refine lv_iload hx hb dX0_remainderOfFinite_174 (lv_at hl 10 rfl) ?_
      refine bw_csl (rest := [.long ((bf_signOf x1) ^^^ (-9223372036854775808 : Int64))]) ⟨hx, hb, hml, hown, hts⟩ (bc_pattern l (((bf_significand x2) <<< ((if (-x3) < (0 : Int32) then (0 : Int32) else (-x3)).toInt64 &&& 63)) - r3.2.1) (if (bf_power x2) < (bf_power x1) then (bf_power x2) else (bf_power x1))) (va_cwS 2 hts gX0_remainderOfFinite_X0_pattern rfl rfl rfl (by decide +kernel) ⟨Nat.le_of_ble_eq_true rfl, Nat.le_of_ble_eq_true rfl⟩) rfl hl.1 rfl (Nat.le_of_ble_eq_true rfl) dX0_remainderOfFinite_176 (Nat.zero_le _) (Nat.zero_le _) ?_
      refine lv_lor hx hb dX0_remainderOfFinite_179 ?_
      exact W.lret (v := ((bf_signOf x1) ^^^ (-9223372036854775808 : Int64)) ||| (bf_pattern (((bf_significand x2) <<< ((if (-x3) < (0 : Int32) then (0 : Int32) else (-x3)).toInt64 &&& 63)) - r3.2.1) (if (bf_power x2) < (bf_power x1) then (bf_power x2) else (bf_power x1)))) hx hb hr (fun t ht hW => ⟨⟨((bf_signOf x1) ^^^ (-9223372036854775808 : Int64)) ||| (bf_pattern (((bf_significand x2) <<< ((if (-x3) < (0 : Int32) then (0 : Int32) else (-x3)).toInt64 &&& 63)) - r3.2.1) (if (bf_power x2) < (bf_power x1) then (bf_power x2) else (bf_power x1))), (f1, ((r3.1 + (1 : Int64)) &&& (7 : Int64)).toInt32), rfl, by rw [bf_remainderOfFinite, e3, bf_remainderOfFinite_k1, if_neg h4, if_pos h5], by rw [ht]; exact hP, va_K.moved hW.alike hK, hD⟩, hS.F ht⟩) hS.2.2 dX0_remainderOfFinite_180
    · refine lv_lload hx hb dX0_remainderOfFinite_121 (lv_at hl 0 rfl) ?_
      refine lv_lload hx hb dX0_remainderOfFinite_123 (lv_at hl 7 rfl) ?_
      refine bw_lc_ne (tgt := 159) hx hb dX0_remainderOfFinite_125 dX0_remainderOfFinite_126 (by decide) (fun h6 => ?_) (fun h6 => ?_)
      · refine lv_aload_n hx hb dX0_remainderOfFinite_159 rfl (lv_at hl 2 rfl) ?_
        refine lv_lload hx hb dX0_remainderOfFinite_160 (lv_at hl 9 rfl) ?_
        refine lv_ldc2 hx hb hown (hts (.constantLong RX0 130 7) (by decide +kernel)) dX0_remainderOfFinite_162 ?_
        refine lv_land hx hb dX0_remainderOfFinite_165 ?_
        refine lv_l2i hx hb dX0_remainderOfFinite_166 rfl ?_
        refine va_put (D := (dC, dI)) (ci := 0) (v := .int ((r3.1 &&& (7 : Int64)).toInt32)) (ty := .int) (C := RX0) (T := TX0) (N := 3) hx hb hts hin0 tyX0 tyX0_ok nmX0 hown hK hP hD hS 0 rfl rfl 2 (by decide) (hts (.fieldLink RX0 17 "BinaryFunctions" "lastQuotient" "I") (by decide +kernel)) (fun _ h9 => h9) rfl (by decide +kernel) rfl rfl (Nat.le_of_ble_eq_true rfl) dX0_remainderOfFinite_167 (fun H locs hP hD hS => ?_)
        have hP : va_P (dC, dI) vwCl [(h0, .inr (0, [.ref a0, .int f1, .int ((r3.1 &&& (7 : Int64)).toInt32)]))] H := hP
        have hD : va_D A [(h0, .inr (0, [.ref a0, .int f1, .int ((r3.1 &&& (7 : Int64)).toInt32)]))] := hD
        refine lv_lload hx hb dX0_remainderOfFinite_170 (lv_at hl 1 rfl) ?_
        refine lv_lload hx hb dX0_remainderOfFinite_172 (lv_at hl 10 rfl) ?_
        refine lv_iload hx hb dX0_remainderOfFinite_174 (lv_at hl 8 rfl) ?_
        refine bw_csl (rest := [.long (bf_signOf x1)]) ⟨hx, hb, hml, hown, hts⟩ (bc_pattern l r3.2.1 (if (bf_power x2) < (bf_power x1) then (bf_power x2) else (bf_power x1))) (va_cwS 2 hts gX0_remainderOfFinite_X0_pattern rfl rfl rfl (by decide +kernel) ⟨Nat.le_of_ble_eq_true rfl, Nat.le_of_ble_eq_true rfl⟩) rfl hl.1 rfl (Nat.le_of_ble_eq_true rfl) dX0_remainderOfFinite_176 (Nat.zero_le _) (Nat.zero_le _) ?_
        refine lv_lor hx hb dX0_remainderOfFinite_179 ?_
        exact W.lret (v := (bf_signOf x1) ||| (bf_pattern r3.2.1 (if (bf_power x2) < (bf_power x1) then (bf_power x2) else (bf_power x1)))) hx hb hr (fun t ht hW => ⟨⟨(bf_signOf x1) ||| (bf_pattern r3.2.1 (if (bf_power x2) < (bf_power x1) then (bf_power x2) else (bf_power x1))), (f1, (r3.1 &&& (7 : Int64)).toInt32), rfl, by rw [bf_remainderOfFinite, e3, bf_remainderOfFinite_k1, if_neg h4, if_neg h5, if_neg h6], by rw [ht]; exact hP, va_K.moved hW.alike hK, hD⟩, hS.F ht⟩) hS.2.2 dX0_remainderOfFinite_180
      · refine lv_lload hx hb dX0_remainderOfFinite_129 (lv_at hl 9 rfl) ?_
        refine lv_lconst (v := 1) hx hb dX0_remainderOfFinite_131 (by decide) ?_
        refine lv_land hx hb dX0_remainderOfFinite_132 ?_
        refine lv_lconst (v := 1) hx hb dX0_remainderOfFinite_133 (by decide) ?_
        refine bw_lc_ne (tgt := 159) hx hb dX0_remainderOfFinite_134 dX0_remainderOfFinite_135 (by decide) (fun h7 => ?_) (fun h7 => ?_)
        · refine lv_aload_n hx hb dX0_remainderOfFinite_159 rfl (lv_at hl 2 rfl) ?_
          refine lv_lload hx hb dX0_remainderOfFinite_160 (lv_at hl 9 rfl) ?_
          refine lv_ldc2 hx hb hown (hts (.constantLong RX0 130 7) (by decide +kernel)) dX0_remainderOfFinite_162 ?_
          refine lv_land hx hb dX0_remainderOfFinite_165 ?_
          refine lv_l2i hx hb dX0_remainderOfFinite_166 rfl ?_
          refine va_put (D := (dC, dI)) (ci := 0) (v := .int ((r3.1 &&& (7 : Int64)).toInt32)) (ty := .int) (C := RX0) (T := TX0) (N := 3) hx hb hts hin0 tyX0 tyX0_ok nmX0 hown hK hP hD hS 0 rfl rfl 2 (by decide) (hts (.fieldLink RX0 17 "BinaryFunctions" "lastQuotient" "I") (by decide +kernel)) (fun _ h9 => h9) rfl (by decide +kernel) rfl rfl (Nat.le_of_ble_eq_true rfl) dX0_remainderOfFinite_167 (fun H locs hP hD hS => ?_)
          have hP : va_P (dC, dI) vwCl [(h0, .inr (0, [.ref a0, .int f1, .int ((r3.1 &&& (7 : Int64)).toInt32)]))] H := hP
          have hD : va_D A [(h0, .inr (0, [.ref a0, .int f1, .int ((r3.1 &&& (7 : Int64)).toInt32)]))] := hD
          refine lv_lload hx hb dX0_remainderOfFinite_170 (lv_at hl 1 rfl) ?_
          refine lv_lload hx hb dX0_remainderOfFinite_172 (lv_at hl 10 rfl) ?_
          refine lv_iload hx hb dX0_remainderOfFinite_174 (lv_at hl 8 rfl) ?_
          refine bw_csl (rest := [.long (bf_signOf x1)]) ⟨hx, hb, hml, hown, hts⟩ (bc_pattern l r3.2.1 (if (bf_power x2) < (bf_power x1) then (bf_power x2) else (bf_power x1))) (va_cwS 2 hts gX0_remainderOfFinite_X0_pattern rfl rfl rfl (by decide +kernel) ⟨Nat.le_of_ble_eq_true rfl, Nat.le_of_ble_eq_true rfl⟩) rfl hl.1 rfl (Nat.le_of_ble_eq_true rfl) dX0_remainderOfFinite_176 (Nat.zero_le _) (Nat.zero_le _) ?_
          refine lv_lor hx hb dX0_remainderOfFinite_179 ?_
          exact W.lret (v := (bf_signOf x1) ||| (bf_pattern r3.2.1 (if (bf_power x2) < (bf_power x1) then (bf_power x2) else (bf_power x1)))) hx hb hr (fun t ht hW => ⟨⟨(bf_signOf x1) ||| (bf_pattern r3.2.1 (if (bf_power x2) < (bf_power x1) then (bf_power x2) else (bf_power x1))), (f1, (r3.1 &&& (7 : Int64)).toInt32), rfl, by rw [bf_remainderOfFinite, e3, bf_remainderOfFinite_k1, if_neg h4, if_neg h5, if_pos h6, if_neg h7], by rw [ht]; exact hP, va_K.moved hW.alike hK, hD⟩, hS.F ht⟩) hS.2.2 dX0_remainderOfFinite_180
        · refine lv_lload hx hb dX0_remainderOfFinite_138 (lv_at hl 9 rfl) ?_
          refine lv_lconst (v := 1) hx hb dX0_remainderOfFinite_140 (by decide) ?_
          refine lv_ladd hx hb dX0_remainderOfFinite_141 ?_
          refine lv_lstore (nL := 18) (lv' := [(10, .long (r3.1 + (1 : Int64))), (16, .long (r3.2.1 <<< ((1 : Int32).toInt64 &&& 63))), (14, .long (bf_signOf x1)), (0, .ref h0), (1, .long x1), (3, .long x2), (5, .int x3), (6, .int x4), (7, .long ((bf_significand x2) <<< ((if (-x3) < (0 : Int32) then (0 : Int32) else (-x3)).toInt64 &&& 63))), (9, .int (if (bf_power x2) < (bf_power x1) then (bf_power x2) else (bf_power x1))), (12, .long r3.2.1)]) hx hb dX0_remainderOfFinite_142 hl (by decide) rfl (fun ls hl => ?_)
          refine lv_lload hx hb dX0_remainderOfFinite_144 (lv_at hl 8 rfl) ?_
          refine lv_lload hx hb dX0_remainderOfFinite_146 (lv_at hl 10 rfl) ?_
          refine lv_lsub hx hb dX0_remainderOfFinite_148 ?_
          refine lv_lstore (nL := 18) (lv' := [(12, .long (((bf_significand x2) <<< ((if (-x3) < (0 : Int32) then (0 : Int32) else (-x3)).toInt64 &&& 63)) - r3.2.1)), (10, .long (r3.1 + (1 : Int64))), (16, .long (r3.2.1 <<< ((1 : Int32).toInt64 &&& 63))), (14, .long (bf_signOf x1)), (0, .ref h0), (1, .long x1), (3, .long x2), (5, .int x3), (6, .int x4), (7, .long ((bf_significand x2) <<< ((if (-x3) < (0 : Int32) then (0 : Int32) else (-x3)).toInt64 &&& 63))), (9, .int (if (bf_power x2) < (bf_power x1) then (bf_power x2) else (bf_power x1)))]) hx hb dX0_remainderOfFinite_149 hl (by decide) rfl (fun ls hl => ?_)
          refine lv_lload hx hb dX0_remainderOfFinite_151 (lv_at hl 3 rfl) ?_
          refine lv_ldc2 hx hb hown (hts (.constantLong RX0 69 (-9223372036854775808)) (by decide +kernel)) dX0_remainderOfFinite_153 ?_
          refine lv_lxor hx hb dX0_remainderOfFinite_156 ?_
          refine lv_lstore (nL := 18) (lv' := [(14, .long ((bf_signOf x1) ^^^ (-9223372036854775808 : Int64))), (12, .long (((bf_significand x2) <<< ((if (-x3) < (0 : Int32) then (0 : Int32) else (-x3)).toInt64 &&& 63)) - r3.2.1)), (10, .long (r3.1 + (1 : Int64))), (16, .long (r3.2.1 <<< ((1 : Int32).toInt64 &&& 63))), (0, .ref h0), (1, .long x1), (3, .long x2), (5, .int x3), (6, .int x4), (7, .long ((bf_significand x2) <<< ((if (-x3) < (0 : Int32) then (0 : Int32) else (-x3)).toInt64 &&& 63))), (9, .int (if (bf_power x2) < (bf_power x1) then (bf_power x2) else (bf_power x1)))]) hx hb dX0_remainderOfFinite_157 hl (by decide) rfl (fun ls hl => ?_)
          refine lv_aload_n hx hb dX0_remainderOfFinite_159 rfl (lv_at hl 4 rfl) ?_
          refine lv_lload hx hb dX0_remainderOfFinite_160 (lv_at hl 2 rfl) ?_
          refine lv_ldc2 hx hb hown (hts (.constantLong RX0 130 7) (by decide +kernel)) dX0_remainderOfFinite_162 ?_
          refine lv_land hx hb dX0_remainderOfFinite_165 ?_
          refine lv_l2i hx hb dX0_remainderOfFinite_166 rfl ?_
          refine va_put (D := (dC, dI)) (ci := 0) (v := .int (((r3.1 + (1 : Int64)) &&& (7 : Int64)).toInt32)) (ty := .int) (C := RX0) (T := TX0) (N := 3) hx hb hts hin0 tyX0 tyX0_ok nmX0 hown hK hP hD hS 0 rfl rfl 2 (by decide) (hts (.fieldLink RX0 17 "BinaryFunctions" "lastQuotient" "I") (by decide +kernel)) (fun _ h9 => h9) rfl (by decide +kernel) rfl rfl (Nat.le_of_ble_eq_true rfl) dX0_remainderOfFinite_167 (fun H locs hP hD hS => ?_)
          have hP : va_P (dC, dI) vwCl [(h0, .inr (0, [.ref a0, .int f1, .int (((r3.1 + (1 : Int64)) &&& (7 : Int64)).toInt32)]))] H := hP
          have hD : va_D A [(h0, .inr (0, [.ref a0, .int f1, .int (((r3.1 + (1 : Int64)) &&& (7 : Int64)).toInt32)]))] := hD
          refine lv_lload hx hb dX0_remainderOfFinite_170 (lv_at hl 0 rfl) ?_
          refine lv_lload hx hb dX0_remainderOfFinite_172 (lv_at hl 1 rfl) ?_
          refine lv_iload hx hb dX0_remainderOfFinite_174 (lv_at hl 10 rfl) ?_
          refine bw_csl (rest := [.long ((bf_signOf x1) ^^^ (-9223372036854775808 : Int64))]) ⟨hx, hb, hml, hown, hts⟩ (bc_pattern l (((bf_significand x2) <<< ((if (-x3) < (0 : Int32) then (0 : Int32) else (-x3)).toInt64 &&& 63)) - r3.2.1) (if (bf_power x2) < (bf_power x1) then (bf_power x2) else (bf_power x1))) (va_cwS 2 hts gX0_remainderOfFinite_X0_pattern rfl rfl rfl (by decide +kernel) ⟨Nat.le_of_ble_eq_true rfl, Nat.le_of_ble_eq_true rfl⟩) rfl hl.1 rfl (Nat.le_of_ble_eq_true rfl) dX0_remainderOfFinite_176 (Nat.zero_le _) (Nat.zero_le _) ?_
          refine lv_lor hx hb dX0_remainderOfFinite_179 ?_
          exact W.lret (v := ((bf_signOf x1) ^^^ (-9223372036854775808 : Int64)) ||| (bf_pattern (((bf_significand x2) <<< ((if (-x3) < (0 : Int32) then (0 : Int32) else (-x3)).toInt64 &&& 63)) - r3.2.1) (if (bf_power x2) < (bf_power x1) then (bf_power x2) else (bf_power x1)))) hx hb hr (fun t ht hW => ⟨⟨((bf_signOf x1) ^^^ (-9223372036854775808 : Int64)) ||| (bf_pattern (((bf_significand x2) <<< ((if (-x3) < (0 : Int32) then (0 : Int32) else (-x3)).toInt64 &&& 63)) - r3.2.1) (if (bf_power x2) < (bf_power x1) then (bf_power x2) else (bf_power x1))), (f1, ((r3.1 + (1 : Int64)) &&& (7 : Int64)).toInt32), rfl, by rw [bf_remainderOfFinite, e3, bf_remainderOfFinite_k1, if_neg h4, if_neg h5, if_pos h6, if_pos h7], by rw [ht]; exact hP, va_K.moved hW.alike hK, hD⟩, hS.F ht⟩) hS.2.2 dX0_remainderOfFinite_180
set_option maxHeartbeats 4000000 in
set_option maxRecDepth 100000 in
theorem bc_remainder (l : Launch) (dC : Nat → ClassId) (dI : Nat → Nat → Nat) (h0 a0 : Nat) (sz : Nat) (f1 : Int32) (f2 : Int32) (x1 : Int64) (x2 : Int64) (x3 : Int32) : Met l yX0_remainder wsX0_remainder ({ frames := 4, cells := 0, slots := 0, locals := 104 }) (va_Pc [.ref h0, .long x1, .long x2, .int x3] (bw_I1 (dC, dI) vwCl sz h0 (.inr (0, [.ref a0, .int f1, .int f2])))) (va_Ql (fun (r : Int64) (u : Int32 × Int32) => (r, u) = bf_remainder f1 f2 x1 x2 x3) (fun u t => bw_O1 (dC, dI) vwCl (va_A [(h0, .inr (0, [.ref a0, .int f1, .int f2]))] sz) h0 (.inr (0, [.ref a0, .int u.1, .int u.2])) t) (va_A [(h0, .inr (0, [.ref a0, .int f1, .int f2]))] sz)) 0 0 (va_A [(h0, .inr (0, [.ref a0, .int f1, .int f2]))] sz) := by
  refine Met.ofW (cc := cX0_remainder) (maxL := 7) (ret := (some .long)) (by decide) rfl ?_
  intro p e s m args below meth c s₁ B hml hv
  obtain ⟨rfl, hsz, hP, hK, hD0⟩ := hv
  have hx := B.exec
  have hb := B.bytes
  have hr := B.returns
  have hts := atoms_spec (ws := wsX0_remainder) B.pre
  have hown : s.vm.findClass RX0 = some m.cls := findClass_of_methodNamed B.named
  have hlocks := B.notSynchronized
  subst hsz
  have hD := hD0.self (sz := s.heap.size)
  generalize hAe : va_A [(h0, .inr (0, [.ref a0, .int f1, .int f2]))] s.heap.size = A at hD ⊢
  have hA : ∀ q : Nat, s.heap.size ≤ q → A q := fun q h => by rw [← hAe]; exact Or.inr h
  have hS : va_S A s.heap s.heap [] := va_S.rf
  have hP : va_P (dC, dI) vwCl [(h0, .inr (0, [.ref a0, .int f1, .int f2]))] s.heap := hP
  have hin0 : ∀ w ∈ u_ws RX0 TX0 3, w ∈ wsX0_remainder := by decide +kernel
  have hl := lv_entry ([.ref h0, .long x1, .long x2, .int x3]) (n := 7) (Nat.le_of_ble_eq_true rfl)
  rw [lg_entry_eq]
  generalize (lg_sl ([.ref h0, .long x1, .long x2, .int x3]) ++ List.replicate (7 - (lg_sl ([.ref h0, .long x1, .long x2, .int x3])).length) Slot.unset).toArray = ls at hl ⊢
  have hl : lv_has ls 7 [(0, .ref h0), (1, .long x1), (3, .long x2), (5, .int x3)] := hl
  refine lv_aload_n hx hb dX0_remainder_0 rfl (lv_at hl 0 rfl) ?_
  refine lv_iconst (v := 0) hx hb dX0_remainder_1 (by decide) ?_
  refine va_put (D := (dC, dI)) (ci := 0) (v := .int (0 : Int32)) (ty := .int) (C := RX0) (T := TX0) (N := 3) hx hb hts hin0 tyX0 tyX0_ok nmX0 hown hK hP hD hS 0 rfl rfl 2 (by decide) (hts (.fieldLink RX0 17 "BinaryFunctions" "lastQuotient" "I") (by decide +kernel)) (fun _ h9 => h9) rfl (by decide +kernel) rfl rfl (Nat.le_of_ble_eq_true rfl) dX0_remainder_2 (fun H locs hP hD hS => ?_)
  have hP : va_P (dC, dI) vwCl [(h0, .inr (0, [.ref a0, .int f1, .int (0 : Int32)]))] H := hP
  have hD : va_D A [(h0, .inr (0, [.ref a0, .int f1, .int (0 : Int32)]))] := hD
  refine lv_lload_n hx hb dX0_remainder_5 rfl (lv_at hl 1 rfl) ?_
  refine bw_csi (rest := []) ⟨hx, hb, hml, hown, hts⟩ (bc_isNan l x1) (va_cwS 1 hts gX0_remainder_X0_isNan rfl rfl rfl (by decide +kernel) ⟨Nat.le_of_ble_eq_true rfl, Nat.le_of_ble_eq_true rfl⟩) rfl hl.1 rfl (Nat.le_of_ble_eq_true rfl) dX0_remainder_6 (Nat.zero_le _) (Nat.zero_le _) ?_
  refine lv_if_ne (tgt := 19) hx hb dX0_remainder_9 (by decide) (fun h1 => ?_) (fun h1 => ?_)
  · refine lv_ldc2 hx hb hown (hts (.constantLong RX0 101 9221120237041090560) (by decide +kernel)) dX0_remainder_19 ?_
    exact W.lret (v := (9221120237041090560 : Int64)) hx hb hr (fun t ht hW => ⟨⟨(9221120237041090560 : Int64), (f1, (0 : Int32)), rfl, by rw [bf_remainder, if_neg h1], by rw [ht]; exact hP, va_K.moved hW.alike hK, hD⟩, hS.F ht⟩) hS.2.2 dX0_remainder_22
  · refine lv_lload_n hx hb dX0_remainder_12 rfl (lv_at hl 2 rfl) ?_
    refine bw_csi (rest := []) ⟨hx, hb, hml, hown, hts⟩ (bc_isNan l x2) (va_cwS 1 hts gX0_remainder_X0_isNan rfl rfl rfl (by decide +kernel) ⟨Nat.le_of_ble_eq_true rfl, Nat.le_of_ble_eq_true rfl⟩) rfl hl.1 rfl (Nat.le_of_ble_eq_true rfl) dX0_remainder_13 (Nat.zero_le _) (Nat.zero_le _) ?_
    refine lv_if_eq (tgt := 23) hx hb dX0_remainder_16 (by decide) (fun h2 => ?_) (fun h2 => ?_)
    · refine lv_lload_n hx hb dX0_remainder_23 rfl (lv_at hl 1 rfl) ?_
      refine bw_csi (rest := []) ⟨hx, hb, hml, hown, hts⟩ (bc_isInfinity l x1) (va_cwS 1 hts gX0_remainder_X0_isInfinity rfl rfl rfl (by decide +kernel) ⟨Nat.le_of_ble_eq_true rfl, Nat.le_of_ble_eq_true rfl⟩) rfl hl.1 rfl (Nat.le_of_ble_eq_true rfl) dX0_remainder_24 (Nat.zero_le _) (Nat.zero_le _) ?_
      refine lv_if_ne (tgt := 37) hx hb dX0_remainder_27 (by decide) (fun h3 => ?_) (fun h3 => ?_)
      · refine lv_aload_n hx hb dX0_remainder_37 rfl (lv_at hl 0 rfl) ?_
        refine lv_iconst (v := 1) hx hb dX0_remainder_38 (by decide) ?_
        refine bw_vv1 (rest := []) 0 ⟨hx, hb, hml, hown, hts⟩ (bc_raise l dC dI h0 a0 H.size f1 (0 : Int32) (1 : Int32)) (cwV 1 hts gX0_remainder_X0_raise rfl rfl rfl (by decide +kernel) ⟨Nat.le_of_ble_eq_true rfl, Nat.le_of_ble_eq_true rfl⟩) hK hP hD hS hA rfl rfl rfl hl.1 rfl (Nat.le_of_ble_eq_true rfl) dX0_remainder_39 (Nat.zero_le _) (Nat.zero_le _) (fun H locs hP hD hS => ?_)
        have hP : va_P (dC, dI) vwCl [(h0, .inr (0, [.ref a0, .int ((bf_raise f1 (0 : Int32) (1 : Int32)).1), .int ((bf_raise f1 (0 : Int32) (1 : Int32)).2)]))] H := hP
        have hD : va_D A [(h0, .inr (0, [.ref a0, .int ((bf_raise f1 (0 : Int32) (1 : Int32)).1), .int ((bf_raise f1 (0 : Int32) (1 : Int32)).2)]))] := hD
        obtain ⟨r4, e4⟩ : ∃ r, (bf_raise f1 (0 : Int32) (1 : Int32)) = r := ⟨_, rfl⟩
        rw [e4] at hP hD
        refine lv_ldc2 hx hb hown (hts (.constantLong RX0 101 9221120237041090560) (by decide +kernel)) dX0_remainder_42 ?_
        exact W.lret (v := (9221120237041090560 : Int64)) hx hb hr (fun t ht hW => ⟨⟨(9221120237041090560 : Int64), (r4.1, r4.2), rfl, by rw [bf_remainder, if_pos h1, if_pos h2, if_neg h3, e4, bf_remainder_k1], by rw [ht]; exact hP, va_K.moved hW.alike hK, hD⟩, hS.F ht⟩) hS.2.2 dX0_remainder_45
      · refine lv_lload_n hx hb dX0_remainder_30 rfl (lv_at hl 2 rfl) ?_
        refine bw_csi (rest := []) ⟨hx, hb, hml, hown, hts⟩ (bc_isZero l x2) (va_cwS 1 hts gX0_remainder_X0_isZero rfl rfl rfl (by decide +kernel) ⟨Nat.le_of_ble_eq_true rfl, Nat.le_of_ble_eq_true rfl⟩) rfl hl.1 rfl (Nat.le_of_ble_eq_true rfl) dX0_remainder_31 (Nat.zero_le _) (Nat.zero_le _) ?_
        refine lv_if_eq (tgt := 46) hx hb dX0_remainder_34 (by decide) (fun h5 => ?_) (fun h5 => ?_)
        · refine lv_lload_n hx hb dX0_remainder_46 rfl (lv_at hl 2 rfl) ?_
          refine bw_csi (rest := []) ⟨hx, hb, hml, hown, hts⟩ (bc_isInfinity l x2) (va_cwS 1 hts gX0_remainder_X0_isInfinity rfl rfl rfl (by decide +kernel) ⟨Nat.le_of_ble_eq_true rfl, Nat.le_of_ble_eq_true rfl⟩) rfl hl.1 rfl (Nat.le_of_ble_eq_true rfl) dX0_remainder_47 (Nat.zero_le _) (Nat.zero_le _) ?_
          refine lv_if_ne (tgt := 60) hx hb dX0_remainder_50 (by decide) (fun h6 => ?_) (fun h6 => ?_)
          · refine lv_lload_n hx hb dX0_remainder_60 rfl (lv_at hl 1 rfl) ?_
            exact W.lret (v := x1) hx hb hr (fun t ht hW => ⟨⟨x1, (f1, (0 : Int32)), rfl, by rw [bf_remainder, if_pos h1, if_pos h2, if_pos h3, if_pos h5, if_neg h6], by rw [ht]; exact hP, va_K.moved hW.alike hK, hD⟩, hS.F ht⟩) hS.2.2 dX0_remainder_61
          · refine lv_lload_n hx hb dX0_remainder_53 rfl (lv_at hl 1 rfl) ?_
            refine bw_csi (rest := []) ⟨hx, hb, hml, hown, hts⟩ (bc_isZero l x1) (va_cwS 1 hts gX0_remainder_X0_isZero rfl rfl rfl (by decide +kernel) ⟨Nat.le_of_ble_eq_true rfl, Nat.le_of_ble_eq_true rfl⟩) rfl hl.1 rfl (Nat.le_of_ble_eq_true rfl) dX0_remainder_54 (Nat.zero_le _) (Nat.zero_le _) ?_
            refine lv_if_eq (tgt := 62) hx hb dX0_remainder_57 (by decide) (fun h7 => ?_) (fun h7 => ?_)
            · refine lv_lload_n hx hb dX0_remainder_62 rfl (lv_at hl 1 rfl) ?_
              refine bw_csi (rest := []) ⟨hx, hb, hml, hown, hts⟩ (bc_power l x1) (va_cwS 1 hts gX0_remainder_X0_power rfl rfl rfl (by decide +kernel) ⟨Nat.le_of_ble_eq_true rfl, Nat.le_of_ble_eq_true rfl⟩) rfl hl.1 rfl (Nat.le_of_ble_eq_true rfl) dX0_remainder_63 (Nat.zero_le _) (Nat.zero_le _) ?_
              refine lv_lload_n hx hb dX0_remainder_66 rfl (lv_at hl 2 rfl) ?_
              refine bw_csi (rest := [.int (bf_power x1)]) ⟨hx, hb, hml, hown, hts⟩ (bc_power l x2) (va_cwS 1 hts gX0_remainder_X0_power rfl rfl rfl (by decide +kernel) ⟨Nat.le_of_ble_eq_true rfl, Nat.le_of_ble_eq_true rfl⟩) rfl hl.1 rfl (Nat.le_of_ble_eq_true rfl) dX0_remainder_67 (Nat.zero_le _) (Nat.zero_le _) ?_
              refine lv_isub hx hb dX0_remainder_70 ?_
              refine lv_istore (nL := 7) (lv' := [(6, .int ((bf_power x1) - (bf_power x2))), (0, .ref h0), (1, .long x1), (3, .long x2), (5, .int x3)]) hx hb dX0_remainder_71 hl (by decide) rfl (fun ls hl => ?_)
              refine lv_iload hx hb dX0_remainder_73 (lv_at hl 0 rfl) ?_
              refine lv_iconst (v := -1) hx hb dX0_remainder_75 (by decide) ?_
              refine lv_icmp_ge (tgt := 81) hx hb dX0_remainder_76 (by decide) (fun h8 => ?_) (fun h8 => ?_)
              · refine lv_aload_n hx hb dX0_remainder_81 rfl (lv_at hl 1 rfl) ?_
                refine lv_lload_n hx hb dX0_remainder_82 rfl (lv_at hl 2 rfl) ?_
                refine lv_lload_n hx hb dX0_remainder_83 rfl (lv_at hl 3 rfl) ?_
                refine lv_iload hx hb dX0_remainder_84 (lv_at hl 0 rfl) ?_
                refine lv_iload hx hb dX0_remainder_86 (lv_at hl 4 rfl) ?_
                refine bw_vl1 (rest := []) 0 ⟨hx, hb, hml, hown, hts⟩ (bc_remainderOfFinite l dC dI h0 a0 H.size f1 (0 : Int32) x1 x2 ((bf_power x1) - (bf_power x2)) x3 (bs_nz0 h5 h8)) (cwV 4 hts gX0_remainder_X0_remainderOfFinite rfl rfl rfl (by decide +kernel) ⟨Nat.le_of_ble_eq_true rfl, Nat.le_of_ble_eq_true rfl⟩) hK hP hD hS hA rfl rfl rfl hl.1 rfl (Nat.le_of_ble_eq_true rfl) dX0_remainder_88 (Nat.zero_le _) (Nat.zero_le _) (fun H locs hP hD hS => ?_)
                have hP : va_P (dC, dI) vwCl [(h0, .inr (0, [.ref a0, .int ((bf_remainderOfFinite f1 (0 : Int32) x1 x2 ((bf_power x1) - (bf_power x2)) x3).2.1), .int ((bf_remainderOfFinite f1 (0 : Int32) x1 x2 ((bf_power x1) - (bf_power x2)) x3).2.2)]))] H := hP
                have hD : va_D A [(h0, .inr (0, [.ref a0, .int ((bf_remainderOfFinite f1 (0 : Int32) x1 x2 ((bf_power x1) - (bf_power x2)) x3).2.1), .int ((bf_remainderOfFinite f1 (0 : Int32) x1 x2 ((bf_power x1) - (bf_power x2)) x3).2.2)]))] := hD
                obtain ⟨r9, e9⟩ : ∃ r, (bf_remainderOfFinite f1 (0 : Int32) x1 x2 ((bf_power x1) - (bf_power x2)) x3) = r := ⟨_, rfl⟩
                rw [e9] at hP hD ⊢
                exact W.lret (v := r9.1) hx hb hr (fun t ht hW => ⟨⟨r9.1, (r9.2.1, r9.2.2), rfl, by rw [bf_remainder, if_pos h1, if_pos h2, if_pos h3, if_pos h5, if_pos h6, if_pos h7, if_pos h8, e9, bf_remainder_k2], by rw [ht]; exact hP, va_K.moved hW.alike hK, hD⟩, hS.F ht⟩) hS.2.2 dX0_remainder_91
              · refine lv_lload_n hx hb dX0_remainder_79 rfl (lv_at hl 2 rfl) ?_
                exact W.lret (v := x1) hx hb hr (fun t ht hW => ⟨⟨x1, (f1, (0 : Int32)), rfl, by rw [bf_remainder, if_pos h1, if_pos h2, if_pos h3, if_pos h5, if_pos h6, if_pos h7, if_neg h8], by rw [ht]; exact hP, va_K.moved hW.alike hK, hD⟩, hS.F ht⟩) hS.2.2 dX0_remainder_80
            · refine lv_lload_n hx hb dX0_remainder_60 rfl (lv_at hl 1 rfl) ?_
              exact W.lret (v := x1) hx hb hr (fun t ht hW => ⟨⟨x1, (f1, (0 : Int32)), rfl, by rw [bf_remainder, if_pos h1, if_pos h2, if_pos h3, if_pos h5, if_pos h6, if_neg h7], by rw [ht]; exact hP, va_K.moved hW.alike hK, hD⟩, hS.F ht⟩) hS.2.2 dX0_remainder_61
        · refine lv_aload_n hx hb dX0_remainder_37 rfl (lv_at hl 0 rfl) ?_
          refine lv_iconst (v := 1) hx hb dX0_remainder_38 (by decide) ?_
          refine bw_vv1 (rest := []) 0 ⟨hx, hb, hml, hown, hts⟩ (bc_raise l dC dI h0 a0 H.size f1 (0 : Int32) (1 : Int32)) (cwV 1 hts gX0_remainder_X0_raise rfl rfl rfl (by decide +kernel) ⟨Nat.le_of_ble_eq_true rfl, Nat.le_of_ble_eq_true rfl⟩) hK hP hD hS hA rfl rfl rfl hl.1 rfl (Nat.le_of_ble_eq_true rfl) dX0_remainder_39 (Nat.zero_le _) (Nat.zero_le _) (fun H locs hP hD hS => ?_)
          have hP : va_P (dC, dI) vwCl [(h0, .inr (0, [.ref a0, .int ((bf_raise f1 (0 : Int32) (1 : Int32)).1), .int ((bf_raise f1 (0 : Int32) (1 : Int32)).2)]))] H := hP
          have hD : va_D A [(h0, .inr (0, [.ref a0, .int ((bf_raise f1 (0 : Int32) (1 : Int32)).1), .int ((bf_raise f1 (0 : Int32) (1 : Int32)).2)]))] := hD
          obtain ⟨r10, e10⟩ : ∃ r, (bf_raise f1 (0 : Int32) (1 : Int32)) = r := ⟨_, rfl⟩
          rw [e10] at hP hD
          refine lv_ldc2 hx hb hown (hts (.constantLong RX0 101 9221120237041090560) (by decide +kernel)) dX0_remainder_42 ?_
          exact W.lret (v := (9221120237041090560 : Int64)) hx hb hr (fun t ht hW => ⟨⟨(9221120237041090560 : Int64), (r10.1, r10.2), rfl, by rw [bf_remainder, if_pos h1, if_pos h2, if_pos h3, if_neg h5, e10, bf_remainder_k3], by rw [ht]; exact hP, va_K.moved hW.alike hK, hD⟩, hS.F ht⟩) hS.2.2 dX0_remainder_45
    · refine lv_ldc2 hx hb hown (hts (.constantLong RX0 101 9221120237041090560) (by decide +kernel)) dX0_remainder_19 ?_
      exact W.lret (v := (9221120237041090560 : Int64)) hx hb hr (fun t ht hW => ⟨⟨(9221120237041090560 : Int64), (f1, (0 : Int32)), rfl, by rw [bf_remainder, if_pos h1, if_neg h2], by rw [ht]; exact hP, va_K.moved hW.alike hK, hD⟩, hS.F ht⟩) hS.2.2 dX0_remainder_22
