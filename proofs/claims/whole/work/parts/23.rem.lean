/-! remainders: the class's steps of ten bits, the reference's of one -/
theorem bm_ofN {x : Int64} {n : Nat} (h : x.toInt = n) : x = Int64.ofNat n := by
  have r := bm_rl x
  exact bm_leq.mpr (by rw [h, Int64.toInt_ofNat_of_lt (by omega)])
theorem bm_natdiv {a b : Nat} : ((a / b : Nat) : Int) = (a : Int) / (b : Int) := Int.natCast_ediv _ _
theorem bm_natmod {a b : Nat} : ((a % b : Nat) : Int) = (a : Int) % (b : Int) := Int.natCast_emod _ _
theorem bs_cd0 {dv n0 re0 : Int64} {op : Int32} (h : op.toInt ≤ 0) : bl_cd dv (n0, re0, op) = (n0, re0, op) := by
  refine bl_run_eq (n := 1) _ _ ?_
  have e : bl_cd_st dv (n0, re0, op) = .inr (n0, re0, op) := by
    show bl_cd_b dv n0 re0 op = _
    unfold bl_cd_b
    rw [if_pos (bm_ile.mpr h)]
  rw [bl_it_succ, e]
theorem bs_cd {dv n0 re0 : Int64} {op : Int32} {d M N0 r0 D : Nat} (hd : dv.toInt = d) (d0 : 0 < d) (d1 : d ≤ 9007199254740992) (hn : n0 = Int64.ofNat N0) (hr : re0.toInt = r0) (hr1 : r0 < d) (hM : M = N0 * d + r0) (ho : op.toInt = D) : ∃ N r : Nat, (bl_cd dv (n0, re0, op)).1 = Int64.ofNat N ∧ (bl_cd dv (n0, re0, op)).2.1.toInt = r ∧ r < d ∧ M * 2 ^ D = N * d + r := by
  obtain ⟨n, hn2⟩ := bl_cd_ok dv (n0, re0, op)
  have hop := bm_ri op
  refine bl_inv (bl_cd_st dv) (fun v => ∃ j N r : Nat, v.1 = Int64.ofNat N ∧ v.2.1.toInt = r ∧ r < d ∧ M * 2 ^ j = N * d + r ∧ ((v.2.2.toInt = (D : Int) - j ∧ j ≤ D) ∨ (v.2.2.toInt ≤ 0 ∧ j = D))) (fun v => ∃ N r : Nat, v.1 = Int64.ofNat N ∧ v.2.1.toInt = r ∧ r < d ∧ M * 2 ^ D = N * d + r) ?_ ?_ n _ _ ⟨0, N0, r0, hn, hr, hr1, by omega, Or.inl ⟨by show op.toInt = _; omega, by omega⟩⟩ hn2
  · rintro ⟨v10, v12, v14⟩ s2 ⟨j, N, r, g1, g2, g3, g4, g5⟩ h
    dsimp only at g1 g2 g5
    have h : bl_cd_b dv v10 v12 v14 = .inl s2 := h
    unfold bl_cd_b at h
    split at h
    · cases h
    rename_i c
    have c : ¬ v14.toInt ≤ 0 := fun z => c (bm_ile.mpr z)
    have g5 : v14.toInt = (D : Int) - j ∧ j < D := by omega
    have hS : ∃ s : Nat, (if (10 : Int32) < v14 then (10 : Int32) else v14).toInt = s ∧ 1 ≤ s ∧ s ≤ 10 ∧ ((v14.toInt - 10 = (D : Int) - (j + s : Nat) ∧ j + s ≤ D) ∨ (v14.toInt - 10 ≤ 0 ∧ j + s = D)) := by
      split
      · rename_i c2
        have c2 : (10 : Int) < v14.toInt := bm_ilt.mp c2
        exact ⟨10, by decide, by decide, by decide, Or.inl (by omega)⟩
      · rename_i c2
        have c2 : ¬ (10 : Int) < v14.toInt := fun z => c2 (bm_ilt.mpr z)
        exact ⟨D - j, by omega, by omega, by omega, Or.inr (by omega)⟩
    obtain ⟨s, s1, s2', s3, s4⟩ := hS
    generalize (if (10 : Int32) < v14 then (10 : Int32) else v14) = S at s1 h
    have hp : 2 ^ s ≤ 1024 := Nat.pow_le_pow_right (n := 2) (by decide) s3
    have hrs : r * 2 ^ s ≤ r * 1024 := Nat.mul_le_mul_left r hp
    have hv : v12.toInt * ((2 ^ s : Nat) : Int) = ((r * 2 ^ s : Nat) : Int) := by rw [g2, Int.natCast_mul]
    have e1 : (v12 <<< (S.toInt64 &&& 63)).toInt = ((r * 2 ^ s : Nat) : Int) := by
      rw [bm_shl s1 (by omega) (by rw [hv]; omega) (by rw [hv]; omega), hv]
    generalize v12 <<< (S.toInt64 &&& 63) = X at e1 h
    have e2 : X / dv = Int64.ofNat (r * 2 ^ s / d) := by
      apply bm_ofN
      rw [bm_ldiv (by rw [e1]; omega) (by omega), e1, hd, bm_natdiv]
    have e3 : (X - X / dv * dv).toInt = ((r * 2 ^ s % d : Nat) : Int) := by
      rw [bm_lrem (by rw [e1]; omega) (by omega), e1, hd, bm_natmod]
    have e4 : (v10 <<< (S.toInt64 &&& 63)) + X / dv = Int64.ofNat (N * 2 ^ s + r * 2 ^ s / d) := by
      rw [bm_shlM v10 s1 (by omega), e2, g1, Int64.ofNat_add, Int64.ofNat_mul]
    have e5 : (v14 + (-10 : Int32)).toInt = v14.toInt - 10 := by
      have c10 : (-10 : Int32).toInt = -10 := by decide
      have rv := bm_ri v14
      rw [bm_iadd (by rw [c10]; omega) (by rw [c10]; omega), c10]
      omega
    obtain rfl := Sum.inl.inj h
    refine ⟨j + s, N * 2 ^ s + r * 2 ^ s / d, r * 2 ^ s % d, e4, e3, Nat.mod_lt _ d0, bm_rem s g4, ?_⟩
    show ((v14 + (-10 : Int32)).toInt = _ ∧ _) ∨ ((v14 + (-10 : Int32)).toInt ≤ _ ∧ _)
    rw [e5]
    exact s4
  · rintro ⟨v10, v12, v14⟩ a ⟨j, N, r, g1, g2, g3, g4, g5⟩ h
    dsimp only at g1 g2 g5
    have h : bl_cd_b dv v10 v12 v14 = .inr a := h
    unfold bl_cd_b at h
    split at h
    · rename_i c
      have c : v14.toInt ≤ 0 := bm_ile.mp c
      obtain rfl := Sum.inr.inj h
      have hj : j = D := by omega
      subst hj
      exact ⟨N, r, g1, g2, g3, g4⟩
    · cases h
theorem bm_rem8 {x : Int64} {n : Nat} (h : x.toInt = n) : (x - x / 8 * 8).toInt = ((n % 8 : Nat) : Int) := by
  have c : (8 : Int64).toInt = 8 := by decide
  rw [bm_lrem (by rw [h]; omega) (by rw [c]; omega), h, c]
  omega
theorem bs_rest_1 {sz n0 le0 : Int64} {dd : Int32} {d M N0 r0 D : Nat} (hd : sz.toInt = d) (d0 : 0 < d) (d1 : d ≤ 4611686018427387904) (hn : n0.toInt = ((N0 % 8 : Nat) : Int)) (hr : le0.toInt = r0) (hr1 : r0 < d) (hM : M = N0 * d + r0) (hD : (dd.toInt = D) ∨ (dd.toInt ≤ 0 ∧ D = 0)) : ∃ N r : Nat, (bl_rest_1 dd sz (n0, le0, 0)).1.toInt = ((N % 8 : Nat) : Int) ∧ (bl_rest_1 dd sz (n0, le0, 0)).2.1.toInt = r ∧ r < d ∧ M * 2 ^ D = N * d + r := by
  obtain ⟨n, hn2⟩ := bl_rest_1_ok dd sz (n0, le0, 0)
  have hdd := bm_ri dd
  refine bl_inv (bl_rest_1_st dd sz) (fun v => ∃ j N r : Nat, v.1.toInt = ((N % 8 : Nat) : Int) ∧ v.2.1.toInt = r ∧ r < d ∧ M * 2 ^ j = N * d + r ∧ v.2.2.toInt = j ∧ j ≤ D) (fun v => ∃ N r : Nat, v.1.toInt = ((N % 8 : Nat) : Int) ∧ v.2.1.toInt = r ∧ r < d ∧ M * 2 ^ D = N * d + r) ?_ ?_ n _ _ ⟨0, N0, r0, hn, hr, hr1, by omega, by show (0 : Int32).toInt = ((0 : Nat) : Int); decide, by omega⟩ hn2
  · rintro ⟨v14, v16, v18⟩ s2 ⟨j, N, r, g1, g2, g3, g4, g5, g6⟩ h
    dsimp only at g1 g2 g5
    have h : bl_rest_1_b dd sz v14 v16 v18 = .inl s2 := h
    unfold bl_rest_1_b at h
    split at h
    · cases h
    rename_i c
    have c : ¬ dd.toInt ≤ v18.toInt := fun z => c (bm_ile.mpr z)
    have e1 : (v16 <<< ((1 : Int32).toInt64 &&& 63)).toInt = ((2 * r : Nat) : Int) := bm_shl1 g2 (by omega)
    have c2 : (2 : Int64).toInt = 2 := by decide
    have e2 : (v14 * 2).toInt = ((2 * (N % 8) : Nat) : Int) := by
      rw [bm_lmul (by rw [g1, c2]; omega) (by rw [g1, c2]; omega), g1, c2]
      omega
    have e3 := bm_rem8 e2
    have e4 := bm_inc (v := v18) (by omega)
    have key := bm_rem 1 g4
    generalize v16 <<< ((1 : Int32).toInt64 &&& 63) = X at e1 h
    generalize v14 * 2 - v14 * 2 / 8 * 8 = Y at e3 h
    split at h
    · rename_i cc
      have cc : X.toInt < sz.toInt := bm_llt.mp cc
      obtain rfl := Sum.inl.inj h
      refine ⟨j + 1, 2 * N, 2 * r, ?_, e1, by omega, ?_, ?_, by omega⟩
      · show Y.toInt = _
        rw [e3]; omega
      · rw [Nat.pow_succ, ← Nat.mul_assoc, g4, Nat.add_mul, Nat.mul_right_comm, Nat.mul_comm N 2, Nat.mul_comm r 2]
      · show (v18 + 1).toInt = _
        rw [e4, g5]; omega
    · rename_i cc
      have cc : ¬ X.toInt < sz.toInt := fun z => cc (bm_llt.mpr z)
      have e5 : (Y + 1).toInt = ((2 * (N % 8) % 8 + 1 : Nat) : Int) := by
        rw [bm_ladd (by rw [e3]; show _ ≤ _ + (1 : Int); omega) (by rw [e3]; show _ + (1 : Int) < _; omega), e3]
        show _ + (1 : Int) = _
        omega
      have e6 := bm_rem8 e5
      have e7 : (X - sz).toInt = ((2 * r - d : Nat) : Int) := by
        rw [bm_lsub (by omega) (by omega), e1, hd]
        omega
      obtain rfl := Sum.inl.inj h
      refine ⟨j + 1, 2 * N + 1, 2 * r - d, ?_, e7, by omega, ?_, ?_, by omega⟩
      · show (Y + 1 - (Y + 1) / 8 * 8).toInt = _
        rw [e6]; omega
      · rw [Nat.pow_succ, ← Nat.mul_assoc, g4, Nat.add_mul, Nat.add_mul, Nat.mul_right_comm, Nat.mul_comm N 2]
        omega
      · show (v18 + 1).toInt = _
        rw [e4, g5]; omega
  · rintro ⟨v14, v16, v18⟩ a ⟨j, N, r, g1, g2, g3, g4, g5, g6⟩ h
    dsimp only at g1 g2 g5
    have h : bl_rest_1_b dd sz v14 v16 v18 = .inr a := h
    unfold bl_rest_1_b at h
    split at h
    · rename_i c
      have c : dd.toInt ≤ v18.toInt := bm_ile.mp c
      obtain rfl := Sum.inr.inj h
      have hj : j = D := by omega
      subst hj
      exact ⟨N, r, g1, g2, g3, g4⟩
    · split at h <;> cases h
