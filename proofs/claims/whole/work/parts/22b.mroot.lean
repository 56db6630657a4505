/-! the reference's root: normal form, then a search -/
theorem bm_half2 (v : Int32) : (v / 2).toInt = if 0 ≤ v.toInt then v.toInt / 2 else -((-v.toInt) / 2) := by
  rw [Int32.toInt_div_of_ne_right v 2 (by decide)]
  show v.toInt.tdiv 2 = _
  split
  · rename_i h
    exact Int.tdiv_eq_ediv_of_nonneg h
  · rename_i h
    have e : v.toInt = -(-v.toInt) := by omega
    rw [e, Int.neg_tdiv, Int.tdiv_eq_ediv_of_nonneg (by omega)]
    omega
theorem bm_irem2 (v : Int32) : v - v / 2 * 2 = 0 ↔ v.toInt % 2 = 0 := by
  have r := bm_ri v
  have h := bm_half2 v
  have c : (2 : Int32).toInt = 2 := by decide
  have e1 : (v / 2 * 2).toInt = (v / 2).toInt * 2 := by
    rw [Int32.toInt_mul, c, bm_b32 (by split at h <;> omega) (by split at h <;> omega)]
  have e2 : (v - v / 2 * 2).toInt = v.toInt - (v / 2).toInt * 2 := by
    rw [bm_isub (by rw [e1]; split at h <;> omega) (by rw [e1]; split at h <;> omega), e1]
  rw [bm_ieq, e2]
  show v.toInt - (v / 2).toInt * 2 = 0 ↔ _
  split at h <;> omega
theorem bs_root_1 {m : Int64} {p : Int32} {k : Nat} (h1 : 0 < m.toInt) (k0 : k ≤ 52) (k1 : 4503599627370496 ≤ m.toInt * ((2 ^ k : Nat) : Int)) (k2 : m.toInt * ((2 ^ k : Nat) : Int) < 9007199254740992) (h3 : -1074 ≤ p.toInt) (h4 : p.toInt ≤ 971) : ∃ s : Nat, (bl_root_1 (m, p, 0)).1.toInt = m.toInt * ((2 ^ s : Nat) : Int) ∧ (bl_root_1 (m, p, 0)).2.1.toInt = p.toInt - s ∧ (s : Int) = k + (p.toInt - k) % 2 := by
  obtain ⟨n, hn⟩ := bl_root_1_ok (m, p, 0)
  have hp := bm_ri p
  have big : ∀ s : Nat, 4503599627370496 ≤ m.toInt * ((2 ^ s : Nat) : Int) → k ≤ s := fun s hs => by
    rcases Nat.lt_or_ge s k with z | z
    · have := bm_pw2 (m := m.toInt) (by omega) z
      omega
    · exact z
  have small : ∀ s : Nat, ¬ 4503599627370496 ≤ m.toInt * ((2 ^ s : Nat) : Int) → s < k := fun s hs => by
    rcases Nat.lt_or_ge s k with z | z
    · exact z
    · have := bm_mono (m := m.toInt) (by omega) z
      omega
  refine bl_inv bl_root_1_st (fun v => ∃ s : Nat, v.1.toInt = m.toInt * ((2 ^ s : Nat) : Int) ∧ v.2.1.toInt = p.toInt - s ∧ v.2.2.toInt = s ∧ (s : Int) ≤ k + (p.toInt - k) % 2) (fun v => ∃ s : Nat, v.1.toInt = m.toInt * ((2 ^ s : Nat) : Int) ∧ v.2.1.toInt = p.toInt - s ∧ (s : Int) = k + (p.toInt - k) % 2) ?_ ?_ n (m, p, 0) _ ⟨0, by show m.toInt = _; omega, by show p.toInt = _; omega, by show (0 : Int32).toInt = ((0 : Nat) : Int); decide, by omega⟩ hn
  · rintro ⟨v3, v5, v6⟩ s2 ⟨s, g1, g2, g3, g4⟩ h
    have g1 : v3.toInt = m.toInt * ((2 ^ s : Nat) : Int) := g1
    have g2 : v5.toInt = p.toInt - s := g2
    have g3 : v6.toInt = s := g3
    have g0 : 0 ≤ m.toInt * ((2 ^ s : Nat) : Int) := Int.mul_nonneg (by omega) (Int.natCast_nonneg _)
    have gm : m.toInt * ((2 ^ s : Nat) : Int) < 18014398509481984 := by
      have := bm_mono (m := m.toInt) (s := s) (t := k + 1) (by omega) (by omega)
      rw [bm_pws] at this
      omega
    have b1 : 0 ≤ v3.toInt := by omega
    have b2 : v3.toInt < 4611686018427387904 := by omega
    have b3 : -2147483648 < v5.toInt := by omega
    have b4 : v6.toInt < 2147483647 := by omega
    have h : bl_root_1_b v3 v5 v6 = .inl s2 := h
    unfold bl_root_1_b at h
    have e1 := bm_dbl b1 b2
    have e2 := bm_dec b3
    have e3 := bm_inc b4
    generalize v3 <<< ((1 : Int32).toInt64 &&& 63) = w3 at e1 h
    generalize v5 + (-1 : Int32) = w5 at e2 h
    generalize v6 + (1 : Int32) = w6 at e3 h
    have fin : (s : Int) + 1 ≤ k + (p.toInt - k) % 2 → s2 = (w3, w5, w6) → ∃ s : Nat, s2.1.toInt = m.toInt * ((2 ^ s : Nat) : Int) ∧ s2.2.1.toInt = p.toInt - s ∧ s2.2.2.toInt = s ∧ (s : Int) ≤ k + (p.toInt - k) % 2 := by
      intro z1 z2
      subst z2
      exact ⟨s + 1, by rw [e1, g1, bm_pws], by rw [e2, g2]; omega, by rw [e3, g3]; omega, by omega⟩
    split at h
    · cases h
    split at h
    · rename_i c1 c2
      have c2 : v3.toInt < (4503599627370496 : Int) := bm_llt.mp c2
      have := small s (by omega)
      exact fin (by omega) (Sum.inl.inj h).symm
    split at h
    · cases h
    · rename_i c1 c2 c3
      have c2 : ¬ v3.toInt < (4503599627370496 : Int) := fun z => c2 (bm_llt.mpr z)
      have c3 : ¬ v5.toInt % 2 = 0 := fun z => c3 ((bm_irem2 v5).mpr z)
      have := big s (by omega)
      exact fin (by omega) (Sum.inl.inj h).symm
  · rintro ⟨v3, v5, v6⟩ a ⟨s, g1, g2, g3, g4⟩ h
    have g1 : v3.toInt = m.toInt * ((2 ^ s : Nat) : Int) := g1
    have g2 : v5.toInt = p.toInt - s := g2
    have g3 : v6.toInt = s := g3
    have h : bl_root_1_b v3 v5 v6 = .inr a := h
    unfold bl_root_1_b at h
    split at h
    · rename_i c
      have c : (60 : Int) ≤ v6.toInt := bm_ile.mp c
      omega
    split at h
    · cases h
    split at h
    · rename_i c1 c2 c3
      have c2 : ¬ v3.toInt < (4503599627370496 : Int) := fun z => c2 (bm_llt.mpr z)
      have c3 : v5.toInt % 2 = 0 := (bm_irem2 v5).mp c3
      have := big s (by omega)
      obtain rfl := Sum.inr.inj h
      exact ⟨s, g1, g2, by omega⟩
    · cases h
theorem bs_squareFits (fl qt : Int32) (hi lo a th tl : Int64) (ha0 : 0 ≤ a.toInt) (ha : a.toInt < 18014398509481984) (ht0 : 0 ≤ tl.toInt) (ht : tl.toInt < 18014398509481984) :
    (bg_squareFits fl qt hi lo a th tl).2 = bg_multiply fl qt hi lo a a ∧ ((bg_squareFits fl qt hi lo a th tl).1 = 0 ↔ ¬ a.toInt * a.toInt ≤ th.toInt * 18014398509481984 + tl.toInt) := by
  obtain ⟨m1, m2, m3, m4, m5⟩ := bs_multiply fl qt hi lo a a ha0 ha ha0 ha
  unfold bg_squareFits bg_squareFits_k1
  generalize bg_multiply fl qt hi lo a a = M at *
  rw [← m3]
  split
  · rename_i c
    have c := bm_llt.mp c
    refine ⟨rfl, ?_⟩
    constructor
    · intro z; exact absurd (show (1 : Int32) = 0 from z) (by decide)
    · intro z; omega
  · rename_i c1
    have c1 : ¬ M.2.2.1.toInt < th.toInt := fun z => c1 (bm_llt.mpr z)
    split
    · rename_i c2
      have c2 := bm_leq.mp c2
      split
      · rename_i c3
        have c3 := bm_llt.mp c3
        refine ⟨rfl, ?_⟩
        constructor
        · intro _; omega
        · intro _; rfl
      · rename_i c3
        have c3 : ¬ tl.toInt < M.2.2.2.toInt := fun z => c3 (bm_llt.mpr z)
        refine ⟨rfl, ?_⟩
        constructor
        · intro z; exact absurd (show (1 : Int32) = 0 from z) (by decide)
        · intro z; omega
    · rename_i c2
      have c2 : ¬ M.2.2.1.toInt = th.toInt := fun z => c2 (bm_leq.mpr z)
      refine ⟨rfl, ?_⟩
      constructor
      · intro _; omega
      · intro _; rfl
theorem bm_mid {a b : Int64} {E : Nat} (h0 : 0 ≤ a.toInt) (h1 : b.toInt = a.toInt + 2 * E) (h2 : b.toInt < 1152921504606846976) : ((a + b) >>> ((1 : Int32).toInt64 &&& 63)).toInt = a.toInt + E := by
  rw [bm_shr (a + b) (j := 1) (by decide) (by decide), bm_ladd (by omega) (by omega), h1]
  show (_ : Int) / (2 : Int) = _
  omega
theorem bs_root_2 {th tl : Int64} {fl qt : Int32} {hi lo : Int64} {T : Int} (hT : th.toInt * 18014398509481984 + tl.toInt = T) (ht0 : 0 ≤ tl.toInt) (ht : tl.toInt < 18014398509481984) (h1 : 4503599627370496 * 4503599627370496 ≤ T) (h2 : T < 9007199254740992 * 9007199254740992) :
    ∃ a : Int, (bl_root_2 th tl (4503599627370496, 9007199254740992, 0, fl, qt, hi, lo)).1.toInt = a ∧ 4503599627370496 ≤ a ∧ a < 9007199254740992 ∧ a * a ≤ T ∧ T < (a + 1) * (a + 1) ∧ (bl_root_2 th tl (4503599627370496, 9007199254740992, 0, fl, qt, hi, lo)).2.2.2.1 = fl ∧ (bl_root_2 th tl (4503599627370496, 9007199254740992, 0, fl, qt, hi, lo)).2.2.2.2.1 = qt := by
  obtain ⟨n, hn⟩ := bl_root_2_ok th tl (4503599627370496, 9007199254740992, 0, fl, qt, hi, lo)
  refine bl_inv (bl_root_2_st th tl) (fun v => ∃ j : Nat, v.2.2.1.toInt = j ∧ j ≤ 52 ∧ v.2.1.toInt = v.1.toInt + ((2 ^ (52 - j) : Nat) : Int) ∧ 4503599627370496 ≤ v.1.toInt ∧ v.2.1.toInt ≤ 9007199254740992 ∧ v.1.toInt * v.1.toInt ≤ T ∧ T < v.2.1.toInt * v.2.1.toInt ∧ v.2.2.2.1 = fl ∧ v.2.2.2.2.1 = qt) (fun v => ∃ a : Int, v.1.toInt = a ∧ 4503599627370496 ≤ a ∧ a < 9007199254740992 ∧ a * a ≤ T ∧ T < (a + 1) * (a + 1) ∧ v.2.2.2.1 = fl ∧ v.2.2.2.2.1 = qt) ?_ ?_ n _ _ ⟨0, by show (0 : Int32).toInt = ((0 : Nat) : Int); decide, by decide, by show (9007199254740992 : Int64).toInt = (4503599627370496 : Int64).toInt + ((2 ^ (52 - 0) : Nat) : Int); decide, by show (4503599627370496 : Int) ≤ (4503599627370496 : Int64).toInt; decide, by show (9007199254740992 : Int64).toInt ≤ (9007199254740992 : Int); decide, by show (4503599627370496 : Int64).toInt * (4503599627370496 : Int64).toInt ≤ T; rw [show (4503599627370496 : Int64).toInt = 4503599627370496 by decide]; exact h1, by show T < (9007199254740992 : Int64).toInt * (9007199254740992 : Int64).toInt; rw [show (9007199254740992 : Int64).toInt = 9007199254740992 by decide]; exact h2, rfl, rfl⟩ hn
  · rintro ⟨v10, v12, v14, f0, f1, f2, f3⟩ s2 ⟨j, g1, g2, g3, g4, g5, g6, g7, g8, g9⟩ h
    dsimp only at g1 g3 g4 g5 g6 g7 g8 g9
    subst g8; subst g9
    have h : bl_root_2_b th tl v10 v12 v14 f0 f1 f2 f3 = .inl s2 := h
    unfold bl_root_2_b at h
    split at h
    · cases h
    split at h
    · cases h
    rename_i c1 c2
    have hp0 : (0 : Int) < ((2 ^ (52 - j) : Nat) : Int) := Int.ofNat_lt.mpr (Nat.two_pow_pos _)
    have c2 : ¬ v12.toInt - v10.toInt ≤ 1 := fun z => c2 (bm_lle.mpr (by rw [bm_lsub (by omega) (by omega)]; exact z))
    have hj : j < 52 := by
      rcases Nat.lt_or_ge j 52 with z | z
      · exact z
      · have : j = 52 := by omega
        subst this
        have : ((2 ^ (52 - 52) : Nat) : Int) = 1 := by decide
        omega
    have hE : ((2 ^ (52 - j) : Nat) : Int) = 2 * ((2 ^ (51 - j) : Nat) : Int) := by
      rw [show 52 - j = (51 - j) + 1 by omega, Nat.pow_succ, Int.natCast_mul, Int.mul_comm]
      rfl
    have hp : (0 : Int) < ((2 ^ (51 - j) : Nat) : Int) := Int.ofNat_lt.mpr (Nat.two_pow_pos _)
    have em := bm_mid (a := v10) (b := v12) (E := 2 ^ (51 - j)) (by omega) (by omega) (by omega)
    have e3 := bm_inc (v := v14) (by omega)
    generalize (v10 + v12) >>> ((1 : Int32).toInt64 &&& 63) = mid at em h
    obtain ⟨q1, q2⟩ := bs_squareFits f0 f1 f2 f3 mid th tl (by omega) (by omega) ht0 ht
    obtain ⟨m1, m2, m3, m4, m5⟩ := bs_multiply f0 f1 f2 f3 mid mid (by omega) (by omega) (by omega) (by omega)
    rw [← q1] at m1 m2
    split at h
    · rename_i c
      have c := q2.mp c
      obtain rfl := Sum.inl.inj h
      refine ⟨j + 1, ?_, by omega, ?_, g4, ?_, g6, by show T < mid.toInt * mid.toInt; omega, m1, m2⟩
      · show (v14 + 1).toInt = _
        rw [e3, g1]; omega
      · show mid.toInt = v10.toInt + ((2 ^ (52 - (j + 1)) : Nat) : Int)
        rw [show 52 - (j + 1) = 51 - j by omega]; exact em
      · show mid.toInt ≤ _
        omega
    · rename_i c
      have c : mid.toInt * mid.toInt ≤ th.toInt * 18014398509481984 + tl.toInt := Classical.byContradiction fun z => c (q2.mpr z)
      obtain rfl := Sum.inl.inj h
      refine ⟨j + 1, ?_, by omega, ?_, ?_, g5, by rw [← hT]; exact c, g7, m1, m2⟩
      · show (v14 + 1).toInt = _
        rw [e3, g1]; omega
      · show v12.toInt = mid.toInt + ((2 ^ (52 - (j + 1)) : Nat) : Int)
        rw [show 52 - (j + 1) = 51 - j by omega]; omega
      · show _ ≤ mid.toInt
        omega
  · rintro ⟨v10, v12, v14, f0, f1, f2, f3⟩ a ⟨j, g1, g2, g3, g4, g5, g6, g7, g8, g9⟩ h
    dsimp only at g1 g3 g4 g5 g6 g7 g8 g9
    have h : bl_root_2_b th tl v10 v12 v14 f0 f1 f2 f3 = .inr a := h
    have hp : (0 : Int) < ((2 ^ (52 - j) : Nat) : Int) := Int.ofNat_lt.mpr (Nat.two_pow_pos _)
    unfold bl_root_2_b at h
    split at h
    · rename_i c
      have c : (60 : Int) ≤ v14.toInt := bm_ile.mp c
      omega
    split at h
    · rename_i c1 c2
      have c2 : v12.toInt - v10.toInt ≤ 1 := by have := bm_lle.mp c2; rw [bm_lsub (by omega) (by omega)] at this; exact this
      obtain rfl := Sum.inr.inj h
      have hv : v12.toInt = v10.toInt + 1 := by omega
      rw [hv] at g7
      exact ⟨v10.toInt, rfl, g4, by omega, g6, g7, g8, g9⟩
    · split at h <;> cases h
