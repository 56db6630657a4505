/-! rows of my own: loops as step functions; a comparison of longs with its branch; calls over a world -/
def bl_it {S A : Type} (st : S → S ⊕ A) : Nat → S → Option A
  | 0, _ => none
  | n + 1, s => match st s with
    | .inl s2 => bl_it st n s2
    | .inr a => some a
theorem bl_it_succ {S A : Type} (st : S → S ⊕ A) (n : Nat) (s : S) : bl_it st (n + 1) s = (match st s with | .inl s2 => bl_it st n s2 | .inr a => some a) := rfl
theorem bl_stepL {S A : Type} {st : S → S ⊕ A} {n : Nat} {s s2 : S} {a : A} (e : st s = .inl s2) (h : bl_it st (n + 1) s = some a) : bl_it st n s2 = some a := by rw [bl_it_succ, e] at h; exact h
theorem bl_stepR {S A : Type} {st : S → S ⊕ A} {n : Nat} {s : S} {a b : A} (e : st s = .inr b) (h : bl_it st (n + 1) s = some a) : b = a := by rw [bl_it_succ, e] at h; exact Option.some.inj h
theorem bl_more {S A : Type} (st : S → S ⊕ A) : ∀ (n k : Nat) (s : S) (a : A), bl_it st n s = some a → bl_it st (n + k) s = some a := by
  intro n
  induction n with
  | zero => intro k s a h; cases h
  | succ n ih =>
    intro k s a h
    rw [show n + 1 + k = (n + k) + 1 by omega, bl_it_succ]
    rw [bl_it_succ] at h
    cases hs : st s with
    | inl s2 => rw [hs] at h; exact ih k s2 a h
    | inr b => rw [hs] at h; exact h
theorem bl_det {S A : Type} (st : S → S ⊕ A) {n k : Nat} {s : S} {a b : A} (h1 : bl_it st n s = some a) (h2 : bl_it st k s = some b) : a = b := by
  have e1 := bl_more st n k s a h1
  have e2 := bl_more st k n s b h2
  rw [Nat.add_comm k n, e1] at e2
  exact Option.some.inj e2
/-- what the loop comes to (where it ends) -/
noncomputable def bl_run {S A : Type} (st : S → S ⊕ A) (d : A) (s : S) : A := (Classical.epsilon (α := Option A) (fun o => ∃ n, bl_it st n s = o ∧ o ≠ none)).getD d
theorem bl_run_eq {S A : Type} (st : S → S ⊕ A) (d : A) {n : Nat} {s : S} {a : A} (h : bl_it st n s = some a) : bl_run st d s = a := by
  have hex : ∃ o : Option A, ∃ n, bl_it st n s = o ∧ o ≠ none := ⟨some a, n, h, fun z => by cases z⟩
  obtain ⟨k, h1, h2⟩ := Classical.epsilon_spec hex
  unfold bl_run
  generalize Classical.epsilon (fun o : Option A => ∃ n, bl_it st n s = o ∧ o ≠ none) = o at h1 h2
  cases o with
  | none => exact absurd rfl h2
  | some b => exact bl_det st h1 h
theorem bl_ends {S A : Type} (st : S → S ⊕ A) (mu : S → Nat) (h : ∀ s s2, st s = .inl s2 → mu s2 < mu s) : ∀ (n : Nat) (s : S), mu s < n → ∃ a, bl_it st n s = some a := by
  intro n
  induction n with
  | zero => intro s h0; omega
  | succ n ih =>
    intro s h0
    rw [bl_it_succ]
    cases hs : st s with
    | inl s2 => exact ih s2 (by have := h s s2 hs; omega)
    | inr a => exact ⟨a, rfl⟩
theorem bl_some {S A : Type} (st : S → S ⊕ A) (d : A) (mu : S → Nat) (h : ∀ s s2, st s = .inl s2 → mu s2 < mu s) (s : S) : ∃ n, bl_it st n s = some (bl_run st d s) := by
  obtain ⟨a, ha⟩ := bl_ends st mu h (mu s + 1) s (by omega)
  exact ⟨mu s + 1, by rw [bl_run_eq st d ha]; exact ha⟩
theorem bl_inv {S A : Type} (st : S → S ⊕ A) (I : S → Prop) (P : A → Prop) (hl : ∀ s s2, I s → st s = .inl s2 → I s2) (hr : ∀ s a, I s → st s = .inr a → P a) : ∀ (n : Nat) (s : S) (a : A), I s → bl_it st n s = some a → P a := by
  intro n
  induction n with
  | zero => intro s a _ h; cases h
  | succ n ih =>
    intro s a hi h
    rw [bl_it_succ] at h
    cases hs : st s with
    | inl s2 => rw [hs] at h; exact ih s2 a (hl s s2 hi hs) h
    | inr b =>
      rw [hs] at h
      obtain rfl := Option.some.inj h
      exact hr s b hi hs
/-- the loop's outcome, by an invariant -/
theorem bl_out {S A : Type} (st : S → S ⊕ A) (d : A) (mu : S → Nat) (h : ∀ s s2, st s = .inl s2 → mu s2 < mu s) (I : S → Prop) (P : A → Prop) (hl : ∀ s s2, I s → st s = .inl s2 → I s2) (hr : ∀ s a, I s → st s = .inr a → P a) (s : S) (hs : I s) : P (bl_run st d s) := by
  obtain ⟨n, hn⟩ := bl_some st d mu h s
  exact bl_inv st I P hl hr n s _ hs hn
section BW
variable {p : Program} {l : Launch} {e : Env} {R : Room} {s : State} {m : MethodId} {args : Array Value} {below : List Frame} {meth : Method} {c : Code} {H : Heap} {locs : List Loc} {cells slots : Nat} {Q : State → Prop}
variable {cc : ByteArray} {pc : Nat} {ls : Array Slot} {rest : List Value}
theorem bw_lc_lt (hexec : p.tables.exec = Jvm.exec) (hb : c.code = cc) {x y : Int64} {off : Int} {tgt : Nat} (h1 : decode cc pc = .ok (.lcmp, 1)) (h2 : decode cc (pc + 1) = .ok (.ifCond .lt off, 3)) (ht : ((pc + 1 : Nat) : Int) + off = (tgt : Int)) (kt : x < y → W p l e R s m args below meth c H locs cells slots Q (F0 m tgt ls rest)) (kf : ¬ x < y → W p l e R s m args below meth c H locs cells slots Q (F0 m (pc + 1 + 3) ls rest)) : W p l e R s m args below meth c H locs cells slots Q (F0 m pc ls (.long y :: .long x :: rest)) :=
  W.lcmp hexec hb h1 (lv_if_lt hexec hb h2 ht (fun h => kt ((lg_cmp_lt x y).mp h)) (fun h => kf (fun z => h ((lg_cmp_lt x y).mpr z))))
theorem bw_lc_ge (hexec : p.tables.exec = Jvm.exec) (hb : c.code = cc) {x y : Int64} {off : Int} {tgt : Nat} (h1 : decode cc pc = .ok (.lcmp, 1)) (h2 : decode cc (pc + 1) = .ok (.ifCond .ge off, 3)) (ht : ((pc + 1 : Nat) : Int) + off = (tgt : Int)) (kt : y ≤ x → W p l e R s m args below meth c H locs cells slots Q (F0 m tgt ls rest)) (kf : ¬ y ≤ x → W p l e R s m args below meth c H locs cells slots Q (F0 m (pc + 1 + 3) ls rest)) : W p l e R s m args below meth c H locs cells slots Q (F0 m pc ls (.long y :: .long x :: rest)) :=
  W.lcmp hexec hb h1 (lv_if_ge hexec hb h2 ht (fun h => kt ((lg_cmp_ge x y).mp h)) (fun h => kf (fun z => h ((lg_cmp_ge x y).mpr z))))
theorem bw_lc_gt (hexec : p.tables.exec = Jvm.exec) (hb : c.code = cc) {x y : Int64} {off : Int} {tgt : Nat} (h1 : decode cc pc = .ok (.lcmp, 1)) (h2 : decode cc (pc + 1) = .ok (.ifCond .gt off, 3)) (ht : ((pc + 1 : Nat) : Int) + off = (tgt : Int)) (kt : y < x → W p l e R s m args below meth c H locs cells slots Q (F0 m tgt ls rest)) (kf : ¬ y < x → W p l e R s m args below meth c H locs cells slots Q (F0 m (pc + 1 + 3) ls rest)) : W p l e R s m args below meth c H locs cells slots Q (F0 m pc ls (.long y :: .long x :: rest)) :=
  W.lcmp hexec hb h1 (lv_if_gt hexec hb h2 ht (fun h => kt ((lg_cmp_gt x y).mp h)) (fun h => kf (fun z => h ((lg_cmp_gt x y).mpr z))))
theorem bw_lc_le (hexec : p.tables.exec = Jvm.exec) (hb : c.code = cc) {x y : Int64} {off : Int} {tgt : Nat} (h1 : decode cc pc = .ok (.lcmp, 1)) (h2 : decode cc (pc + 1) = .ok (.ifCond .le off, 3)) (ht : ((pc + 1 : Nat) : Int) + off = (tgt : Int)) (kt : x ≤ y → W p l e R s m args below meth c H locs cells slots Q (F0 m tgt ls rest)) (kf : ¬ x ≤ y → W p l e R s m args below meth c H locs cells slots Q (F0 m (pc + 1 + 3) ls rest)) : W p l e R s m args below meth c H locs cells slots Q (F0 m pc ls (.long y :: .long x :: rest)) :=
  W.lcmp hexec hb h1 (lv_if_le hexec hb h2 ht (fun h => kt ((lg_cmp_le x y).mp h)) (fun h => kf (fun z => h ((lg_cmp_le x y).mpr z))))
theorem bw_lc_eq (hexec : p.tables.exec = Jvm.exec) (hb : c.code = cc) {x y : Int64} {off : Int} {tgt : Nat} (h1 : decode cc pc = .ok (.lcmp, 1)) (h2 : decode cc (pc + 1) = .ok (.ifCond .eq off, 3)) (ht : ((pc + 1 : Nat) : Int) + off = (tgt : Int)) (kt : x = y → W p l e R s m args below meth c H locs cells slots Q (F0 m tgt ls rest)) (kf : ¬ x = y → W p l e R s m args below meth c H locs cells slots Q (F0 m (pc + 1 + 3) ls rest)) : W p l e R s m args below meth c H locs cells slots Q (F0 m pc ls (.long y :: .long x :: rest)) :=
  W.lcmp hexec hb h1 (lv_if_eq hexec hb h2 ht (fun h => kt ((lg_cmp_eq x y).mp h)) (fun h => kf (fun z => h ((lg_cmp_eq x y).mpr z))))
theorem bw_lc_ne (hexec : p.tables.exec = Jvm.exec) (hb : c.code = cc) {x y : Int64} {off : Int} {tgt : Nat} (h1 : decode cc pc = .ok (.lcmp, 1)) (h2 : decode cc (pc + 1) = .ok (.ifCond .ne off, 3)) (ht : ((pc + 1 : Nat) : Int) + off = (tgt : Int)) (kt : ¬ x = y → W p l e R s m args below meth c H locs cells slots Q (F0 m tgt ls rest)) (kf : x = y → W p l e R s m args below meth c H locs cells slots Q (F0 m (pc + 1 + 3) ls rest)) : W p l e R s m args below meth c H locs cells slots Q (F0 m pc ls (.long y :: .long x :: rest)) :=
  W.lcmp hexec hb h1 (lv_if_ne hexec hb h2 ht (fun h => kt (fun z => h ((lg_cmp_eq x y).mpr z))) (fun h => kf ((lg_cmp_eq x y).mp h)))
variable {y : MethodName} {bytes : ByteArray} {maxL nL index n : Nat} {ret : Option FieldType} {ws : List Cond} {rm : Room} {Ts : List Cond} {own C : String} {As st0 : List Value}
theorem bw_csi {v : Int32} (S : CallFix p m c cc nL s args Ts own) (hM : Met l y ws rm (va_Pc As (fun _ => True)) (vp_Si (fun r => r = v)) 0 0 (fun _ => False)) (cw : CallB R s args own index y bytes maxL ret ws rm 0 0 n ∧ (Cond.static y).before args s = true) (hn : As.length = n) (hsize : ls.size = nL) (hstack : st0 = As.reverse ++ rest) (hW : (rest.map fun v => v.category).sum ≤ 8) (hdg : decode cc pc = .ok (.invokestatic index, 3)) (hc : cells ≤ R.cells) (hs : slots ≤ R.slots)
    (kk : W p l e R s m args below meth c H locs cells slots Q (F0 m (pc + 3) ls (.int v :: rest))) : W p l e R s m args below meth c H locs cells slots Q (F0 m pc ls st0) :=
  vp_callSi (W.runS S hM cw ⟨fun a U g mk q => ⟨q.1, trivial⟩, fun U _ _ => ⟨rfl, trivial⟩⟩ rfl hn hsize hstack (lv_room hW) hdg ⟨hc, hs⟩) (fun r hr => by subst hr; exact kk)
theorem bw_csl {v : Int64} (S : CallFix p m c cc nL s args Ts own) (hM : Met l y ws rm (va_Pc As (fun _ => True)) (vp_Sl (fun r => r = v)) 0 0 (fun _ => False)) (cw : CallB R s args own index y bytes maxL ret ws rm 0 0 n ∧ (Cond.static y).before args s = true) (hn : As.length = n) (hsize : ls.size = nL) (hstack : st0 = As.reverse ++ rest) (hW : (rest.map fun v => v.category).sum ≤ 8) (hdg : decode cc pc = .ok (.invokestatic index, 3)) (hc : cells ≤ R.cells) (hs : slots ≤ R.slots)
    (kk : W p l e R s m args below meth c H locs cells slots Q (F0 m (pc + 3) ls (.long v :: rest))) : W p l e R s m args below meth c H locs cells slots Q (F0 m pc ls st0) :=
  vp_callSl (W.runS S hM cw ⟨fun a U g mk q => ⟨q.1, trivial⟩, fun U _ _ => ⟨rfl, trivial⟩⟩ rfl hn hsize hstack (lv_room hW) hdg ⟨hc, hs⟩) (fun r hr => by subst hr; exact kk)
end BW
theorem bw_P1 {D : va_G} {cl : List vw_C} {A : Nat → Prop} {ws : va_W} {q0 b : Nat} {e0 e1 : va_E} {H H1 : Heap} (hP : va_P D cl ws H) (hD : va_D A ws) (he : ws[q0]? = some (b, e0)) (hP1 : va_P D cl [(b, e1)] H1) (hk : ∀ q : Nat, q < H.size → ¬ va_A [(b, e0)] H.size q → H1[q]? = H[q]?) : va_P D cl (ws.set q0 (b, e1)) H1 := by
  intro j q hj
  rw [List.getElem?_set] at hj
  by_cases hq : q0 = j
  · rw [if_pos hq] at hj
    split at hj
    · cases hj; exact hP1 0 _ rfl
    · cases hj
  · rw [if_neg hq] at hj
    have hlt := (hP j q hj).lt
    refine (hP j q hj).kept (hk q.1 hlt (fun z => ?_))
    rcases z with ⟨k, e, h⟩ | h
    · cases k with
      | zero =>
        have h2 : b = q.1 := congrArg Prod.fst (Option.some.inj h)
        exact hq (hD.1 q0 j _ _ he hj h2)
      | succ k => cases h
    · omega
theorem bw_F1 {A0 : Nat → Prop} {ws : va_W} {q0 b : Nat} {e0 : va_E} {H0 H : Heap} {locs : List Loc} (hD : va_D A0 ws) (hS : va_S A0 H0 H locs) (hA : ∀ q, H0.size ≤ q → A0 q) (he : ws[q0]? = some (b, e0)) : ∀ q, va_A [(b, e0)] H.size q → A0 q := by
  intro q h
  rcases h with ⟨k, e, h⟩ | h
  · cases k with
    | zero =>
      have h2 : b = q := congrArg Prod.fst (Option.some.inj h)
      rw [← h2]; exact hD.2 q0 _ he
    | succ k => cases h
  · exact hA q (Nat.le_trans hS.1 h)
theorem bw_W1 {D : va_G} {cl : List vw_C} {ws : va_W} {q0 b : Nat} {e0 : va_E} {H : Heap} (hP : va_P D cl ws H) (he : ws[q0]? = some (b, e0)) : va_P D cl [(b, e0)] H := by
  intro k q hk
  cases k with
  | zero => cases hk; exact hP q0 _ he
  | succ k => cases hk
theorem bw_D1 {b : Nat} {e0 : va_E} : va_D (fun _ => True) [(b, e0)] := by
  refine ⟨fun i j p q hi hj _ => ?_, fun _ _ _ => trivial⟩
  cases i with
  | zero => cases j with
    | zero => rfl
    | succ j => cases hj
  | succ i => cases hi
/-- two cells of a world -/
theorem bw_P2 {D : va_G} {cl : List vw_C} {A : Nat → Prop} {ws : va_W} {q0 q1 b a : Nat} {e0 e1 f0 f1 : va_E} {H H1 : Heap} (hP : va_P D cl ws H) (hD : va_D A ws) (hne : q0 ≠ q1) (he : ws[q0]? = some (b, e0)) (hf : ws[q1]? = some (a, f0)) (hP1 : va_P D cl [(b, e1), (a, f1)] H1) (hk : ∀ q : Nat, q < H.size → ¬ va_A [(b, e0), (a, f0)] H.size q → H1[q]? = H[q]?) : va_P D cl ((ws.set q0 (b, e1)).set q1 (a, f1)) H1 := by
  intro j q hj
  rw [List.getElem?_set] at hj
  by_cases hq1 : q1 = j
  · rw [if_pos hq1] at hj
    split at hj
    · cases hj; exact hP1 1 _ rfl
    · cases hj
  rw [if_neg hq1, List.getElem?_set] at hj
  by_cases hq : q0 = j
  · rw [if_pos hq] at hj
    split at hj
    · cases hj; exact hP1 0 _ rfl
    · cases hj
  · rw [if_neg hq] at hj
    have hlt := (hP j q hj).lt
    refine (hP j q hj).kept (hk q.1 hlt (fun z => ?_))
    rcases z with ⟨k, e, h⟩ | h
    · cases k with
      | zero =>
        have h2 : b = q.1 := congrArg Prod.fst (Option.some.inj h)
        exact hq (hD.1 q0 j _ _ he hj h2)
      | succ k => cases k with
        | zero =>
          have h2 : a = q.1 := congrArg Prod.fst (Option.some.inj h)
          exact hq1 (hD.1 q1 j _ _ hf hj h2)
        | succ k => cases h
    · omega
theorem bw_F2 {A0 : Nat → Prop} {ws : va_W} {q0 q1 b a : Nat} {e0 f0 : va_E} {H0 H : Heap} {locs : List Loc} (hD : va_D A0 ws) (hS : va_S A0 H0 H locs) (hA : ∀ q, H0.size ≤ q → A0 q) (he : ws[q0]? = some (b, e0)) (hf : ws[q1]? = some (a, f0)) : ∀ q, va_A [(b, e0), (a, f0)] H.size q → A0 q := by
  intro q h
  rcases h with ⟨k, e, h⟩ | h
  · cases k with
    | zero =>
      have h2 : b = q := congrArg Prod.fst (Option.some.inj h)
      rw [← h2]; exact hD.2 q0 _ he
    | succ k => cases k with
      | zero =>
        have h2 : a = q := congrArg Prod.fst (Option.some.inj h)
        rw [← h2]; exact hD.2 q1 _ hf
      | succ k => cases h
  · exact hA q (Nat.le_trans hS.1 h)
theorem bw_W2 {D : va_G} {cl : List vw_C} {ws : va_W} {q0 q1 b a : Nat} {e0 f0 : va_E} {H : Heap} (hP : va_P D cl ws H) (he : ws[q0]? = some (b, e0)) (hf : ws[q1]? = some (a, f0)) : va_P D cl [(b, e0), (a, f0)] H := by
  intro k q hk
  cases k with
  | zero => cases hk; exact hP q0 _ he
  | succ k => cases k with
    | zero => cases hk; exact hP q1 _ hf
    | succ k => cases hk
theorem bw_D2 {A : Nat → Prop} {ws : va_W} {q0 q1 b a : Nat} {e0 f0 : va_E} (hD : va_D A ws) (hne : q0 ≠ q1) (he : ws[q0]? = some (b, e0)) (hf : ws[q1]? = some (a, f0)) : va_D (fun _ => True) [(b, e0), (a, f0)] := by
  have hba : b ≠ a := fun z => hne (hD.1 q0 q1 _ _ he hf z)
  refine ⟨fun i j p q hi hj hpq => ?_, fun _ _ _ => trivial⟩
  cases i with
  | zero => cases j with
    | zero => rfl
    | succ j => cases j with
      | zero => cases hi; cases hj; exact absurd hpq hba
      | succ j => cases hj
  | succ i => cases i with
    | zero => cases j with
      | zero => cases hi; cases hj; exact absurd hpq.symm hba
      | succ j => cases j with
        | zero => rfl
        | succ j => cases hj
    | succ i => cases hi
theorem bw_set2 {ws : va_W} {q0 q1 b a : Nat} {e1 f0 : va_E} (hne : q0 ≠ q1) (hf : ws[q1]? = some (a, f0)) : (ws.set q0 (b, e1))[q1]? = some (a, f0) := by
  rw [List.getElem?_set, if_neg hne]; exact hf
/-- a method over one cell: its start; its world behind it -/
abbrev bw_I1 (D : va_G) (cl : List vw_C) (sz b : Nat) (e0 : va_E) (U : State) : Prop := U.heap.size = sz ∧ va_P D cl [(b, e0)] U.heap ∧ va_K D cl [] U ∧ va_D (fun _ => True) [(b, e0)]
abbrev bw_O1 (D : va_G) (cl : List vw_C) (A : Nat → Prop) (b : Nat) (e1 : va_E) (t : State) : Prop := va_P D cl [(b, e1)] t.heap ∧ va_K D cl [] t ∧ va_D A [(b, e1)]
/-- a method over an object and its array of longs -/
abbrev bw_I2 (D : va_G) (cl : List vw_C) (sz b a : Nat) (cA : ClassId) (e0 f0 : va_E) (U : State) : Prop := U.heap.size = sz ∧ va_P D cl [(b, e0), (a, f0)] U.heap ∧ va_K D cl [(cA, .long)] U ∧ va_D (fun _ => True) [(b, e0), (a, f0)]
abbrev bw_O2 (D : va_G) (cl : List vw_C) (A : Nat → Prop) (b a : Nat) (cA : ClassId) (e1 f1 : va_E) (t : State) : Prop := va_P D cl [(b, e1), (a, f1)] t.heap ∧ va_K D cl [(cA, .long)] t ∧ va_D A [(b, e1), (a, f1)]
section BX
variable {p : Program} {l : Launch} {e : Env} {R : Room} {s : State} {m : MethodId} {args : Array Value} {below : List Frame} {meth : Method} {c : Code} {H : Heap} {locs : List Loc} {cells slots : Nat} {Q : State → Prop}
variable {cc : ByteArray} {pc : Nat} {ls : Array Slot} {rest : List Value} {y : MethodName} {bytes : ByteArray} {maxL nL index n : Nat} {ret : Option FieldType} {wsC : List Cond} {rm : Room} {Ts : List Cond} {own C : String} {As st0 : List Value}
variable {D : va_G} {cl : List vw_C} {A0 : Nat → Prop} {H0 : Heap} {ws : va_W} {tys : List (ClassId × FieldType)} {b a : Nat} {ci N : Nat} {T : u_T} {fs : List Value} {f0 : va_E} {cA : ClassId} {S : Type}
theorem bw_vi1 (q0 : Nat) {e1 : S → va_E} {F : Int32 × S} (X : CallFix p m c cc nL s args Ts own)
    (hM : Met l y wsC rm (va_Pc (.ref b :: As) (bw_I1 D cl H.size b (.inr (ci, fs)))) (va_Qi (fun r u => (r, u) = F) (fun u t => bw_O1 D cl (va_A [(b, (.inr (ci, fs)))] H.size) b (e1 u) t) (va_A [(b, (.inr (ci, fs)))] H.size)) 0 0 (va_A [(b, (.inr (ci, fs)))] H.size))
    (cw : CallW R s args own C index y bytes maxL ret wsC rm 0 0 n) (hK : va_K D cl tys s) (hP : va_P D cl ws H) (hD : va_D A0 ws) (hS : va_S A0 H0 H locs) (hA : ∀ q, H0.size ≤ q → A0 q) (he : ws[q0]? = some (b, (.inr (ci, fs)))) (hc : cl[ci]? = some (C, T, N))
    (hn : As.length = n) (hsize : ls.size = nL) (hstack : st0 = As.reverse ++ .ref b :: rest) (hW : (rest.map fun v => v.category).sum ≤ 8) (hdg : decode cc pc = .ok (.invokevirtual index, 3)) (hcl : cells ≤ R.cells) (hsl : slots ≤ R.slots)
    (kk : ∀ (H1 : Heap) (locs1 : List Loc), va_P D cl (ws.set q0 (b, e1 F.2)) H1 → va_D A0 (ws.set q0 (b, e1 F.2)) → va_S A0 H0 H1 locs1 → W p l e R s m args below meth c H1 locs1 cells slots Q (F0 m (pc + 3) ls (.int F.1 :: rest))) : W p l e R s m args below meth c H locs cells slots Q (F0 m pc ls st0) := by
  have hPc := bw_W1 hP he
  have hFc := bw_F1 hD hS hA he
  have hKc : va_K D cl [] s := hK.sub (tys' := []) [] rfl
  refine va_calli (va_runV X hM cw ⟨fun a U g mk q => by obtain ⟨q0, q1, qP, qK, qD⟩ := q; exact ⟨q0, q1, qP, va_K.moved (u := U) (U := U.calling g mk a) (Vm.Alike.refl U.vm) qK, qD⟩, va_recv hK hP hc he, fun U hU hW => ⟨rfl, by rw [hU], by rw [hU]; exact hPc, va_K.moved hW.alike hKc, bw_D1⟩⟩ rfl hn hsize hstack (lv_room hW) hdg ⟨hcl, hsl⟩) hS (fun q _ h => hFc q h) hFc (fun r u t H1 locs1 ht hvm hp hB hz hk hS1 => ?_)
  obtain ⟨hP1, hK1, hD1⟩ := hB
  rw [ht] at hP1
  have h1 : r = F.1 := congrArg Prod.fst hp
  have h2 : u = F.2 := congrArg Prod.snd hp
  subst h1; subst h2
  exact kk H1 locs1 (bw_P1 hP hD he hP1 hk) (hD.set he) hS1
theorem bw_vl1 (q0 : Nat) {e1 : S → va_E} {F : Int64 × S} (X : CallFix p m c cc nL s args Ts own)
    (hM : Met l y wsC rm (va_Pc (.ref b :: As) (bw_I1 D cl H.size b (.inr (ci, fs)))) (va_Ql (fun r u => (r, u) = F) (fun u t => bw_O1 D cl (va_A [(b, (.inr (ci, fs)))] H.size) b (e1 u) t) (va_A [(b, (.inr (ci, fs)))] H.size)) 0 0 (va_A [(b, (.inr (ci, fs)))] H.size))
    (cw : CallW R s args own C index y bytes maxL ret wsC rm 0 0 n) (hK : va_K D cl tys s) (hP : va_P D cl ws H) (hD : va_D A0 ws) (hS : va_S A0 H0 H locs) (hA : ∀ q, H0.size ≤ q → A0 q) (he : ws[q0]? = some (b, (.inr (ci, fs)))) (hc : cl[ci]? = some (C, T, N))
    (hn : As.length = n) (hsize : ls.size = nL) (hstack : st0 = As.reverse ++ .ref b :: rest) (hW : (rest.map fun v => v.category).sum ≤ 8) (hdg : decode cc pc = .ok (.invokevirtual index, 3)) (hcl : cells ≤ R.cells) (hsl : slots ≤ R.slots)
    (kk : ∀ (H1 : Heap) (locs1 : List Loc), va_P D cl (ws.set q0 (b, e1 F.2)) H1 → va_D A0 (ws.set q0 (b, e1 F.2)) → va_S A0 H0 H1 locs1 → W p l e R s m args below meth c H1 locs1 cells slots Q (F0 m (pc + 3) ls (.long F.1 :: rest))) : W p l e R s m args below meth c H locs cells slots Q (F0 m pc ls st0) := by
  have hPc := bw_W1 hP he
  have hFc := bw_F1 hD hS hA he
  have hKc : va_K D cl [] s := hK.sub (tys' := []) [] rfl
  refine va_calll (va_runV X hM cw ⟨fun a U g mk q => by obtain ⟨q0, q1, qP, qK, qD⟩ := q; exact ⟨q0, q1, qP, va_K.moved (u := U) (U := U.calling g mk a) (Vm.Alike.refl U.vm) qK, qD⟩, va_recv hK hP hc he, fun U hU hW => ⟨rfl, by rw [hU], by rw [hU]; exact hPc, va_K.moved hW.alike hKc, bw_D1⟩⟩ rfl hn hsize hstack (lv_room hW) hdg ⟨hcl, hsl⟩) hS (fun q _ h => hFc q h) hFc (fun r u t H1 locs1 ht hvm hp hB hz hk hS1 => ?_)
  obtain ⟨hP1, hK1, hD1⟩ := hB
  rw [ht] at hP1
  have h1 : r = F.1 := congrArg Prod.fst hp
  have h2 : u = F.2 := congrArg Prod.snd hp
  subst h1; subst h2
  exact kk H1 locs1 (bw_P1 hP hD he hP1 hk) (hD.set he) hS1
theorem bw_vv1 (q0 : Nat) {e1 : S → va_E} {F : S} (X : CallFix p m c cc nL s args Ts own)
    (hM : Met l y wsC rm (va_Pc (.ref b :: As) (bw_I1 D cl H.size b (.inr (ci, fs)))) (va_Qv (fun u => u = F) (fun u t => bw_O1 D cl (va_A [(b, (.inr (ci, fs)))] H.size) b (e1 u) t) (va_A [(b, (.inr (ci, fs)))] H.size)) 0 0 (va_A [(b, (.inr (ci, fs)))] H.size))
    (cw : CallW R s args own C index y bytes maxL ret wsC rm 0 0 n) (hK : va_K D cl tys s) (hP : va_P D cl ws H) (hD : va_D A0 ws) (hS : va_S A0 H0 H locs) (hA : ∀ q, H0.size ≤ q → A0 q) (he : ws[q0]? = some (b, (.inr (ci, fs)))) (hc : cl[ci]? = some (C, T, N))
    (hn : As.length = n) (hsize : ls.size = nL) (hstack : st0 = As.reverse ++ .ref b :: rest) (hW : (rest.map fun v => v.category).sum ≤ 8) (hdg : decode cc pc = .ok (.invokevirtual index, 3)) (hcl : cells ≤ R.cells) (hsl : slots ≤ R.slots)
    (kk : ∀ (H1 : Heap) (locs1 : List Loc), va_P D cl (ws.set q0 (b, e1 F)) H1 → va_D A0 (ws.set q0 (b, e1 F)) → va_S A0 H0 H1 locs1 → W p l e R s m args below meth c H1 locs1 cells slots Q (F0 m (pc + 3) ls (rest))) : W p l e R s m args below meth c H locs cells slots Q (F0 m pc ls st0) := by
  have hPc := bw_W1 hP he
  have hFc := bw_F1 hD hS hA he
  have hKc : va_K D cl [] s := hK.sub (tys' := []) [] rfl
  refine va_callv (va_runV X hM cw ⟨fun a U g mk q => by obtain ⟨q0, q1, qP, qK, qD⟩ := q; exact ⟨q0, q1, qP, va_K.moved (u := U) (U := U.calling g mk a) (Vm.Alike.refl U.vm) qK, qD⟩, va_recv hK hP hc he, fun U hU hW => ⟨rfl, by rw [hU], by rw [hU]; exact hPc, va_K.moved hW.alike hKc, bw_D1⟩⟩ rfl hn hsize hstack (lv_room hW) hdg ⟨hcl, hsl⟩) hS (fun q _ h => hFc q h) hFc (fun u t H1 locs1 ht hvm hp hB hz hk hS1 => ?_)
  obtain ⟨hP1, hK1, hD1⟩ := hB
  rw [ht] at hP1
  subst hp
  exact kk H1 locs1 (bw_P1 hP hD he hP1 hk) (hD.set he) hS1
theorem bw_vi2 (q0 q1 t0 : Nat) {e1 f1 : S → va_E} {F : Int32 × S} (X : CallFix p m c cc nL s args Ts own)
    (hM : Met l y wsC rm (va_Pc (.ref b :: As) (bw_I2 D cl H.size b a cA (.inr (ci, fs)) f0)) (va_Qi (fun r u => (r, u) = F) (fun u t => bw_O2 D cl (va_A [(b, (.inr (ci, fs))), (a, f0)] H.size) b a cA (e1 u) (f1 u) t) (va_A [(b, (.inr (ci, fs))), (a, f0)] H.size)) 0 0 (va_A [(b, (.inr (ci, fs))), (a, f0)] H.size))
    (cw : CallW R s args own C index y bytes maxL ret wsC rm 0 0 n) (hK : va_K D cl tys s) (hP : va_P D cl ws H) (hD : va_D A0 ws) (hS : va_S A0 H0 H locs) (hA : ∀ q, H0.size ≤ q → A0 q) (hne : q0 ≠ q1) (he : ws[q0]? = some (b, (.inr (ci, fs)))) (hf : ws[q1]? = some (a, f0)) (ht0 : tys[t0]? = some (cA, .long)) (hc : cl[ci]? = some (C, T, N))
    (hn : As.length = n) (hsize : ls.size = nL) (hstack : st0 = As.reverse ++ .ref b :: rest) (hW : (rest.map fun v => v.category).sum ≤ 8) (hdg : decode cc pc = .ok (.invokevirtual index, 3)) (hcl : cells ≤ R.cells) (hsl : slots ≤ R.slots)
    (kk : ∀ (H1 : Heap) (locs1 : List Loc), va_P D cl ((ws.set q0 (b, e1 F.2)).set q1 (a, f1 F.2)) H1 → va_D A0 ((ws.set q0 (b, e1 F.2)).set q1 (a, f1 F.2)) → va_S A0 H0 H1 locs1 → W p l e R s m args below meth c H1 locs1 cells slots Q (F0 m (pc + 3) ls (.int F.1 :: rest))) : W p l e R s m args below meth c H locs cells slots Q (F0 m pc ls st0) := by
  have hPc := bw_W2 hP he hf
  have hFc := bw_F2 hD hS hA he hf
  have hKc : va_K D cl [(cA, .long)] s := hK.sub (tys' := [(cA, .long)]) [t0] (by simp [ht0])
  refine va_calli (va_runV X hM cw ⟨fun a U g mk q => by obtain ⟨q0, q1, qP, qK, qD⟩ := q; exact ⟨q0, q1, qP, va_K.moved (u := U) (U := U.calling g mk a) (Vm.Alike.refl U.vm) qK, qD⟩, va_recv hK hP hc he, fun U hU hW => ⟨rfl, by rw [hU], by rw [hU]; exact hPc, va_K.moved hW.alike hKc, bw_D2 hD hne he hf⟩⟩ rfl hn hsize hstack (lv_room hW) hdg ⟨hcl, hsl⟩) hS (fun q _ h => hFc q h) hFc (fun r u t H1 locs1 ht hvm hp hB hz hk hS1 => ?_)
  obtain ⟨hP1, hK1, hD1⟩ := hB
  rw [ht] at hP1
  have h1 : r = F.1 := congrArg Prod.fst hp
  have h2 : u = F.2 := congrArg Prod.snd hp
  subst h1; subst h2
  exact kk H1 locs1 (bw_P2 hP hD hne he hf hP1 hk) ((hD.set he).set (bw_set2 hne hf)) hS1
theorem bw_vl2 (q0 q1 t0 : Nat) {e1 f1 : S → va_E} {F : Int64 × S} (X : CallFix p m c cc nL s args Ts own)
    (hM : Met l y wsC rm (va_Pc (.ref b :: As) (bw_I2 D cl H.size b a cA (.inr (ci, fs)) f0)) (va_Ql (fun r u => (r, u) = F) (fun u t => bw_O2 D cl (va_A [(b, (.inr (ci, fs))), (a, f0)] H.size) b a cA (e1 u) (f1 u) t) (va_A [(b, (.inr (ci, fs))), (a, f0)] H.size)) 0 0 (va_A [(b, (.inr (ci, fs))), (a, f0)] H.size))
    (cw : CallW R s args own C index y bytes maxL ret wsC rm 0 0 n) (hK : va_K D cl tys s) (hP : va_P D cl ws H) (hD : va_D A0 ws) (hS : va_S A0 H0 H locs) (hA : ∀ q, H0.size ≤ q → A0 q) (hne : q0 ≠ q1) (he : ws[q0]? = some (b, (.inr (ci, fs)))) (hf : ws[q1]? = some (a, f0)) (ht0 : tys[t0]? = some (cA, .long)) (hc : cl[ci]? = some (C, T, N))
    (hn : As.length = n) (hsize : ls.size = nL) (hstack : st0 = As.reverse ++ .ref b :: rest) (hW : (rest.map fun v => v.category).sum ≤ 8) (hdg : decode cc pc = .ok (.invokevirtual index, 3)) (hcl : cells ≤ R.cells) (hsl : slots ≤ R.slots)
    (kk : ∀ (H1 : Heap) (locs1 : List Loc), va_P D cl ((ws.set q0 (b, e1 F.2)).set q1 (a, f1 F.2)) H1 → va_D A0 ((ws.set q0 (b, e1 F.2)).set q1 (a, f1 F.2)) → va_S A0 H0 H1 locs1 → W p l e R s m args below meth c H1 locs1 cells slots Q (F0 m (pc + 3) ls (.long F.1 :: rest))) : W p l e R s m args below meth c H locs cells slots Q (F0 m pc ls st0) := by
  have hPc := bw_W2 hP he hf
  have hFc := bw_F2 hD hS hA he hf
  have hKc : va_K D cl [(cA, .long)] s := hK.sub (tys' := [(cA, .long)]) [t0] (by simp [ht0])
  refine va_calll (va_runV X hM cw ⟨fun a U g mk q => by obtain ⟨q0, q1, qP, qK, qD⟩ := q; exact ⟨q0, q1, qP, va_K.moved (u := U) (U := U.calling g mk a) (Vm.Alike.refl U.vm) qK, qD⟩, va_recv hK hP hc he, fun U hU hW => ⟨rfl, by rw [hU], by rw [hU]; exact hPc, va_K.moved hW.alike hKc, bw_D2 hD hne he hf⟩⟩ rfl hn hsize hstack (lv_room hW) hdg ⟨hcl, hsl⟩) hS (fun q _ h => hFc q h) hFc (fun r u t H1 locs1 ht hvm hp hB hz hk hS1 => ?_)
  obtain ⟨hP1, hK1, hD1⟩ := hB
  rw [ht] at hP1
  have h1 : r = F.1 := congrArg Prod.fst hp
  have h2 : u = F.2 := congrArg Prod.snd hp
  subst h1; subst h2
  exact kk H1 locs1 (bw_P2 hP hD hne he hf hP1 hk) ((hD.set he).set (bw_set2 hne hf)) hS1
theorem bw_vv2 (q0 q1 t0 : Nat) {e1 f1 : S → va_E} {F : S} (X : CallFix p m c cc nL s args Ts own)
    (hM : Met l y wsC rm (va_Pc (.ref b :: As) (bw_I2 D cl H.size b a cA (.inr (ci, fs)) f0)) (va_Qv (fun u => u = F) (fun u t => bw_O2 D cl (va_A [(b, (.inr (ci, fs))), (a, f0)] H.size) b a cA (e1 u) (f1 u) t) (va_A [(b, (.inr (ci, fs))), (a, f0)] H.size)) 0 0 (va_A [(b, (.inr (ci, fs))), (a, f0)] H.size))
    (cw : CallW R s args own C index y bytes maxL ret wsC rm 0 0 n) (hK : va_K D cl tys s) (hP : va_P D cl ws H) (hD : va_D A0 ws) (hS : va_S A0 H0 H locs) (hA : ∀ q, H0.size ≤ q → A0 q) (hne : q0 ≠ q1) (he : ws[q0]? = some (b, (.inr (ci, fs)))) (hf : ws[q1]? = some (a, f0)) (ht0 : tys[t0]? = some (cA, .long)) (hc : cl[ci]? = some (C, T, N))
    (hn : As.length = n) (hsize : ls.size = nL) (hstack : st0 = As.reverse ++ .ref b :: rest) (hW : (rest.map fun v => v.category).sum ≤ 8) (hdg : decode cc pc = .ok (.invokevirtual index, 3)) (hcl : cells ≤ R.cells) (hsl : slots ≤ R.slots)
    (kk : ∀ (H1 : Heap) (locs1 : List Loc), va_P D cl ((ws.set q0 (b, e1 F)).set q1 (a, f1 F)) H1 → va_D A0 ((ws.set q0 (b, e1 F)).set q1 (a, f1 F)) → va_S A0 H0 H1 locs1 → W p l e R s m args below meth c H1 locs1 cells slots Q (F0 m (pc + 3) ls (rest))) : W p l e R s m args below meth c H locs cells slots Q (F0 m pc ls st0) := by
  have hPc := bw_W2 hP he hf
  have hFc := bw_F2 hD hS hA he hf
  have hKc : va_K D cl [(cA, .long)] s := hK.sub (tys' := [(cA, .long)]) [t0] (by simp [ht0])
  refine va_callv (va_runV X hM cw ⟨fun a U g mk q => by obtain ⟨q0, q1, qP, qK, qD⟩ := q; exact ⟨q0, q1, qP, va_K.moved (u := U) (U := U.calling g mk a) (Vm.Alike.refl U.vm) qK, qD⟩, va_recv hK hP hc he, fun U hU hW => ⟨rfl, by rw [hU], by rw [hU]; exact hPc, va_K.moved hW.alike hKc, bw_D2 hD hne he hf⟩⟩ rfl hn hsize hstack (lv_room hW) hdg ⟨hcl, hsl⟩) hS (fun q _ h => hFc q h) hFc (fun u t H1 locs1 ht hvm hp hB hz hk hS1 => ?_)
  obtain ⟨hP1, hK1, hD1⟩ := hB
  rw [ht] at hP1
  subst hp
  exact kk H1 locs1 (bw_P2 hP hD hne he hf hP1 hk) ((hD.set he).set (bw_set2 hne hf)) hS1
end BX
