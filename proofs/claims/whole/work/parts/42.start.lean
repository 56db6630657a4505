set_option maxHeartbeats 8000000 in
set_option maxRecDepth 100000 in
theorem whole_start {p : Program} {e : Env} {s : State} {m : MethodId} {below : List Frame} {meth : Method} {c : Code} (l : Launch) {b L : Nat} {xs : Nat → Int32} (hL : L ≤ 2560) (C0 : lw_At p s m meth c b L xs) : W p l e room_1 s m #[Value.ref b] below meth c s.heap [] 0 0 (lw_Z below #[Value.ref b] s) (entryFrame m ([Value.ref b] : List Value).toArray 4) := by
  obtain ⟨hx, hb, hr, hml, hown, hts0, hXs, hbl, hlocks, hgv⟩ := C0
  have hb : c.code = cL_law := hb
  have hown : s.vm.findClass RL = some m.cls := hown
  have hts : ∀ w ∈ wsL_law, w.before #[Value.ref b] s = true := fun w h => hts0 w (wsL_law_in w h)
  obtain ⟨cC0, iS0, k0⟩ := u_known hts inlX0 (hts (.instantiable RX0 3) (by decide +kernel))
  obtain ⟨cC1, iS1, k1⟩ := u_known hts inlX1 (hts (.instantiable RX1 5) (by decide +kernel))
  obtain ⟨dC, hdC⟩ : ∃ dC : Nat → ClassId, dC = fun n => if n = 0 then cC0 else cC1 := ⟨_, rfl⟩
  obtain ⟨dI, hdI⟩ : ∃ dI : Nat → Nat → Nat, dI = fun n => if n = 0 then iS0 else iS1 := ⟨_, rfl⟩
  have hK : va_K (dC, dI) vwCl [] s := by
    refine ⟨fun n q hq => ?_, fun n q hq => by cases hq⟩
    match n, hq with
    | 0, hq =>
      obtain rfl := Option.some.inj hq
      have e1 : dC 0 = cC0 := by rw [hdC]; rfl
      have e2 : dI 0 = iS0 := by rw [hdI]; rfl
      show u_Kn s RX0 TX0 3 (dC 0) (dI 0)
      rw [e1, e2]; exact k0
    | 1, hq =>
      obtain rfl := Option.some.inj hq
      have e1 : dC 1 = cC1 := by rw [hdC]; rfl
      have e2 : dI 1 = iS1 := by rw [hdI]; rfl
      show u_Kn s RX1 TX1 5 (dC 1) (dI 1)
      rw [e1, e2]; exact k1
    | n + 2, hq => cases hq
  clear hdC hdI k0 k1
  obtain ⟨A, hAe⟩ : ∃ A : Nat → Prop, A = fun q => s.heap.size ≤ q := ⟨_, rfl⟩
  have hA : ∀ q : Nat, s.heap.size ≤ q → A q := fun q h => by rw [hAe]; exact h
  have hAf : ∀ q : Nat, A q → s.heap.size ≤ q := fun q h => by rw [hAe] at h; exact h
  have hbA : ¬ A b := fun h => absurd hbl (Nat.not_lt.mpr (hAf b h))
  have hP : va_P (dC, dI) vwCl [] s.heap := fun n q h => by cases h
  have hD : va_D A [] := ⟨fun i j p q h _ _ => (by cases h), fun n q h => (by cases h)⟩
  have hS : va_S A s.heap s.heap [] := va_S.rf
  have hl := lv_entry ([.ref b]) (n := 4) (Nat.le_of_ble_eq_true rfl)
  rw [lg_entry_eq]
  generalize (lg_sl ([.ref b]) ++ List.replicate (4 - (lg_sl ([.ref b])).length) Slot.unset).toArray = ls at hl ⊢
  have hl : lv_has ls 4 [(0, .ref b)] := hl
  have hc1 : 0 + 1 ≤ room_1.cells := Nat.le_of_ble_eq_true rfl
  have hs1 : 0 + 3 ≤ room_1.slots := Nat.le_of_ble_eq_true rfl
  refine va_new (ci := 0) (fs := [.null, .int 0, .int 0]) (C := RX0) (T := TX0) (N := 3) hx hb hts inlX0 tyX0 tyX0_ok hown (hts (.classLink RL 7 RX0) (by decide +kernel)) (hts (.instantiable RX0 3) (by decide +kernel)) (hts (.initialized RX0) (by decide +kernel)) hK hP hD hS hA rfl (fun j hj => by rcases (show j = 0 ∨ j = 1 ∨ j = 2 by omega) with rfl | rfl | rfl <;> rfl) hc1 hs1 dL_law_0 (fun oX H hP hD hS => ?_)
  have hP : va_P (dC, dI) vwCl [(oX, .inr (0, [.null, .int 0, .int 0]))] H := hP
  have hD : va_D A [(oX, .inr (0, [.null, .int 0, .int 0]))] := hD
  refine W.widen (k := 1) (n := 3) (by omega) (by omega) ?_
  refine lv_dup hx hb dL_law_3 rfl ?_
  have hPc := hP.sub (ws' := [(oX, .inr (0, [.null, .int 0, .int 0]))]) [0] rfl
  have hDc := hD.sub (ws' := [(oX, .inr (0, [.null, .int 0, .int 0]))]) [0] (by decide) rfl
  have hKc := hK.sub (tys' := []) [] rfl
  have hFc := va_free (wc := [(oX, .inr (0, [.null, .int 0, .int 0]))]) hD hS hA [0] rfl
  have hc2 : 1 + 1 ≤ room_1.cells := Nat.le_of_ble_eq_true rfl
  have hs2 : 3 + 8 ≤ room_1.slots := Nat.le_of_ble_eq_true rfl
  refine va_callv (va_runI (As := []) (rest := [.ref oX]) ⟨hx, hb, hml, hown, hts⟩ (bc_init l dC dI oX H.size) (cwI 0 hts ggL_law_X0_init rfl rfl rfl (hts (.initialized RX0) (by decide +kernel)) (hts (.methodLink RL 9 yX0_init) (by decide +kernel)) (hts (.instanceMethod yX0_init) (by decide +kernel)) rfl (by decide +kernel) ⟨Nat.le_of_ble_eq_true rfl, Nat.le_of_ble_eq_true rfl⟩) ⟨fun a U g mk q => by obtain ⟨q0, q1, qP, qK, qD⟩ := q; exact ⟨q0, q1, qP, va_K.moved (u := U) (U := U.calling g mk a) (Vm.Alike.refl U.vm) qK, qD⟩, fun U hU hW => ⟨rfl, by rw [hU], by rw [hU]; exact hPc, va_K.moved hW.alike hKc, hDc.weaken (fun _ _ _ _ => trivial)⟩⟩ rfl rfl hl.1 rfl (lv_room (Nat.le_of_ble_eq_true rfl)) dL_law_4 ⟨hc2, hs2⟩) hS (fun q _ h => hFc q h) hFc (fun u t H1 locs ht hvm hw hB hz1 hk1 hS => ?_)
  obtain ⟨hP1, hK1, hD1⟩ := hB
  rw [ht] at hP1
  have hK1 := va_K.moved hvm.symm hK1
  obtain ⟨aX, cX⟩ := u
  obtain ⟨hP, hD⟩ := va_join (wr := []) (w1 := [(oX, .inr (0, [.ref aX, .int 0, .int 0])), (aX, .inl (cX, 8, .inr (.inl (fun _ => 0))))]) hP hD [0] [] rfl rfl (by decide) (by decide) hk1 hFc hP1 hD1
  have hK := (hK.sub (tys' := []) [] rfl).app hK1
  generalize H1 = H at hP hS ⊢
  have hP : va_P (dC, dI) vwCl [(oX, .inr (0, [.ref aX, .int 0, .int 0])), (aX, .inl (cX, 8, .inr (.inl (fun _ => 0))))] H := hP
  have hD : va_D A [(oX, .inr (0, [.ref aX, .int 0, .int 0])), (aX, .inl (cX, 8, .inr (.inl (fun _ => 0))))] := hD
  have hK : va_K (dC, dI) vwCl [(cX, .long)] s := hK
  refine W.widen (k := 2) (n := 11) (by omega) (by omega) ?_
  refine lv_astore_n (nL := 4) (lv' := [(1, .ref oX), (0, .ref b)]) hx hb dL_law_7 rfl hl (by decide) rfl (fun ls hl => ?_)
  have hc3 : 2 + 1 ≤ room_1.cells := Nat.le_of_ble_eq_true rfl
  have hs3 : 11 + 5 ≤ room_1.slots := Nat.le_of_ble_eq_true rfl
  refine va_new (ci := 1) (fs := [.null, .int 0, .int 0, .long 0, .long 0]) (C := RX1) (T := TX1) (N := 5) hx hb hts inlX1 tyX1 tyX1_ok hown (hts (.classLink RL 10 RX1) (by decide +kernel)) (hts (.instantiable RX1 5) (by decide +kernel)) (hts (.initialized RX1) (by decide +kernel)) hK hP hD hS hA rfl (fun j hj => by rcases (show j = 0 ∨ j = 1 ∨ j = 2 ∨ j = 3 ∨ j = 4 by omega) with rfl | rfl | rfl | rfl | rfl <;> rfl) hc3 hs3 dL_law_8 (fun oM H hP hD hS => ?_)
  have hP : va_P (dC, dI) vwCl [(oX, .inr (0, [.ref aX, .int 0, .int 0])), (aX, .inl (cX, 8, .inr (.inl (fun _ => 0)))), (oM, .inr (1, [.null, .int 0, .int 0, .long 0, .long 0]))] H := hP
  have hD : va_D A [(oX, .inr (0, [.ref aX, .int 0, .int 0])), (aX, .inl (cX, 8, .inr (.inl (fun _ => 0)))), (oM, .inr (1, [.null, .int 0, .int 0, .long 0, .long 0]))] := hD
  refine W.widen (k := 3) (n := 16) (by omega) (by omega) ?_
  refine lv_dup hx hb dL_law_11 rfl ?_
  have hPc := hP.sub (ws' := [(oM, .inr (1, [.null, .int 0, .int 0, .long 0, .long 0]))]) [2] rfl
  have hDc := hD.sub (ws' := [(oM, .inr (1, [.null, .int 0, .int 0, .long 0, .long 0]))]) [2] (by decide) rfl
  have hKc := hK.sub (tys' := []) [] rfl
  have hFc := va_free (wc := [(oM, .inr (1, [.null, .int 0, .int 0, .long 0, .long 0]))]) hD hS hA [2] rfl
  have hc4 : 3 + 1 ≤ room_1.cells := Nat.le_of_ble_eq_true rfl
  have hs4 : 16 + 8 ≤ room_1.slots := Nat.le_of_ble_eq_true rfl
  refine va_callv (va_runI (As := []) (rest := [.ref oM]) ⟨hx, hb, hml, hown, hts⟩ (bd_init l dC dI oM H.size) (cwI 0 hts ggL_law_X1_init rfl rfl rfl (hts (.initialized RX1) (by decide +kernel)) (hts (.methodLink RL 12 yX1_init) (by decide +kernel)) (hts (.instanceMethod yX1_init) (by decide +kernel)) rfl (by decide +kernel) ⟨Nat.le_of_ble_eq_true rfl, Nat.le_of_ble_eq_true rfl⟩) ⟨fun a U g mk q => by obtain ⟨q0, q1, qP, qK, qD⟩ := q; exact ⟨q0, q1, qP, va_K.moved (u := U) (U := U.calling g mk a) (Vm.Alike.refl U.vm) qK, qD⟩, fun U hU hW => ⟨rfl, by rw [hU], by rw [hU]; exact hPc, va_K.moved hW.alike hKc, hDc.weaken (fun _ _ _ _ => trivial)⟩⟩ rfl rfl hl.1 rfl (lv_room (Nat.le_of_ble_eq_true rfl)) dL_law_12 ⟨hc4, hs4⟩) hS (fun q _ h => hFc q h) hFc (fun u t H1 locs ht hvm hw hB hz1 hk1 hS => ?_)
  obtain ⟨hP1, hK1, hD1⟩ := hB
  rw [ht] at hP1
  have hK1 := va_K.moved hvm.symm hK1
  obtain ⟨aM, cM⟩ := u
  obtain ⟨hP, hD⟩ := va_join (wr := [(oX, .inr (0, [.ref aX, .int 0, .int 0])), (aX, .inl (cX, 8, .inr (.inl (fun _ => 0))))]) (w1 := [(oM, .inr (1, [.ref aM, .int 0, .int 0, .long 0, .long 0])), (aM, .inl (cM, 8, .inr (.inl (fun _ => 0))))]) hP hD [2] [0, 1] rfl rfl (by decide) (by decide) hk1 hFc hP1 hD1
  have hK := (hK.sub (tys' := [(cX, .long)]) [0] rfl).app hK1
  generalize H1 = H at hP hS ⊢
  have hP : va_P (dC, dI) vwCl [(oX, .inr (0, [.ref aX, .int 0, .int 0])), (aX, .inl (cX, 8, .inr (.inl (fun _ => 0)))), (oM, .inr (1, [.ref aM, .int 0, .int 0, .long 0, .long 0])), (aM, .inl (cM, 8, .inr (.inl (fun _ => 0))))] H := hP
  have hD : va_D A [(oX, .inr (0, [.ref aX, .int 0, .int 0])), (aX, .inl (cX, 8, .inr (.inl (fun _ => 0)))), (oM, .inr (1, [.ref aM, .int 0, .int 0, .long 0, .long 0])), (aM, .inl (cM, 8, .inr (.inl (fun _ => 0))))] := hD
  have hK : va_K (dC, dI) vwCl [(cX, .long), (cM, .long)] s := hK
  refine W.widen (k := 4) (n := 24) (by omega) (by omega) ?_
  refine lv_astore_n (nL := 4) (lv' := [(2, .ref oM), (1, .ref oX), (0, .ref b)]) hx hb dL_law_15 rfl hl (by decide) rfl (fun ls hl => ?_)
  refine lv_iconst (v := nI 0) hx hb dL_law_16 (by decide) ?_
  refine lv_istore_n (nL := 4) (lv' := [(3, .int (nI 0)), (2, .ref oM), (1, .ref oX), (0, .ref b)]) hx hb dL_law_17 rfl hl (by decide) rfl (fun ls hl => ?_)
  exact wl_loop l hL hx hb hr hml hown hts hXs hbl hbA hlocks hA hAf hK (L + 1) 0 0 0 0 0 (fun _ => 0) ls H locs (by omega) (by omega) (lv_sub hl [3, 2, 1, 0] rfl) hP hD hS
