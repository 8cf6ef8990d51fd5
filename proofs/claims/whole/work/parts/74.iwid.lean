/-! CONSTRUCTORS: Widening, ChipVolts -/
theorem rf_bal {t j : Nat} (ht : t < 6) (hj : j < 11) : rfc (xb t) 11 (wX zC zX (xb t + j)) := by
  rw [wXb _ _ ht hj]
  unfold xbC
  by_cases h0 : j = 0
  · rw [if_pos h0]
    show ∀ i : Nat, Value.ref i ∈ bFs t (x_bal zX t) → xb t ≤ i ∧ i < xb t + 11
    intro i h
    have h : i = xb t + 1 ∨ i = xb t + 9 ∨ i = xb t + 10 := by simpa [bFs] using h
    omega
  rw [if_neg h0]
  by_cases h1 : j = 1
  · rw [if_pos h1]
    show ∀ (j i : Nat), (if j < 7 then some (xb t + 2 + j) else none) = some i → xb t ≤ i ∧ i < xb t + 11
    intro j i h
    by_cases q : j < 7
    · rw [if_pos q] at h
      have := Option.some.inj h
      omega
    · rw [if_neg q] at h; cases h
  rw [if_neg h1]
  by_cases h9 : j = 9
  · rw [if_pos h9]; trivial
  rw [if_neg h9]
  by_cases h10 : j = 10
  · rw [if_pos h10]; trivial
  rw [if_neg h10]; trivial
theorem rf_balr {t : Nat} (ht : t < 6) : ∀ k, xb t ≤ k → k < xb t + 11 → rfc (xb t) 11 (wX zC zX k) := fun k h1 h2 => by
  obtain ⟨j, rfl⟩ : ∃ j, k = xb t + j := ⟨k - xb t, by omega⟩
  exact rf_bal ht (by omega)
theorem rf_net : ∀ k, 1 ≤ k → k < 1 + 6 → rfc 1 6 (wX zC zX k) := fun k h1 h2 => by
  rcases (show k = 1 ∨ k = 2 ∨ k = 3 ∨ k = 4 ∨ k = 5 ∨ k = 6 by omega) with rfl | rfl | rfl | rfl | rfl | rfl
  · show ∀ i : Nat, Value.ref i ∈ nFs zC → 1 ≤ i ∧ i < 1 + 6
    intro i h
    have h : i = 2 ∨ i = 3 ∨ i = 4 ∨ i = 5 ∨ i = 6 := by simpa [nFs] using h
    omega
  all_goals trivial
theorem rf_blk : ∀ k, 7 ≤ k → k < 7 + 4 → rfc 7 4 (wX zC zX k) := fun k h1 h2 => by
  rcases (show k = 7 ∨ k = 8 ∨ k = 9 ∨ k = 10 by omega) with rfl | rfl | rfl | rfl
  · show ∀ i : Nat, Value.ref i ∈ kFs zC → 7 ≤ i ∧ i < 7 + 4
    intro i h
    have h : i = 8 ∨ i = 9 ∨ i = 10 := by simpa [kFs] using h
    omega
  all_goals trivial
theorem rf_wak : ∀ k, 81 ≤ k → k < 81 + 4 → rfc 81 4 (wX zC zX k) := fun k h1 h2 => by
  rcases (show k = 81 ∨ k = 82 ∨ k = 83 ∨ k = 84 by omega) with rfl | rfl | rfl | rfl
  · show ∀ i : Nat, Value.ref i ∈ aFs → 81 ≤ i ∧ i < 81 + 4
    intro i h
    have h : i = 82 ∨ i = 83 ∨ i = 84 := by simpa [aFs] using h
    omega
  all_goals trivial
theorem rf_wid : ∀ k, 33 ≤ k → k < 33 + 48 → rfc 33 48 (wX zC zX k) := fun k h1 h2 => by
  by_cases a : k = 33
  · subst a
    show ∀ i : Nat, Value.ref i ∈ wFs zX → 33 ≤ i ∧ i < 33 + 48
    intro i h
    have h : i = 34 ∨ i = 79 ∨ i = 80 := by simpa [wFs] using h
    omega
  by_cases b : k = 34
  · subst b
    show ∀ (j i : Nat), (if j < 4 then some (xb (2 + j)) else none) = some i → 33 ≤ i ∧ i < 33 + 48
    intro j i h
    by_cases q : j < 4
    · rw [if_pos q] at h
      have := Option.some.inj h
      have h2 := xb_cases (t := 2 + j) (by omega)
      omega
    · rw [if_neg q] at h; cases h
  by_cases d : k < 79
  · have e : ∃ t, 2 ≤ t ∧ t < 6 ∧ xb t ≤ k ∧ k < xb t + 11 := ⟨(k - 13) / 11, by omega, by omega, by have := xb_cases (t := (k - 13) / 11) (by omega); omega, by have := xb_cases (t := (k - 13) / 11) (by omega); omega⟩
    obtain ⟨t, t1, t2, t3, t4⟩ := e
    have h2 := xb_cases t2
    exact rfc_up (by omega) (by omega) (rf_balr t2 k t3 t4)
  · rcases (show k = 79 ∨ k = 80 by omega) with rfl | rfl <;> trivial
theorem bal_at (ws : va_W) {t : Nat} (ht : t < 6) (ad : Nat → Nat) (cA : Nat → ClassId) : (ws ++ xS ad cA (xb t) 11 (wX zC zX))[ws.length]? = some (ad (xb t), .inr (0, (bFs t (x_bal zX t)).map (xv ad))) := by
  rw [List.getElem?_append_right (Nat.le_refl _), Nat.sub_self]
  show some (ad (xb t), xe ad cA (xb t) (wX zC zX (xb t))) = _
  rw [wXb_obj _ _ ht]
  rfl

set_option maxHeartbeats 8000000 in
set_option maxRecDepth 100000 in
theorem cn_X4 (l : Launch) : XN l yX4_init cX4_init 2 2 47 328 xTX.2 4 [.null, .null, .null, .int 0, .int 0, .int 0, .int 0] 33 48 (wX zC zX) := by
  intro D h0 sz
  refine Met.ofW (cc := cX4_init) (maxL := 2) (ret := none) (by decide) rfl ?_
  intro p e s m args below meth c s₁ B hml hv
  obtain ⟨rfl, hsz, hP, hKc, hD0⟩ := hv
  have hx := B.exec
  have hb := B.bytes
  have hr := B.returns
  have hts0 := atoms_spec (ws := xw yX4_init cX4_init 2 none) B.pre
  have hts : ∀ w ∈ xB, w.before _ s = true := fun w hw => hts0 w (List.mem_cons_of_mem _ hw)
  have hown : s.vm.findClass RX4 = some m.cls := findClass_of_methodNamed B.named
  have hlocks := B.notSynchronized
  have hin : meth.name = "<init>" := (name_of_methodNamed B.named B.method).1
  subst hsz
  have hD := hD0.self (sz := s.heap.size)
  generalize hAe : va_A [(h0, .inr (4, [.null, .null, .null, .int 0, .int 0, .int 0, .int 0]))] s.heap.size = A at hD ⊢
  have hA : ∀ q : Nat, s.heap.size ≤ q → A q := fun q h => by rw [← hAe]; exact Or.inr h
  have hS : va_S A s.heap s.heap [] := va_S.rf
  have hK : va_K D vwCl [] s := hKc.nil
  have hl := lv_entry ([.ref h0]) (n := 2) (Nat.le_of_ble_eq_true rfl)
  rw [lg_entry_eq]
  generalize (lg_sl ([.ref h0]) ++ List.replicate (2 - (lg_sl ([.ref h0])).length) Slot.unset).toArray = ls at hl ⊢
  have hl : lv_has ls 2 [(0, .ref h0)] := hl
  have hP : va_P D vwCl ([(h0, .inr (4, [.null, .null, .null, .int 0, .int 0, .int 0, .int 0]))] : va_W) s.heap := hP
  refine lv_aload_n hx hb dX4_init_0 rfl (lv_at hl 0 rfl) ?_
  refine W.objInit hx hb hown (hts _ kw_1_137) (hts _ kw_1_17) (hts _ kw_1_18) rfl (by rw [hml]; exact hl.1) rfl dX4_init_1 (Nat.le_of_ble_eq_true rfl) (Nat.le_of_ble_eq_true rfl) ?_
  refine W.eq (g2 := F0 m 4 ls []) rfl ?_
  refine lv_aload_n hx hb dX4_init_4 rfl (lv_at hl 0 rfl) ?_
  refine lv_iconst (v := 4) hx hb dX4_init_5 (by decide) ?_
  refine va_newq (ws := ([(h0, .inr (4, [.null, .null, .null, .int 0, .int 0, .int 0, .int 0]))] : va_W)) (tys := []) (N' := 4) (C := RX0) hx hb hown (hts _ kw_1_138) hKc.2.2.2 hK hP hD hS hA (by decide) (by decide) (Nat.le_of_ble_eq_true rfl) (Nat.le_of_ble_eq_true rfl) (Nat.le_of_ble_eq_true rfl) dX4_init_6 (fun q6 cq6 H hK hP hD hS => ?_)
  have hP : va_P D vwCl ([(h0, .inr (4, [.null, .null, .null, .int 0, .int 0, .int 0, .int 0])), (q6, .inl (cq6, 4, .inr (.inr (.inr (.inr (fun _ => none))))))] : va_W) H := hP
  have hD : va_D A ([(h0, .inr (4, [.null, .null, .null, .int 0, .int 0, .int 0, .int 0])), (q6, .inl (cq6, 4, .inr (.inr (.inr (.inr (fun _ => none))))))] : va_W) := hD
  have hK : va_K D vwCl [(cq6, .object RX0)] s := hK
  refine va_putF (D := D) (ci := 4) (v := .ref q6) (ty := tyX4 0) (ws := ([(h0, .inr (4, [.null, .null, .null, .int 0, .int 0, .int 0, .int 0])), (q6, .inl (cq6, 4, .inr (.inr (.inr (.inr (fun _ => none))))))] : va_W)) (C := RX4) (T := TX4) (N := 7) hx hb hts xin4 tyX4 tyX4_ok nmX4 hown hK hP hD hS 0 rfl rfl 0 (by decide) (hts _ kw_1_141) (fun _ h9 => h9) rfl hin rfl (by decide +kernel) rfl rfl (Nat.le_of_ble_eq_true rfl) dX4_init_9 (fun H locs hP hD hS => ?_)
  have hP : va_P D vwCl ([(h0, .inr (4, [.ref q6, .null, .null, .int 0, .int 0, .int 0, .int 0])), (q6, .inl (cq6, 4, .inr (.inr (.inr (.inr (fun _ => none))))))] : va_W) H := hP
  have hD : va_D A ([(h0, .inr (4, [.ref q6, .null, .null, .int 0, .int 0, .int 0, .int 0])), (q6, .inl (cq6, 4, .inr (.inr (.inr (.inr (fun _ => none))))))] : va_W) := hD
  refine lv_iconst (v := 0) hx hb dX4_init_12 (by decide) ?_
  refine lv_istore_n (lv' := [(1, .int 0), (0, .ref h0)]) hx hb dX4_init_13 rfl hl (by decide) rfl (fun ls hl => ?_)
  refine lv_iload_n hx hb dX4_init_14 rfl (lv_at hl 0 rfl) ?_
  refine lv_iconst (v := 3) hx hb dX4_init_15 (by decide) ?_
  refine lv_icmp_gt (tgt := 38) hx hb dX4_init_16 rfl (fun h9 => absurd h9 (by decide)) (fun _ => ?_)
  refine lv_aload_n hx hb dX4_init_19 rfl (lv_at hl 1 rfl) ?_
  refine va_get (D := D) (ci := 4) (v := .ref q6) (ws := ([(h0, .inr (4, [.ref q6, .null, .null, .int 0, .int 0, .int 0, .int 0])), (q6, .inl (cq6, 4, .inr (.inr (.inr (.inr (fun _ => none))))))] : va_W)) (C := RX4) (T := TX4) (N := 7) hx hb hts xin4 hown hK hP 0 rfl rfl 0 (by decide) (hts _ kw_1_141) (fun _ h9 => h9) rfl dX4_init_20 ?_
  refine lv_iload_n hx hb dX4_init_23 rfl (lv_at hl 0 rfl) ?_
  refine xnew (ws := ([(h0, .inr (4, [.ref q6, .null, .null, .int 0, .int 0, .int 0, .int 0])), (q6, .inl (cq6, 4, .inr (.inr (.inr (.inr (fun _ => none))))))] : va_W)) (nL := 2) (ci := 0) hx hb hml hown hts hKc hP hD hS hA xc0 kw_1_138 kw_1_102 kw_1_4 (fun j hj => by rcases (show j = 0 ∨ j = 1 ∨ j = 2 ∨ j = 3 ∨ j = 4 by omega) with rfl | rfl | rfl | rfl | rfl <;> rfl) (y := yX0_init) rfl (cn_X0 l (tb := 2) (by decide)) (.inl ⟨_, kw_1_140⟩) kw_1_105 kw_1_104 rfl ⟨by decide +kernel, by decide +kernel, by decide +kernel⟩ (Nat.le_of_ble_eq_true rfl) (Nat.le_of_ble_eq_true rfl) (Nat.le_of_ble_eq_true rfl) (Nat.le_of_ble_eq_true rfl) dX4_init_24 dX4_init_27 dX4_init_28 hl.1 (Nat.le_of_ble_eq_true rfl) (fun ad2 cA2 H locs hP hD hT2 hS => ?_)
  have hP : va_P D vwCl (([(h0, .inr (4, [.ref q6, .null, .null, .int 0, .int 0, .int 0, .int 0])), (q6, .inl (cq6, 4, .inr (.inr (.inr (.inr (fun _ => none))))))] ++ xS ad2 cA2 (xb 2) 11 (wX zC zX)) : va_W) H := hP
  have hD : va_D A (([(h0, .inr (4, [.ref q6, .null, .null, .int 0, .int 0, .int 0, .int 0])), (q6, .inl (cq6, 4, .inr (.inr (.inr (.inr (fun _ => none))))))] ++ xS ad2 cA2 (xb 2) 11 (wX zC zX)) : va_W) := hD
  refine va_astq (ws := (([(h0, .inr (4, [.ref q6, .null, .null, .int 0, .int 0, .int 0, .int 0])), (q6, .inl (cq6, 4, .inr (.inr (.inr (.inr (fun _ => none))))))] ++ xS ad2 cA2 (xb 2) 11 (wX zC zX)) : va_W)) (tys := [(cq6, .object RX0)]) hx hb hK hP hD hS 1 0 (([(h0, .inr (4, [.ref q6, .null, .null, .int 0, .int 0, .int 0, .int 0])), (q6, .inl (cq6, 4, .inr (.inr (.inr (.inr (fun _ => none))))))] : va_W)).length 0 (r := (RX0, TX0, 5)) rfl rfl (bal_at ([(h0, .inr (4, [.ref q6, .null, .null, .int 0, .int 0, .int 0, .int 0])), (q6, .inl (cq6, 4, .inr (.inr (.inr (.inr (fun _ => none))))))] : va_W) (by decide) ad2 cA2) rfl (vi (n := 0) (by decide) (by decide)) dX4_init_31 (fun H locs hP hD hS => ?_)
  have hP : va_P D vwCl (([(h0, .inr (4, [.ref q6, .null, .null, .int 0, .int 0, .int 0, .int 0])), (q6, .inl (cq6, 4, .inr (.inr (.inr (.inr (va_up (fun _ => none) ((0 : Int32)).toNatClampNeg (some (ad2 (xb 2)))))))))] ++ xS ad2 cA2 (xb 2) 11 (wX zC zX)) : va_W) H := hP
  have hD : va_D A (([(h0, .inr (4, [.ref q6, .null, .null, .int 0, .int 0, .int 0, .int 0])), (q6, .inl (cq6, 4, .inr (.inr (.inr (.inr (va_up (fun _ => none) ((0 : Int32)).toNatClampNeg (some (ad2 (xb 2)))))))))] ++ xS ad2 cA2 (xb 2) 11 (wX zC zX)) : va_W) := hD
  refine lv_iinc (k := 0) (x := 0) (v := 1) (lv' := [(1, .int 1), (0, .ref h0)]) hx hb dX4_init_32 hl rfl (by decide) (by decide) rfl (fun ls hl => ?_)
  refine lv_goto (tgt := 14) hx hb dX4_init_35 rfl ?_
  refine lv_iload_n hx hb dX4_init_14 rfl (lv_at hl 0 rfl) ?_
  refine lv_iconst (v := 3) hx hb dX4_init_15 (by decide) ?_
  refine lv_icmp_gt (tgt := 38) hx hb dX4_init_16 rfl (fun h9 => absurd h9 (by decide)) (fun _ => ?_)
  refine lv_aload_n hx hb dX4_init_19 rfl (lv_at hl 1 rfl) ?_
  refine va_get (D := D) (ci := 4) (v := .ref q6) (ws := (([(h0, .inr (4, [.ref q6, .null, .null, .int 0, .int 0, .int 0, .int 0])), (q6, .inl (cq6, 4, .inr (.inr (.inr (.inr (va_up (fun _ => none) ((0 : Int32)).toNatClampNeg (some (ad2 (xb 2)))))))))] ++ xS ad2 cA2 (xb 2) 11 (wX zC zX)) : va_W)) (C := RX4) (T := TX4) (N := 7) hx hb hts xin4 hown hK hP 0 rfl rfl 0 (by decide) (hts _ kw_1_141) (fun _ h9 => h9) rfl dX4_init_20 ?_
  refine lv_iload_n hx hb dX4_init_23 rfl (lv_at hl 0 rfl) ?_
  refine xnew (ws := (([(h0, .inr (4, [.ref q6, .null, .null, .int 0, .int 0, .int 0, .int 0])), (q6, .inl (cq6, 4, .inr (.inr (.inr (.inr (va_up (fun _ => none) ((0 : Int32)).toNatClampNeg (some (ad2 (xb 2)))))))))] ++ xS ad2 cA2 (xb 2) 11 (wX zC zX)) : va_W)) (nL := 2) (ci := 0) hx hb hml hown hts hKc hP hD hS hA xc0 kw_1_138 kw_1_102 kw_1_4 (fun j hj => by rcases (show j = 0 ∨ j = 1 ∨ j = 2 ∨ j = 3 ∨ j = 4 by omega) with rfl | rfl | rfl | rfl | rfl <;> rfl) (y := yX0_init) rfl (cn_X0 l (tb := 3) (by decide)) (.inl ⟨_, kw_1_140⟩) kw_1_105 kw_1_104 rfl ⟨by decide +kernel, by decide +kernel, by decide +kernel⟩ (Nat.le_of_ble_eq_true rfl) (Nat.le_of_ble_eq_true rfl) (Nat.le_of_ble_eq_true rfl) (Nat.le_of_ble_eq_true rfl) dX4_init_24 dX4_init_27 dX4_init_28 hl.1 (Nat.le_of_ble_eq_true rfl) (fun ad3 cA3 H locs hP hD hT3 hS => ?_)
  have hP : va_P D vwCl ((([(h0, .inr (4, [.ref q6, .null, .null, .int 0, .int 0, .int 0, .int 0])), (q6, .inl (cq6, 4, .inr (.inr (.inr (.inr (va_up (fun _ => none) ((0 : Int32)).toNatClampNeg (some (ad2 (xb 2)))))))))] ++ xS ad2 cA2 (xb 2) 11 (wX zC zX)) ++ xS ad3 cA3 (xb 3) 11 (wX zC zX)) : va_W) H := hP
  have hD : va_D A ((([(h0, .inr (4, [.ref q6, .null, .null, .int 0, .int 0, .int 0, .int 0])), (q6, .inl (cq6, 4, .inr (.inr (.inr (.inr (va_up (fun _ => none) ((0 : Int32)).toNatClampNeg (some (ad2 (xb 2)))))))))] ++ xS ad2 cA2 (xb 2) 11 (wX zC zX)) ++ xS ad3 cA3 (xb 3) 11 (wX zC zX)) : va_W) := hD
  refine va_astq (ws := ((([(h0, .inr (4, [.ref q6, .null, .null, .int 0, .int 0, .int 0, .int 0])), (q6, .inl (cq6, 4, .inr (.inr (.inr (.inr (va_up (fun _ => none) ((0 : Int32)).toNatClampNeg (some (ad2 (xb 2)))))))))] ++ xS ad2 cA2 (xb 2) 11 (wX zC zX)) ++ xS ad3 cA3 (xb 3) 11 (wX zC zX)) : va_W)) (tys := [(cq6, .object RX0)]) hx hb hK hP hD hS 1 0 ((([(h0, .inr (4, [.ref q6, .null, .null, .int 0, .int 0, .int 0, .int 0])), (q6, .inl (cq6, 4, .inr (.inr (.inr (.inr (va_up (fun _ => none) ((0 : Int32)).toNatClampNeg (some (ad2 (xb 2)))))))))] ++ xS ad2 cA2 (xb 2) 11 (wX zC zX)) : va_W)).length 0 (r := (RX0, TX0, 5)) rfl rfl (bal_at (([(h0, .inr (4, [.ref q6, .null, .null, .int 0, .int 0, .int 0, .int 0])), (q6, .inl (cq6, 4, .inr (.inr (.inr (.inr (va_up (fun _ => none) ((0 : Int32)).toNatClampNeg (some (ad2 (xb 2)))))))))] ++ xS ad2 cA2 (xb 2) 11 (wX zC zX)) : va_W) (by decide) ad3 cA3) rfl (vi (n := 1) (by decide) (by decide)) dX4_init_31 (fun H locs hP hD hS => ?_)
  have hP : va_P D vwCl ((([(h0, .inr (4, [.ref q6, .null, .null, .int 0, .int 0, .int 0, .int 0])), (q6, .inl (cq6, 4, .inr (.inr (.inr (.inr (va_up (va_up (fun _ => none) ((0 : Int32)).toNatClampNeg (some (ad2 (xb 2)))) ((1 : Int32)).toNatClampNeg (some (ad3 (xb 3)))))))))] ++ xS ad2 cA2 (xb 2) 11 (wX zC zX)) ++ xS ad3 cA3 (xb 3) 11 (wX zC zX)) : va_W) H := hP
  have hD : va_D A ((([(h0, .inr (4, [.ref q6, .null, .null, .int 0, .int 0, .int 0, .int 0])), (q6, .inl (cq6, 4, .inr (.inr (.inr (.inr (va_up (va_up (fun _ => none) ((0 : Int32)).toNatClampNeg (some (ad2 (xb 2)))) ((1 : Int32)).toNatClampNeg (some (ad3 (xb 3)))))))))] ++ xS ad2 cA2 (xb 2) 11 (wX zC zX)) ++ xS ad3 cA3 (xb 3) 11 (wX zC zX)) : va_W) := hD
  refine lv_iinc (k := 0) (x := 1) (v := 2) (lv' := [(1, .int 2), (0, .ref h0)]) hx hb dX4_init_32 hl rfl (by decide) (by decide) rfl (fun ls hl => ?_)
  refine lv_goto (tgt := 14) hx hb dX4_init_35 rfl ?_
  refine lv_iload_n hx hb dX4_init_14 rfl (lv_at hl 0 rfl) ?_
  refine lv_iconst (v := 3) hx hb dX4_init_15 (by decide) ?_
  refine lv_icmp_gt (tgt := 38) hx hb dX4_init_16 rfl (fun h9 => absurd h9 (by decide)) (fun _ => ?_)
  refine lv_aload_n hx hb dX4_init_19 rfl (lv_at hl 1 rfl) ?_
  refine va_get (D := D) (ci := 4) (v := .ref q6) (ws := ((([(h0, .inr (4, [.ref q6, .null, .null, .int 0, .int 0, .int 0, .int 0])), (q6, .inl (cq6, 4, .inr (.inr (.inr (.inr (va_up (va_up (fun _ => none) ((0 : Int32)).toNatClampNeg (some (ad2 (xb 2)))) ((1 : Int32)).toNatClampNeg (some (ad3 (xb 3)))))))))] ++ xS ad2 cA2 (xb 2) 11 (wX zC zX)) ++ xS ad3 cA3 (xb 3) 11 (wX zC zX)) : va_W)) (C := RX4) (T := TX4) (N := 7) hx hb hts xin4 hown hK hP 0 rfl rfl 0 (by decide) (hts _ kw_1_141) (fun _ h9 => h9) rfl dX4_init_20 ?_
  refine lv_iload_n hx hb dX4_init_23 rfl (lv_at hl 0 rfl) ?_
  refine xnew (ws := ((([(h0, .inr (4, [.ref q6, .null, .null, .int 0, .int 0, .int 0, .int 0])), (q6, .inl (cq6, 4, .inr (.inr (.inr (.inr (va_up (va_up (fun _ => none) ((0 : Int32)).toNatClampNeg (some (ad2 (xb 2)))) ((1 : Int32)).toNatClampNeg (some (ad3 (xb 3)))))))))] ++ xS ad2 cA2 (xb 2) 11 (wX zC zX)) ++ xS ad3 cA3 (xb 3) 11 (wX zC zX)) : va_W)) (nL := 2) (ci := 0) hx hb hml hown hts hKc hP hD hS hA xc0 kw_1_138 kw_1_102 kw_1_4 (fun j hj => by rcases (show j = 0 ∨ j = 1 ∨ j = 2 ∨ j = 3 ∨ j = 4 by omega) with rfl | rfl | rfl | rfl | rfl <;> rfl) (y := yX0_init) rfl (cn_X0 l (tb := 4) (by decide)) (.inl ⟨_, kw_1_140⟩) kw_1_105 kw_1_104 rfl ⟨by decide +kernel, by decide +kernel, by decide +kernel⟩ (Nat.le_of_ble_eq_true rfl) (Nat.le_of_ble_eq_true rfl) (Nat.le_of_ble_eq_true rfl) (Nat.le_of_ble_eq_true rfl) dX4_init_24 dX4_init_27 dX4_init_28 hl.1 (Nat.le_of_ble_eq_true rfl) (fun ad4 cA4 H locs hP hD hT4 hS => ?_)
  have hP : va_P D vwCl (((([(h0, .inr (4, [.ref q6, .null, .null, .int 0, .int 0, .int 0, .int 0])), (q6, .inl (cq6, 4, .inr (.inr (.inr (.inr (va_up (va_up (fun _ => none) ((0 : Int32)).toNatClampNeg (some (ad2 (xb 2)))) ((1 : Int32)).toNatClampNeg (some (ad3 (xb 3)))))))))] ++ xS ad2 cA2 (xb 2) 11 (wX zC zX)) ++ xS ad3 cA3 (xb 3) 11 (wX zC zX)) ++ xS ad4 cA4 (xb 4) 11 (wX zC zX)) : va_W) H := hP
  have hD : va_D A (((([(h0, .inr (4, [.ref q6, .null, .null, .int 0, .int 0, .int 0, .int 0])), (q6, .inl (cq6, 4, .inr (.inr (.inr (.inr (va_up (va_up (fun _ => none) ((0 : Int32)).toNatClampNeg (some (ad2 (xb 2)))) ((1 : Int32)).toNatClampNeg (some (ad3 (xb 3)))))))))] ++ xS ad2 cA2 (xb 2) 11 (wX zC zX)) ++ xS ad3 cA3 (xb 3) 11 (wX zC zX)) ++ xS ad4 cA4 (xb 4) 11 (wX zC zX)) : va_W) := hD
  refine va_astq (ws := (((([(h0, .inr (4, [.ref q6, .null, .null, .int 0, .int 0, .int 0, .int 0])), (q6, .inl (cq6, 4, .inr (.inr (.inr (.inr (va_up (va_up (fun _ => none) ((0 : Int32)).toNatClampNeg (some (ad2 (xb 2)))) ((1 : Int32)).toNatClampNeg (some (ad3 (xb 3)))))))))] ++ xS ad2 cA2 (xb 2) 11 (wX zC zX)) ++ xS ad3 cA3 (xb 3) 11 (wX zC zX)) ++ xS ad4 cA4 (xb 4) 11 (wX zC zX)) : va_W)) (tys := [(cq6, .object RX0)]) hx hb hK hP hD hS 1 0 (((([(h0, .inr (4, [.ref q6, .null, .null, .int 0, .int 0, .int 0, .int 0])), (q6, .inl (cq6, 4, .inr (.inr (.inr (.inr (va_up (va_up (fun _ => none) ((0 : Int32)).toNatClampNeg (some (ad2 (xb 2)))) ((1 : Int32)).toNatClampNeg (some (ad3 (xb 3)))))))))] ++ xS ad2 cA2 (xb 2) 11 (wX zC zX)) ++ xS ad3 cA3 (xb 3) 11 (wX zC zX)) : va_W)).length 0 (r := (RX0, TX0, 5)) rfl rfl (bal_at ((([(h0, .inr (4, [.ref q6, .null, .null, .int 0, .int 0, .int 0, .int 0])), (q6, .inl (cq6, 4, .inr (.inr (.inr (.inr (va_up (va_up (fun _ => none) ((0 : Int32)).toNatClampNeg (some (ad2 (xb 2)))) ((1 : Int32)).toNatClampNeg (some (ad3 (xb 3)))))))))] ++ xS ad2 cA2 (xb 2) 11 (wX zC zX)) ++ xS ad3 cA3 (xb 3) 11 (wX zC zX)) : va_W) (by decide) ad4 cA4) rfl (vi (n := 2) (by decide) (by decide)) dX4_init_31 (fun H locs hP hD hS => ?_)
  have hP : va_P D vwCl (((([(h0, .inr (4, [.ref q6, .null, .null, .int 0, .int 0, .int 0, .int 0])), (q6, .inl (cq6, 4, .inr (.inr (.inr (.inr (va_up (va_up (va_up (fun _ => none) ((0 : Int32)).toNatClampNeg (some (ad2 (xb 2)))) ((1 : Int32)).toNatClampNeg (some (ad3 (xb 3)))) ((2 : Int32)).toNatClampNeg (some (ad4 (xb 4)))))))))] ++ xS ad2 cA2 (xb 2) 11 (wX zC zX)) ++ xS ad3 cA3 (xb 3) 11 (wX zC zX)) ++ xS ad4 cA4 (xb 4) 11 (wX zC zX)) : va_W) H := hP
  have hD : va_D A (((([(h0, .inr (4, [.ref q6, .null, .null, .int 0, .int 0, .int 0, .int 0])), (q6, .inl (cq6, 4, .inr (.inr (.inr (.inr (va_up (va_up (va_up (fun _ => none) ((0 : Int32)).toNatClampNeg (some (ad2 (xb 2)))) ((1 : Int32)).toNatClampNeg (some (ad3 (xb 3)))) ((2 : Int32)).toNatClampNeg (some (ad4 (xb 4)))))))))] ++ xS ad2 cA2 (xb 2) 11 (wX zC zX)) ++ xS ad3 cA3 (xb 3) 11 (wX zC zX)) ++ xS ad4 cA4 (xb 4) 11 (wX zC zX)) : va_W) := hD
  refine lv_iinc (k := 0) (x := 2) (v := 3) (lv' := [(1, .int 3), (0, .ref h0)]) hx hb dX4_init_32 hl rfl (by decide) (by decide) rfl (fun ls hl => ?_)
  refine lv_goto (tgt := 14) hx hb dX4_init_35 rfl ?_
  refine lv_iload_n hx hb dX4_init_14 rfl (lv_at hl 0 rfl) ?_
  refine lv_iconst (v := 3) hx hb dX4_init_15 (by decide) ?_
  refine lv_icmp_gt (tgt := 38) hx hb dX4_init_16 rfl (fun h9 => absurd h9 (by decide)) (fun _ => ?_)
  refine lv_aload_n hx hb dX4_init_19 rfl (lv_at hl 1 rfl) ?_
  refine va_get (D := D) (ci := 4) (v := .ref q6) (ws := (((([(h0, .inr (4, [.ref q6, .null, .null, .int 0, .int 0, .int 0, .int 0])), (q6, .inl (cq6, 4, .inr (.inr (.inr (.inr (va_up (va_up (va_up (fun _ => none) ((0 : Int32)).toNatClampNeg (some (ad2 (xb 2)))) ((1 : Int32)).toNatClampNeg (some (ad3 (xb 3)))) ((2 : Int32)).toNatClampNeg (some (ad4 (xb 4)))))))))] ++ xS ad2 cA2 (xb 2) 11 (wX zC zX)) ++ xS ad3 cA3 (xb 3) 11 (wX zC zX)) ++ xS ad4 cA4 (xb 4) 11 (wX zC zX)) : va_W)) (C := RX4) (T := TX4) (N := 7) hx hb hts xin4 hown hK hP 0 rfl rfl 0 (by decide) (hts _ kw_1_141) (fun _ h9 => h9) rfl dX4_init_20 ?_
  refine lv_iload_n hx hb dX4_init_23 rfl (lv_at hl 0 rfl) ?_
  refine xnew (ws := (((([(h0, .inr (4, [.ref q6, .null, .null, .int 0, .int 0, .int 0, .int 0])), (q6, .inl (cq6, 4, .inr (.inr (.inr (.inr (va_up (va_up (va_up (fun _ => none) ((0 : Int32)).toNatClampNeg (some (ad2 (xb 2)))) ((1 : Int32)).toNatClampNeg (some (ad3 (xb 3)))) ((2 : Int32)).toNatClampNeg (some (ad4 (xb 4)))))))))] ++ xS ad2 cA2 (xb 2) 11 (wX zC zX)) ++ xS ad3 cA3 (xb 3) 11 (wX zC zX)) ++ xS ad4 cA4 (xb 4) 11 (wX zC zX)) : va_W)) (nL := 2) (ci := 0) hx hb hml hown hts hKc hP hD hS hA xc0 kw_1_138 kw_1_102 kw_1_4 (fun j hj => by rcases (show j = 0 ∨ j = 1 ∨ j = 2 ∨ j = 3 ∨ j = 4 by omega) with rfl | rfl | rfl | rfl | rfl <;> rfl) (y := yX0_init) rfl (cn_X0 l (tb := 5) (by decide)) (.inl ⟨_, kw_1_140⟩) kw_1_105 kw_1_104 rfl ⟨by decide +kernel, by decide +kernel, by decide +kernel⟩ (Nat.le_of_ble_eq_true rfl) (Nat.le_of_ble_eq_true rfl) (Nat.le_of_ble_eq_true rfl) (Nat.le_of_ble_eq_true rfl) dX4_init_24 dX4_init_27 dX4_init_28 hl.1 (Nat.le_of_ble_eq_true rfl) (fun ad5 cA5 H locs hP hD hT5 hS => ?_)
  have hP : va_P D vwCl ((((([(h0, .inr (4, [.ref q6, .null, .null, .int 0, .int 0, .int 0, .int 0])), (q6, .inl (cq6, 4, .inr (.inr (.inr (.inr (va_up (va_up (va_up (fun _ => none) ((0 : Int32)).toNatClampNeg (some (ad2 (xb 2)))) ((1 : Int32)).toNatClampNeg (some (ad3 (xb 3)))) ((2 : Int32)).toNatClampNeg (some (ad4 (xb 4)))))))))] ++ xS ad2 cA2 (xb 2) 11 (wX zC zX)) ++ xS ad3 cA3 (xb 3) 11 (wX zC zX)) ++ xS ad4 cA4 (xb 4) 11 (wX zC zX)) ++ xS ad5 cA5 (xb 5) 11 (wX zC zX)) : va_W) H := hP
  have hD : va_D A ((((([(h0, .inr (4, [.ref q6, .null, .null, .int 0, .int 0, .int 0, .int 0])), (q6, .inl (cq6, 4, .inr (.inr (.inr (.inr (va_up (va_up (va_up (fun _ => none) ((0 : Int32)).toNatClampNeg (some (ad2 (xb 2)))) ((1 : Int32)).toNatClampNeg (some (ad3 (xb 3)))) ((2 : Int32)).toNatClampNeg (some (ad4 (xb 4)))))))))] ++ xS ad2 cA2 (xb 2) 11 (wX zC zX)) ++ xS ad3 cA3 (xb 3) 11 (wX zC zX)) ++ xS ad4 cA4 (xb 4) 11 (wX zC zX)) ++ xS ad5 cA5 (xb 5) 11 (wX zC zX)) : va_W) := hD
  refine va_astq (ws := ((((([(h0, .inr (4, [.ref q6, .null, .null, .int 0, .int 0, .int 0, .int 0])), (q6, .inl (cq6, 4, .inr (.inr (.inr (.inr (va_up (va_up (va_up (fun _ => none) ((0 : Int32)).toNatClampNeg (some (ad2 (xb 2)))) ((1 : Int32)).toNatClampNeg (some (ad3 (xb 3)))) ((2 : Int32)).toNatClampNeg (some (ad4 (xb 4)))))))))] ++ xS ad2 cA2 (xb 2) 11 (wX zC zX)) ++ xS ad3 cA3 (xb 3) 11 (wX zC zX)) ++ xS ad4 cA4 (xb 4) 11 (wX zC zX)) ++ xS ad5 cA5 (xb 5) 11 (wX zC zX)) : va_W)) (tys := [(cq6, .object RX0)]) hx hb hK hP hD hS 1 0 ((((([(h0, .inr (4, [.ref q6, .null, .null, .int 0, .int 0, .int 0, .int 0])), (q6, .inl (cq6, 4, .inr (.inr (.inr (.inr (va_up (va_up (va_up (fun _ => none) ((0 : Int32)).toNatClampNeg (some (ad2 (xb 2)))) ((1 : Int32)).toNatClampNeg (some (ad3 (xb 3)))) ((2 : Int32)).toNatClampNeg (some (ad4 (xb 4)))))))))] ++ xS ad2 cA2 (xb 2) 11 (wX zC zX)) ++ xS ad3 cA3 (xb 3) 11 (wX zC zX)) ++ xS ad4 cA4 (xb 4) 11 (wX zC zX)) : va_W)).length 0 (r := (RX0, TX0, 5)) rfl rfl (bal_at (((([(h0, .inr (4, [.ref q6, .null, .null, .int 0, .int 0, .int 0, .int 0])), (q6, .inl (cq6, 4, .inr (.inr (.inr (.inr (va_up (va_up (va_up (fun _ => none) ((0 : Int32)).toNatClampNeg (some (ad2 (xb 2)))) ((1 : Int32)).toNatClampNeg (some (ad3 (xb 3)))) ((2 : Int32)).toNatClampNeg (some (ad4 (xb 4)))))))))] ++ xS ad2 cA2 (xb 2) 11 (wX zC zX)) ++ xS ad3 cA3 (xb 3) 11 (wX zC zX)) ++ xS ad4 cA4 (xb 4) 11 (wX zC zX)) : va_W) (by decide) ad5 cA5) rfl (vi (n := 3) (by decide) (by decide)) dX4_init_31 (fun H locs hP hD hS => ?_)
  have hP : va_P D vwCl ((((([(h0, .inr (4, [.ref q6, .null, .null, .int 0, .int 0, .int 0, .int 0])), (q6, .inl (cq6, 4, .inr (.inr (.inr (.inr (va_up (va_up (va_up (va_up (fun _ => none) ((0 : Int32)).toNatClampNeg (some (ad2 (xb 2)))) ((1 : Int32)).toNatClampNeg (some (ad3 (xb 3)))) ((2 : Int32)).toNatClampNeg (some (ad4 (xb 4)))) ((3 : Int32)).toNatClampNeg (some (ad5 (xb 5)))))))))] ++ xS ad2 cA2 (xb 2) 11 (wX zC zX)) ++ xS ad3 cA3 (xb 3) 11 (wX zC zX)) ++ xS ad4 cA4 (xb 4) 11 (wX zC zX)) ++ xS ad5 cA5 (xb 5) 11 (wX zC zX)) : va_W) H := hP
  have hD : va_D A ((((([(h0, .inr (4, [.ref q6, .null, .null, .int 0, .int 0, .int 0, .int 0])), (q6, .inl (cq6, 4, .inr (.inr (.inr (.inr (va_up (va_up (va_up (va_up (fun _ => none) ((0 : Int32)).toNatClampNeg (some (ad2 (xb 2)))) ((1 : Int32)).toNatClampNeg (some (ad3 (xb 3)))) ((2 : Int32)).toNatClampNeg (some (ad4 (xb 4)))) ((3 : Int32)).toNatClampNeg (some (ad5 (xb 5)))))))))] ++ xS ad2 cA2 (xb 2) 11 (wX zC zX)) ++ xS ad3 cA3 (xb 3) 11 (wX zC zX)) ++ xS ad4 cA4 (xb 4) 11 (wX zC zX)) ++ xS ad5 cA5 (xb 5) 11 (wX zC zX)) : va_W) := hD
  refine lv_iinc (k := 0) (x := 3) (v := 4) (lv' := [(1, .int 4), (0, .ref h0)]) hx hb dX4_init_32 hl rfl (by decide) (by decide) rfl (fun ls hl => ?_)
  refine lv_goto (tgt := 14) hx hb dX4_init_35 rfl ?_
  refine lv_iload_n hx hb dX4_init_14 rfl (lv_at hl 0 rfl) ?_
  refine lv_iconst (v := 3) hx hb dX4_init_15 (by decide) ?_
  refine lv_icmp_gt (tgt := 38) hx hb dX4_init_16 rfl (fun _ => ?_) (fun h9 => absurd (by decide) h9)
  refine lv_aload_n hx hb dX4_init_38 rfl (lv_at hl 1 rfl) ?_
  refine lv_bipush (v := 12) hx hb dX4_init_39 (by decide) ?_
  refine va_newa (atype := .int) (ty := .int) (ws := ((((([(h0, .inr (4, [.ref q6, .null, .null, .int 0, .int 0, .int 0, .int 0])), (q6, .inl (cq6, 4, .inr (.inr (.inr (.inr (va_up (va_up (va_up (va_up (fun _ => none) ((0 : Int32)).toNatClampNeg (some (ad2 (xb 2)))) ((1 : Int32)).toNatClampNeg (some (ad3 (xb 3)))) ((2 : Int32)).toNatClampNeg (some (ad4 (xb 4)))) ((3 : Int32)).toNatClampNeg (some (ad5 (xb 5)))))))))] ++ xS ad2 cA2 (xb 2) 11 (wX zC zX)) ++ xS ad3 cA3 (xb 3) 11 (wX zC zX)) ++ xS ad4 cA4 (xb 4) 11 (wX zC zX)) ++ xS ad5 cA5 (xb 5) 11 (wX zC zX)) : va_W)) (tys := [(cq6, .object RX0)]) (N' := 12) (a0 := (12, .inl (fun _ => 0))) hx hb (hts _ kw_1_70) rfl hK hP hD hS hA (fun cA => zI cA 12) (by decide) (by decide) (Nat.le_of_ble_eq_true rfl) (Nat.le_of_ble_eq_true rfl) (Nat.le_of_ble_eq_true rfl) dX4_init_41 (fun q41 cq41 H hK hP hD hS => ?_)
  have hP : va_P D vwCl (((((([(h0, .inr (4, [.ref q6, .null, .null, .int 0, .int 0, .int 0, .int 0])), (q6, .inl (cq6, 4, .inr (.inr (.inr (.inr (va_up (va_up (va_up (va_up (fun _ => none) ((0 : Int32)).toNatClampNeg (some (ad2 (xb 2)))) ((1 : Int32)).toNatClampNeg (some (ad3 (xb 3)))) ((2 : Int32)).toNatClampNeg (some (ad4 (xb 4)))) ((3 : Int32)).toNatClampNeg (some (ad5 (xb 5)))))))))] ++ xS ad2 cA2 (xb 2) 11 (wX zC zX)) ++ xS ad3 cA3 (xb 3) 11 (wX zC zX)) ++ xS ad4 cA4 (xb 4) 11 (wX zC zX)) ++ xS ad5 cA5 (xb 5) 11 (wX zC zX)) ++ [(q41, .inl (cq41, 12, .inl (fun _ => 0)))]) : va_W) H := hP
  have hD : va_D A (((((([(h0, .inr (4, [.ref q6, .null, .null, .int 0, .int 0, .int 0, .int 0])), (q6, .inl (cq6, 4, .inr (.inr (.inr (.inr (va_up (va_up (va_up (va_up (fun _ => none) ((0 : Int32)).toNatClampNeg (some (ad2 (xb 2)))) ((1 : Int32)).toNatClampNeg (some (ad3 (xb 3)))) ((2 : Int32)).toNatClampNeg (some (ad4 (xb 4)))) ((3 : Int32)).toNatClampNeg (some (ad5 (xb 5)))))))))] ++ xS ad2 cA2 (xb 2) 11 (wX zC zX)) ++ xS ad3 cA3 (xb 3) 11 (wX zC zX)) ++ xS ad4 cA4 (xb 4) 11 (wX zC zX)) ++ xS ad5 cA5 (xb 5) 11 (wX zC zX)) ++ [(q41, .inl (cq41, 12, .inl (fun _ => 0)))]) : va_W) := hD
  have hK : va_K D vwCl [(cq6, .object RX0), (cq41, .int)] s := hK
  refine va_putF (D := D) (ci := 4) (v := .ref q41) (ty := tyX4 1) (ws := (((((([(h0, .inr (4, [.ref q6, .null, .null, .int 0, .int 0, .int 0, .int 0])), (q6, .inl (cq6, 4, .inr (.inr (.inr (.inr (va_up (va_up (va_up (va_up (fun _ => none) ((0 : Int32)).toNatClampNeg (some (ad2 (xb 2)))) ((1 : Int32)).toNatClampNeg (some (ad3 (xb 3)))) ((2 : Int32)).toNatClampNeg (some (ad4 (xb 4)))) ((3 : Int32)).toNatClampNeg (some (ad5 (xb 5)))))))))] ++ xS ad2 cA2 (xb 2) 11 (wX zC zX)) ++ xS ad3 cA3 (xb 3) 11 (wX zC zX)) ++ xS ad4 cA4 (xb 4) 11 (wX zC zX)) ++ xS ad5 cA5 (xb 5) 11 (wX zC zX)) ++ [(q41, .inl (cq41, 12, .inl (fun _ => 0)))]) : va_W)) (C := RX4) (T := TX4) (N := 7) hx hb hts xin4 tyX4 tyX4_ok nmX4 hown hK hP hD hS 0 rfl rfl 1 (by decide) (hts _ kw_1_142) (fun _ h9 => h9) rfl hin rfl (by decide +kernel) rfl rfl (Nat.le_of_ble_eq_true rfl) dX4_init_43 (fun H locs hP hD hS => ?_)
  have hP : va_P D vwCl (((((([(h0, .inr (4, [.ref q6, .ref q41, .null, .int 0, .int 0, .int 0, .int 0])), (q6, .inl (cq6, 4, .inr (.inr (.inr (.inr (va_up (va_up (va_up (va_up (fun _ => none) ((0 : Int32)).toNatClampNeg (some (ad2 (xb 2)))) ((1 : Int32)).toNatClampNeg (some (ad3 (xb 3)))) ((2 : Int32)).toNatClampNeg (some (ad4 (xb 4)))) ((3 : Int32)).toNatClampNeg (some (ad5 (xb 5)))))))))] ++ xS ad2 cA2 (xb 2) 11 (wX zC zX)) ++ xS ad3 cA3 (xb 3) 11 (wX zC zX)) ++ xS ad4 cA4 (xb 4) 11 (wX zC zX)) ++ xS ad5 cA5 (xb 5) 11 (wX zC zX)) ++ [(q41, .inl (cq41, 12, .inl (fun _ => 0)))]) : va_W) H := hP
  have hD : va_D A (((((([(h0, .inr (4, [.ref q6, .ref q41, .null, .int 0, .int 0, .int 0, .int 0])), (q6, .inl (cq6, 4, .inr (.inr (.inr (.inr (va_up (va_up (va_up (va_up (fun _ => none) ((0 : Int32)).toNatClampNeg (some (ad2 (xb 2)))) ((1 : Int32)).toNatClampNeg (some (ad3 (xb 3)))) ((2 : Int32)).toNatClampNeg (some (ad4 (xb 4)))) ((3 : Int32)).toNatClampNeg (some (ad5 (xb 5)))))))))] ++ xS ad2 cA2 (xb 2) 11 (wX zC zX)) ++ xS ad3 cA3 (xb 3) 11 (wX zC zX)) ++ xS ad4 cA4 (xb 4) 11 (wX zC zX)) ++ xS ad5 cA5 (xb 5) 11 (wX zC zX)) ++ [(q41, .inl (cq41, 12, .inl (fun _ => 0)))]) : va_W) := hD
  refine lv_aload_n hx hb dX4_init_46 rfl (lv_at hl 1 rfl) ?_
  refine lv_bipush (v := 12) hx hb dX4_init_47 (by decide) ?_
  refine va_newa (atype := .int) (ty := .int) (ws := (((((([(h0, .inr (4, [.ref q6, .ref q41, .null, .int 0, .int 0, .int 0, .int 0])), (q6, .inl (cq6, 4, .inr (.inr (.inr (.inr (va_up (va_up (va_up (va_up (fun _ => none) ((0 : Int32)).toNatClampNeg (some (ad2 (xb 2)))) ((1 : Int32)).toNatClampNeg (some (ad3 (xb 3)))) ((2 : Int32)).toNatClampNeg (some (ad4 (xb 4)))) ((3 : Int32)).toNatClampNeg (some (ad5 (xb 5)))))))))] ++ xS ad2 cA2 (xb 2) 11 (wX zC zX)) ++ xS ad3 cA3 (xb 3) 11 (wX zC zX)) ++ xS ad4 cA4 (xb 4) 11 (wX zC zX)) ++ xS ad5 cA5 (xb 5) 11 (wX zC zX)) ++ [(q41, .inl (cq41, 12, .inl (fun _ => 0)))]) : va_W)) (tys := [(cq6, .object RX0), (cq41, .int)]) (N' := 12) (a0 := (12, .inl (fun _ => 0))) hx hb (hts _ kw_1_70) rfl hK hP hD hS hA (fun cA => zI cA 12) (by decide) (by decide) (Nat.le_of_ble_eq_true rfl) (Nat.le_of_ble_eq_true rfl) (Nat.le_of_ble_eq_true rfl) dX4_init_49 (fun q49 cq49 H hK hP hD hS => ?_)
  have hP : va_P D vwCl ((((((([(h0, .inr (4, [.ref q6, .ref q41, .null, .int 0, .int 0, .int 0, .int 0])), (q6, .inl (cq6, 4, .inr (.inr (.inr (.inr (va_up (va_up (va_up (va_up (fun _ => none) ((0 : Int32)).toNatClampNeg (some (ad2 (xb 2)))) ((1 : Int32)).toNatClampNeg (some (ad3 (xb 3)))) ((2 : Int32)).toNatClampNeg (some (ad4 (xb 4)))) ((3 : Int32)).toNatClampNeg (some (ad5 (xb 5)))))))))] ++ xS ad2 cA2 (xb 2) 11 (wX zC zX)) ++ xS ad3 cA3 (xb 3) 11 (wX zC zX)) ++ xS ad4 cA4 (xb 4) 11 (wX zC zX)) ++ xS ad5 cA5 (xb 5) 11 (wX zC zX)) ++ [(q41, .inl (cq41, 12, .inl (fun _ => 0)))]) ++ [(q49, .inl (cq49, 12, .inl (fun _ => 0)))]) : va_W) H := hP
  have hD : va_D A ((((((([(h0, .inr (4, [.ref q6, .ref q41, .null, .int 0, .int 0, .int 0, .int 0])), (q6, .inl (cq6, 4, .inr (.inr (.inr (.inr (va_up (va_up (va_up (va_up (fun _ => none) ((0 : Int32)).toNatClampNeg (some (ad2 (xb 2)))) ((1 : Int32)).toNatClampNeg (some (ad3 (xb 3)))) ((2 : Int32)).toNatClampNeg (some (ad4 (xb 4)))) ((3 : Int32)).toNatClampNeg (some (ad5 (xb 5)))))))))] ++ xS ad2 cA2 (xb 2) 11 (wX zC zX)) ++ xS ad3 cA3 (xb 3) 11 (wX zC zX)) ++ xS ad4 cA4 (xb 4) 11 (wX zC zX)) ++ xS ad5 cA5 (xb 5) 11 (wX zC zX)) ++ [(q41, .inl (cq41, 12, .inl (fun _ => 0)))]) ++ [(q49, .inl (cq49, 12, .inl (fun _ => 0)))]) : va_W) := hD
  have hK : va_K D vwCl [(cq6, .object RX0), (cq41, .int), (cq49, .int)] s := hK
  refine va_putF (D := D) (ci := 4) (v := .ref q49) (ty := tyX4 2) (ws := ((((((([(h0, .inr (4, [.ref q6, .ref q41, .null, .int 0, .int 0, .int 0, .int 0])), (q6, .inl (cq6, 4, .inr (.inr (.inr (.inr (va_up (va_up (va_up (va_up (fun _ => none) ((0 : Int32)).toNatClampNeg (some (ad2 (xb 2)))) ((1 : Int32)).toNatClampNeg (some (ad3 (xb 3)))) ((2 : Int32)).toNatClampNeg (some (ad4 (xb 4)))) ((3 : Int32)).toNatClampNeg (some (ad5 (xb 5)))))))))] ++ xS ad2 cA2 (xb 2) 11 (wX zC zX)) ++ xS ad3 cA3 (xb 3) 11 (wX zC zX)) ++ xS ad4 cA4 (xb 4) 11 (wX zC zX)) ++ xS ad5 cA5 (xb 5) 11 (wX zC zX)) ++ [(q41, .inl (cq41, 12, .inl (fun _ => 0)))]) ++ [(q49, .inl (cq49, 12, .inl (fun _ => 0)))]) : va_W)) (C := RX4) (T := TX4) (N := 7) hx hb hts xin4 tyX4 tyX4_ok nmX4 hown hK hP hD hS 0 rfl rfl 2 (by decide) (hts _ kw_1_143) (fun _ h9 => h9) rfl hin rfl (by decide +kernel) rfl rfl (Nat.le_of_ble_eq_true rfl) dX4_init_51 (fun H locs hP hD hS => ?_)
  have hP : va_P D vwCl ((((((([(h0, .inr (4, [.ref q6, .ref q41, .ref q49, .int 0, .int 0, .int 0, .int 0])), (q6, .inl (cq6, 4, .inr (.inr (.inr (.inr (va_up (va_up (va_up (va_up (fun _ => none) ((0 : Int32)).toNatClampNeg (some (ad2 (xb 2)))) ((1 : Int32)).toNatClampNeg (some (ad3 (xb 3)))) ((2 : Int32)).toNatClampNeg (some (ad4 (xb 4)))) ((3 : Int32)).toNatClampNeg (some (ad5 (xb 5)))))))))] ++ xS ad2 cA2 (xb 2) 11 (wX zC zX)) ++ xS ad3 cA3 (xb 3) 11 (wX zC zX)) ++ xS ad4 cA4 (xb 4) 11 (wX zC zX)) ++ xS ad5 cA5 (xb 5) 11 (wX zC zX)) ++ [(q41, .inl (cq41, 12, .inl (fun _ => 0)))]) ++ [(q49, .inl (cq49, 12, .inl (fun _ => 0)))]) : va_W) H := hP
  have hD : va_D A ((((((([(h0, .inr (4, [.ref q6, .ref q41, .ref q49, .int 0, .int 0, .int 0, .int 0])), (q6, .inl (cq6, 4, .inr (.inr (.inr (.inr (va_up (va_up (va_up (va_up (fun _ => none) ((0 : Int32)).toNatClampNeg (some (ad2 (xb 2)))) ((1 : Int32)).toNatClampNeg (some (ad3 (xb 3)))) ((2 : Int32)).toNatClampNeg (some (ad4 (xb 4)))) ((3 : Int32)).toNatClampNeg (some (ad5 (xb 5)))))))))] ++ xS ad2 cA2 (xb 2) 11 (wX zC zX)) ++ xS ad3 cA3 (xb 3) 11 (wX zC zX)) ++ xS ad4 cA4 (xb 4) 11 (wX zC zX)) ++ xS ad5 cA5 (xb 5) 11 (wX zC zX)) ++ [(q41, .inl (cq41, 12, .inl (fun _ => 0)))]) ++ [(q49, .inl (cq49, 12, .inl (fun _ => 0)))]) : va_W) := hD
  refine lv_aload_n hx hb dX4_init_54 rfl (lv_at hl 1 rfl) ?_
  refine lv_iconst (v := (-1)) hx hb dX4_init_55 (by decide) ?_
  refine va_put (D := D) (ci := 4) (v := .int (-1)) (ty := tyX4 3) (ws := ((((((([(h0, .inr (4, [.ref q6, .ref q41, .ref q49, .int 0, .int 0, .int 0, .int 0])), (q6, .inl (cq6, 4, .inr (.inr (.inr (.inr (va_up (va_up (va_up (va_up (fun _ => none) ((0 : Int32)).toNatClampNeg (some (ad2 (xb 2)))) ((1 : Int32)).toNatClampNeg (some (ad3 (xb 3)))) ((2 : Int32)).toNatClampNeg (some (ad4 (xb 4)))) ((3 : Int32)).toNatClampNeg (some (ad5 (xb 5)))))))))] ++ xS ad2 cA2 (xb 2) 11 (wX zC zX)) ++ xS ad3 cA3 (xb 3) 11 (wX zC zX)) ++ xS ad4 cA4 (xb 4) 11 (wX zC zX)) ++ xS ad5 cA5 (xb 5) 11 (wX zC zX)) ++ [(q41, .inl (cq41, 12, .inl (fun _ => 0)))]) ++ [(q49, .inl (cq49, 12, .inl (fun _ => 0)))]) : va_W)) (C := RX4) (T := TX4) (N := 7) hx hb hts xin4 tyX4 tyX4_ok nmX4 hown hK hP hD hS 0 rfl rfl 3 (by decide) (hts _ kw_1_145) (fun _ h9 => h9) rfl  (by decide +kernel) rfl rfl (Nat.le_of_ble_eq_true rfl) dX4_init_56 (fun H locs hP hD hS => ?_)
  have hP : va_P D vwCl ((((((([(h0, .inr (4, [.ref q6, .ref q41, .ref q49, .int (-1), .int 0, .int 0, .int 0])), (q6, .inl (cq6, 4, .inr (.inr (.inr (.inr (va_up (va_up (va_up (va_up (fun _ => none) ((0 : Int32)).toNatClampNeg (some (ad2 (xb 2)))) ((1 : Int32)).toNatClampNeg (some (ad3 (xb 3)))) ((2 : Int32)).toNatClampNeg (some (ad4 (xb 4)))) ((3 : Int32)).toNatClampNeg (some (ad5 (xb 5)))))))))] ++ xS ad2 cA2 (xb 2) 11 (wX zC zX)) ++ xS ad3 cA3 (xb 3) 11 (wX zC zX)) ++ xS ad4 cA4 (xb 4) 11 (wX zC zX)) ++ xS ad5 cA5 (xb 5) 11 (wX zC zX)) ++ [(q41, .inl (cq41, 12, .inl (fun _ => 0)))]) ++ [(q49, .inl (cq49, 12, .inl (fun _ => 0)))]) : va_W) H := hP
  have hD : va_D A ((((((([(h0, .inr (4, [.ref q6, .ref q41, .ref q49, .int (-1), .int 0, .int 0, .int 0])), (q6, .inl (cq6, 4, .inr (.inr (.inr (.inr (va_up (va_up (va_up (va_up (fun _ => none) ((0 : Int32)).toNatClampNeg (some (ad2 (xb 2)))) ((1 : Int32)).toNatClampNeg (some (ad3 (xb 3)))) ((2 : Int32)).toNatClampNeg (some (ad4 (xb 4)))) ((3 : Int32)).toNatClampNeg (some (ad5 (xb 5)))))))))] ++ xS ad2 cA2 (xb 2) 11 (wX zC zX)) ++ xS ad3 cA3 (xb 3) 11 (wX zC zX)) ++ xS ad4 cA4 (xb 4) 11 (wX zC zX)) ++ xS ad5 cA5 (xb 5) 11 (wX zC zX)) ++ [(q41, .inl (cq41, 12, .inl (fun _ => 0)))]) ++ [(q49, .inl (cq49, 12, .inl (fun _ => 0)))]) : va_W) := hD
  refine lv_aload_n hx hb dX4_init_59 rfl (lv_at hl 1 rfl) ?_
  refine lv_iconst (v := 0) hx hb dX4_init_60 (by decide) ?_
  refine va_put (D := D) (ci := 4) (v := .int 0) (ty := tyX4 4) (ws := ((((((([(h0, .inr (4, [.ref q6, .ref q41, .ref q49, .int (-1), .int 0, .int 0, .int 0])), (q6, .inl (cq6, 4, .inr (.inr (.inr (.inr (va_up (va_up (va_up (va_up (fun _ => none) ((0 : Int32)).toNatClampNeg (some (ad2 (xb 2)))) ((1 : Int32)).toNatClampNeg (some (ad3 (xb 3)))) ((2 : Int32)).toNatClampNeg (some (ad4 (xb 4)))) ((3 : Int32)).toNatClampNeg (some (ad5 (xb 5)))))))))] ++ xS ad2 cA2 (xb 2) 11 (wX zC zX)) ++ xS ad3 cA3 (xb 3) 11 (wX zC zX)) ++ xS ad4 cA4 (xb 4) 11 (wX zC zX)) ++ xS ad5 cA5 (xb 5) 11 (wX zC zX)) ++ [(q41, .inl (cq41, 12, .inl (fun _ => 0)))]) ++ [(q49, .inl (cq49, 12, .inl (fun _ => 0)))]) : va_W)) (C := RX4) (T := TX4) (N := 7) hx hb hts xin4 tyX4 tyX4_ok nmX4 hown hK hP hD hS 0 rfl rfl 4 (by decide) (hts _ kw_1_146) (fun _ h9 => h9) rfl  (by decide +kernel) rfl rfl (Nat.le_of_ble_eq_true rfl) dX4_init_61 (fun H locs hP hD hS => ?_)
  have hP : va_P D vwCl ((((((([(h0, .inr (4, [.ref q6, .ref q41, .ref q49, .int (-1), .int 0, .int 0, .int 0])), (q6, .inl (cq6, 4, .inr (.inr (.inr (.inr (va_up (va_up (va_up (va_up (fun _ => none) ((0 : Int32)).toNatClampNeg (some (ad2 (xb 2)))) ((1 : Int32)).toNatClampNeg (some (ad3 (xb 3)))) ((2 : Int32)).toNatClampNeg (some (ad4 (xb 4)))) ((3 : Int32)).toNatClampNeg (some (ad5 (xb 5)))))))))] ++ xS ad2 cA2 (xb 2) 11 (wX zC zX)) ++ xS ad3 cA3 (xb 3) 11 (wX zC zX)) ++ xS ad4 cA4 (xb 4) 11 (wX zC zX)) ++ xS ad5 cA5 (xb 5) 11 (wX zC zX)) ++ [(q41, .inl (cq41, 12, .inl (fun _ => 0)))]) ++ [(q49, .inl (cq49, 12, .inl (fun _ => 0)))]) : va_W) H := hP
  have hD : va_D A ((((((([(h0, .inr (4, [.ref q6, .ref q41, .ref q49, .int (-1), .int 0, .int 0, .int 0])), (q6, .inl (cq6, 4, .inr (.inr (.inr (.inr (va_up (va_up (va_up (va_up (fun _ => none) ((0 : Int32)).toNatClampNeg (some (ad2 (xb 2)))) ((1 : Int32)).toNatClampNeg (some (ad3 (xb 3)))) ((2 : Int32)).toNatClampNeg (some (ad4 (xb 4)))) ((3 : Int32)).toNatClampNeg (some (ad5 (xb 5)))))))))] ++ xS ad2 cA2 (xb 2) 11 (wX zC zX)) ++ xS ad3 cA3 (xb 3) 11 (wX zC zX)) ++ xS ad4 cA4 (xb 4) 11 (wX zC zX)) ++ xS ad5 cA5 (xb 5) 11 (wX zC zX)) ++ [(q41, .inl (cq41, 12, .inl (fun _ => 0)))]) ++ [(q49, .inl (cq49, 12, .inl (fun _ => 0)))]) : va_W) := hD
  refine lv_aload_n hx hb dX4_init_64 rfl (lv_at hl 1 rfl) ?_
  refine lv_iconst (v := 0) hx hb dX4_init_65 (by decide) ?_
  refine va_put (D := D) (ci := 4) (v := .int 0) (ty := tyX4 5) (ws := ((((((([(h0, .inr (4, [.ref q6, .ref q41, .ref q49, .int (-1), .int 0, .int 0, .int 0])), (q6, .inl (cq6, 4, .inr (.inr (.inr (.inr (va_up (va_up (va_up (va_up (fun _ => none) ((0 : Int32)).toNatClampNeg (some (ad2 (xb 2)))) ((1 : Int32)).toNatClampNeg (some (ad3 (xb 3)))) ((2 : Int32)).toNatClampNeg (some (ad4 (xb 4)))) ((3 : Int32)).toNatClampNeg (some (ad5 (xb 5)))))))))] ++ xS ad2 cA2 (xb 2) 11 (wX zC zX)) ++ xS ad3 cA3 (xb 3) 11 (wX zC zX)) ++ xS ad4 cA4 (xb 4) 11 (wX zC zX)) ++ xS ad5 cA5 (xb 5) 11 (wX zC zX)) ++ [(q41, .inl (cq41, 12, .inl (fun _ => 0)))]) ++ [(q49, .inl (cq49, 12, .inl (fun _ => 0)))]) : va_W)) (C := RX4) (T := TX4) (N := 7) hx hb hts xin4 tyX4 tyX4_ok nmX4 hown hK hP hD hS 0 rfl rfl 5 (by decide) (hts _ kw_1_147) (fun _ h9 => h9) rfl  (by decide +kernel) rfl rfl (Nat.le_of_ble_eq_true rfl) dX4_init_66 (fun H locs hP hD hS => ?_)
  have hP : va_P D vwCl ((((((([(h0, .inr (4, [.ref q6, .ref q41, .ref q49, .int (-1), .int 0, .int 0, .int 0])), (q6, .inl (cq6, 4, .inr (.inr (.inr (.inr (va_up (va_up (va_up (va_up (fun _ => none) ((0 : Int32)).toNatClampNeg (some (ad2 (xb 2)))) ((1 : Int32)).toNatClampNeg (some (ad3 (xb 3)))) ((2 : Int32)).toNatClampNeg (some (ad4 (xb 4)))) ((3 : Int32)).toNatClampNeg (some (ad5 (xb 5)))))))))] ++ xS ad2 cA2 (xb 2) 11 (wX zC zX)) ++ xS ad3 cA3 (xb 3) 11 (wX zC zX)) ++ xS ad4 cA4 (xb 4) 11 (wX zC zX)) ++ xS ad5 cA5 (xb 5) 11 (wX zC zX)) ++ [(q41, .inl (cq41, 12, .inl (fun _ => 0)))]) ++ [(q49, .inl (cq49, 12, .inl (fun _ => 0)))]) : va_W) H := hP
  have hD : va_D A ((((((([(h0, .inr (4, [.ref q6, .ref q41, .ref q49, .int (-1), .int 0, .int 0, .int 0])), (q6, .inl (cq6, 4, .inr (.inr (.inr (.inr (va_up (va_up (va_up (va_up (fun _ => none) ((0 : Int32)).toNatClampNeg (some (ad2 (xb 2)))) ((1 : Int32)).toNatClampNeg (some (ad3 (xb 3)))) ((2 : Int32)).toNatClampNeg (some (ad4 (xb 4)))) ((3 : Int32)).toNatClampNeg (some (ad5 (xb 5)))))))))] ++ xS ad2 cA2 (xb 2) 11 (wX zC zX)) ++ xS ad3 cA3 (xb 3) 11 (wX zC zX)) ++ xS ad4 cA4 (xb 4) 11 (wX zC zX)) ++ xS ad5 cA5 (xb 5) 11 (wX zC zX)) ++ [(q41, .inl (cq41, 12, .inl (fun _ => 0)))]) ++ [(q49, .inl (cq49, 12, .inl (fun _ => 0)))]) : va_W) := hD
  refine lv_aload_n hx hb dX4_init_69 rfl (lv_at hl 1 rfl) ?_
  refine lv_iconst (v := 0) hx hb dX4_init_70 (by decide) ?_
  refine va_put (D := D) (ci := 4) (v := .int 0) (ty := tyX4 6) (ws := ((((((([(h0, .inr (4, [.ref q6, .ref q41, .ref q49, .int (-1), .int 0, .int 0, .int 0])), (q6, .inl (cq6, 4, .inr (.inr (.inr (.inr (va_up (va_up (va_up (va_up (fun _ => none) ((0 : Int32)).toNatClampNeg (some (ad2 (xb 2)))) ((1 : Int32)).toNatClampNeg (some (ad3 (xb 3)))) ((2 : Int32)).toNatClampNeg (some (ad4 (xb 4)))) ((3 : Int32)).toNatClampNeg (some (ad5 (xb 5)))))))))] ++ xS ad2 cA2 (xb 2) 11 (wX zC zX)) ++ xS ad3 cA3 (xb 3) 11 (wX zC zX)) ++ xS ad4 cA4 (xb 4) 11 (wX zC zX)) ++ xS ad5 cA5 (xb 5) 11 (wX zC zX)) ++ [(q41, .inl (cq41, 12, .inl (fun _ => 0)))]) ++ [(q49, .inl (cq49, 12, .inl (fun _ => 0)))]) : va_W)) (C := RX4) (T := TX4) (N := 7) hx hb hts xin4 tyX4 tyX4_ok nmX4 hown hK hP hD hS 0 rfl rfl 6 (by decide) (hts _ kw_1_148) (fun _ h9 => h9) rfl  (by decide +kernel) rfl rfl (Nat.le_of_ble_eq_true rfl) dX4_init_71 (fun H locs hP hD hS => ?_)
  have hP : va_P D vwCl ((((((([(h0, .inr (4, [.ref q6, .ref q41, .ref q49, .int (-1), .int 0, .int 0, .int 0])), (q6, .inl (cq6, 4, .inr (.inr (.inr (.inr (va_up (va_up (va_up (va_up (fun _ => none) ((0 : Int32)).toNatClampNeg (some (ad2 (xb 2)))) ((1 : Int32)).toNatClampNeg (some (ad3 (xb 3)))) ((2 : Int32)).toNatClampNeg (some (ad4 (xb 4)))) ((3 : Int32)).toNatClampNeg (some (ad5 (xb 5)))))))))] ++ xS ad2 cA2 (xb 2) 11 (wX zC zX)) ++ xS ad3 cA3 (xb 3) 11 (wX zC zX)) ++ xS ad4 cA4 (xb 4) 11 (wX zC zX)) ++ xS ad5 cA5 (xb 5) 11 (wX zC zX)) ++ [(q41, .inl (cq41, 12, .inl (fun _ => 0)))]) ++ [(q49, .inl (cq49, 12, .inl (fun _ => 0)))]) : va_W) H := hP
  have hD : va_D A ((((((([(h0, .inr (4, [.ref q6, .ref q41, .ref q49, .int (-1), .int 0, .int 0, .int 0])), (q6, .inl (cq6, 4, .inr (.inr (.inr (.inr (va_up (va_up (va_up (va_up (fun _ => none) ((0 : Int32)).toNatClampNeg (some (ad2 (xb 2)))) ((1 : Int32)).toNatClampNeg (some (ad3 (xb 3)))) ((2 : Int32)).toNatClampNeg (some (ad4 (xb 4)))) ((3 : Int32)).toNatClampNeg (some (ad5 (xb 5)))))))))] ++ xS ad2 cA2 (xb 2) 11 (wX zC zX)) ++ xS ad3 cA3 (xb 3) 11 (wX zC zX)) ++ xS ad4 cA4 (xb 4) 11 (wX zC zX)) ++ xS ad5 cA5 (xb 5) 11 (wX zC zX)) ++ [(q41, .inl (cq41, 12, .inl (fun _ => 0)))]) ++ [(q49, .inl (cq49, 12, .inl (fun _ => 0)))]) : va_W) := hD
  have e9 : (fun j => ((if j < 4 then some (xb (2 + j)) else none) : Option Nat).map (fun k => if k < 35 then adL 33 [h0, q6] k else if k < 46 then ad2 k else if k < 57 then ad3 k else if k < 68 then ad4 k else if k < 79 then ad5 k else adL 79 [q41, q49] k)) = (va_up (va_up (va_up (va_up (fun _ => none) ((0 : Int32)).toNatClampNeg (some (ad2 (xb 2)))) ((1 : Int32)).toNatClampNeg (some (ad3 (xb 3)))) ((2 : Int32)).toNatClampNeg (some (ad4 (xb 4)))) ((3 : Int32)).toNatClampNeg (some (ad5 (xb 5)))) := by
    have c0 : ((0 : Int32)).toNatClampNeg = 0 := by decide
    have c1 : ((1 : Int32)).toNatClampNeg = 1 := by decide
    have c2 : ((2 : Int32)).toNatClampNeg = 2 := by decide
    have c3 : ((3 : Int32)).toNatClampNeg = 3 := by decide
    rw [c0, c1, c2, c3]
    funext j
    by_cases h : j < 4
    · rcases (show j = 0 ∨ j = 1 ∨ j = 2 ∨ j = 3 by omega) with rfl | rfl | rfl | rfl <;> rfl
    · rw [if_neg h, va_up_ne _ _ (by omega), va_up_ne _ _ (by omega), va_up_ne _ _ (by omega), va_up_ne _ _ (by omega)]; rfl
  have p0 : xS (fun k => if k < 35 then adL 33 [h0, q6] k else if k < 46 then ad2 k else if k < 57 then ad3 k else if k < 68 then ad4 k else if k < 79 then ad5 k else adL 79 [q41, q49] k) (fun k => if k < 35 then adL 33 [0, cq6] k else if k < 46 then cA2 k else if k < 57 then cA3 k else if k < 68 then cA4 k else if k < 79 then cA5 k else adL 79 [cq41, cq49] k) 33 2 (wX zC zX) = [(h0, .inr (4, [.ref q6, .ref q41, .ref q49, .int (-1), .int 0, .int 0, .int 0])), (q6, .inl (cq6, 4, .inr (.inr (.inr (.inr (va_up (va_up (va_up (va_up (fun _ => none) ((0 : Int32)).toNatClampNeg (some (ad2 (xb 2)))) ((1 : Int32)).toNatClampNeg (some (ad3 (xb 3)))) ((2 : Int32)).toNatClampNeg (some (ad4 (xb 4)))) ((3 : Int32)).toNatClampNeg (some (ad5 (xb 5)))))))))] := congrArg (fun z9 : Nat → Option Nat => ([(h0, .inr (4, [.ref q6, .ref q41, .ref q49, .int (-1), .int 0, .int 0, .int 0])), (q6, .inl (cq6, 4, .inr (.inr (.inr (.inr z9)))))] : va_W)) e9
  have p1 : xS (fun k => if k < 35 then adL 33 [h0, q6] k else if k < 46 then ad2 k else if k < 57 then ad3 k else if k < 68 then ad4 k else if k < 79 then ad5 k else adL 79 [q41, q49] k) (fun k => if k < 35 then adL 33 [0, cq6] k else if k < 46 then cA2 k else if k < 57 then cA3 k else if k < 68 then cA4 k else if k < 79 then cA5 k else adL 79 [cq41, cq49] k) 35 11 (wX zC zX) = xS ad2 cA2 (xb 2) 11 (wX zC zX) := xS_part (fun k h1 h2 => by
    show (if k < 35 then _ else if k < 46 then _ else if k < 57 then _ else if k < 68 then _ else if k < 79 then _ else _) = _
    rw [if_neg (by omega), if_pos (by omega)]) (fun k h1 h2 => by
    show (if k < 35 then _ else if k < 46 then _ else if k < 57 then _ else if k < 68 then _ else if k < 79 then _ else _) = _
    rw [if_neg (by omega), if_pos (by omega)]) (rf_balr (t := 2) (by decide))
  have p2 : xS (fun k => if k < 35 then adL 33 [h0, q6] k else if k < 46 then ad2 k else if k < 57 then ad3 k else if k < 68 then ad4 k else if k < 79 then ad5 k else adL 79 [q41, q49] k) (fun k => if k < 35 then adL 33 [0, cq6] k else if k < 46 then cA2 k else if k < 57 then cA3 k else if k < 68 then cA4 k else if k < 79 then cA5 k else adL 79 [cq41, cq49] k) 46 11 (wX zC zX) = xS ad3 cA3 (xb 3) 11 (wX zC zX) := xS_part (fun k h1 h2 => by
    show (if k < 35 then _ else if k < 46 then _ else if k < 57 then _ else if k < 68 then _ else if k < 79 then _ else _) = _
    rw [if_neg (by omega), if_neg (by omega), if_pos (by omega)]) (fun k h1 h2 => by
    show (if k < 35 then _ else if k < 46 then _ else if k < 57 then _ else if k < 68 then _ else if k < 79 then _ else _) = _
    rw [if_neg (by omega), if_neg (by omega), if_pos (by omega)]) (rf_balr (t := 3) (by decide))
  have p3 : xS (fun k => if k < 35 then adL 33 [h0, q6] k else if k < 46 then ad2 k else if k < 57 then ad3 k else if k < 68 then ad4 k else if k < 79 then ad5 k else adL 79 [q41, q49] k) (fun k => if k < 35 then adL 33 [0, cq6] k else if k < 46 then cA2 k else if k < 57 then cA3 k else if k < 68 then cA4 k else if k < 79 then cA5 k else adL 79 [cq41, cq49] k) 57 11 (wX zC zX) = xS ad4 cA4 (xb 4) 11 (wX zC zX) := xS_part (fun k h1 h2 => by
    show (if k < 35 then _ else if k < 46 then _ else if k < 57 then _ else if k < 68 then _ else if k < 79 then _ else _) = _
    rw [if_neg (by omega), if_neg (by omega), if_neg (by omega), if_pos (by omega)]) (fun k h1 h2 => by
    show (if k < 35 then _ else if k < 46 then _ else if k < 57 then _ else if k < 68 then _ else if k < 79 then _ else _) = _
    rw [if_neg (by omega), if_neg (by omega), if_neg (by omega), if_pos (by omega)]) (rf_balr (t := 4) (by decide))
  have p4 : xS (fun k => if k < 35 then adL 33 [h0, q6] k else if k < 46 then ad2 k else if k < 57 then ad3 k else if k < 68 then ad4 k else if k < 79 then ad5 k else adL 79 [q41, q49] k) (fun k => if k < 35 then adL 33 [0, cq6] k else if k < 46 then cA2 k else if k < 57 then cA3 k else if k < 68 then cA4 k else if k < 79 then cA5 k else adL 79 [cq41, cq49] k) 68 11 (wX zC zX) = xS ad5 cA5 (xb 5) 11 (wX zC zX) := xS_part (fun k h1 h2 => by
    show (if k < 35 then _ else if k < 46 then _ else if k < 57 then _ else if k < 68 then _ else if k < 79 then _ else _) = _
    rw [if_neg (by omega), if_neg (by omega), if_neg (by omega), if_neg (by omega), if_pos (by omega)]) (fun k h1 h2 => by
    show (if k < 35 then _ else if k < 46 then _ else if k < 57 then _ else if k < 68 then _ else if k < 79 then _ else _) = _
    rw [if_neg (by omega), if_neg (by omega), if_neg (by omega), if_neg (by omega), if_pos (by omega)]) (rf_balr (t := 5) (by decide))
  have p5 : xS (fun k => if k < 35 then adL 33 [h0, q6] k else if k < 46 then ad2 k else if k < 57 then ad3 k else if k < 68 then ad4 k else if k < 79 then ad5 k else adL 79 [q41, q49] k) (fun k => if k < 35 then adL 33 [0, cq6] k else if k < 46 then cA2 k else if k < 57 then cA3 k else if k < 68 then cA4 k else if k < 79 then cA5 k else adL 79 [cq41, cq49] k) 79 2 (wX zC zX) = [(q41, .inl (cq41, 12, .inl (fun _ => 0))), (q49, .inl (cq49, 12, .inl (fun _ => 0)))] := rfl
  have eL : xS (fun k => if k < 35 then adL 33 [h0, q6] k else if k < 46 then ad2 k else if k < 57 then ad3 k else if k < 68 then ad4 k else if k < 79 then ad5 k else adL 79 [q41, q49] k) (fun k => if k < 35 then adL 33 [0, cq6] k else if k < 46 then cA2 k else if k < 57 then cA3 k else if k < 68 then cA4 k else if k < 79 then cA5 k else adL 79 [cq41, cq49] k) 33 48 (wX zC zX) = ((((((([(h0, .inr (4, [.ref q6, .ref q41, .ref q49, .int (-1), .int 0, .int 0, .int 0])), (q6, .inl (cq6, 4, .inr (.inr (.inr (.inr (va_up (va_up (va_up (va_up (fun _ => none) ((0 : Int32)).toNatClampNeg (some (ad2 (xb 2)))) ((1 : Int32)).toNatClampNeg (some (ad3 (xb 3)))) ((2 : Int32)).toNatClampNeg (some (ad4 (xb 4)))) ((3 : Int32)).toNatClampNeg (some (ad5 (xb 5)))))))))] ++ xS ad2 cA2 (xb 2) 11 (wX zC zX)) ++ xS ad3 cA3 (xb 3) 11 (wX zC zX)) ++ xS ad4 cA4 (xb 4) 11 (wX zC zX)) ++ xS ad5 cA5 (xb 5) 11 (wX zC zX)) ++ [(q41, .inl (cq41, 12, .inl (fun _ => 0)))]) ++ [(q49, .inl (cq49, 12, .inl (fun _ => 0)))]) : va_W) := by
    have a1 := xS_app (fun k => if k < 35 then adL 33 [h0, q6] k else if k < 46 then ad2 k else if k < 57 then ad3 k else if k < 68 then ad4 k else if k < 79 then ad5 k else adL 79 [q41, q49] k) (fun k => if k < 35 then adL 33 [0, cq6] k else if k < 46 then cA2 k else if k < 57 then cA3 k else if k < 68 then cA4 k else if k < 79 then cA5 k else adL 79 [cq41, cq49] k) 33 2 46 (wX zC zX)
    have a2 := xS_app (fun k => if k < 35 then adL 33 [h0, q6] k else if k < 46 then ad2 k else if k < 57 then ad3 k else if k < 68 then ad4 k else if k < 79 then ad5 k else adL 79 [q41, q49] k) (fun k => if k < 35 then adL 33 [0, cq6] k else if k < 46 then cA2 k else if k < 57 then cA3 k else if k < 68 then cA4 k else if k < 79 then cA5 k else adL 79 [cq41, cq49] k) 35 11 35 (wX zC zX)
    have a3 := xS_app (fun k => if k < 35 then adL 33 [h0, q6] k else if k < 46 then ad2 k else if k < 57 then ad3 k else if k < 68 then ad4 k else if k < 79 then ad5 k else adL 79 [q41, q49] k) (fun k => if k < 35 then adL 33 [0, cq6] k else if k < 46 then cA2 k else if k < 57 then cA3 k else if k < 68 then cA4 k else if k < 79 then cA5 k else adL 79 [cq41, cq49] k) 46 11 24 (wX zC zX)
    have a4 := xS_app (fun k => if k < 35 then adL 33 [h0, q6] k else if k < 46 then ad2 k else if k < 57 then ad3 k else if k < 68 then ad4 k else if k < 79 then ad5 k else adL 79 [q41, q49] k) (fun k => if k < 35 then adL 33 [0, cq6] k else if k < 46 then cA2 k else if k < 57 then cA3 k else if k < 68 then cA4 k else if k < 79 then cA5 k else adL 79 [cq41, cq49] k) 57 11 13 (wX zC zX)
    have a5 := xS_app (fun k => if k < 35 then adL 33 [h0, q6] k else if k < 46 then ad2 k else if k < 57 then ad3 k else if k < 68 then ad4 k else if k < 79 then ad5 k else adL 79 [q41, q49] k) (fun k => if k < 35 then adL 33 [0, cq6] k else if k < 46 then cA2 k else if k < 57 then cA3 k else if k < 68 then cA4 k else if k < 79 then cA5 k else adL 79 [cq41, cq49] k) 68 11 2 (wX zC zX)
    refine a1.trans ?_
    refine (congrArg (fun z => _ ++ z) (a2.trans (congrArg (fun z => _ ++ z) (a3.trans (congrArg (fun z => _ ++ z) (a4.trans (congrArg (fun z => _ ++ z) a5))))))).trans ?_
    show xS _ _ 33 2 _ ++ (xS _ _ 35 11 _ ++ (xS _ _ 46 11 _ ++ (xS _ _ 57 11 _ ++ (xS _ _ 68 11 _ ++ xS _ _ 79 2 _)))) = _
    rw [p0, p1, p2, p3, p4, p5]
    simp only [List.append_assoc]
    rfl
  refine W.vret hx hb hr (fun t ht hW => ⟨⟨((fun k => if k < 35 then adL 33 [h0, q6] k else if k < 46 then ad2 k else if k < 57 then ad3 k else if k < 68 then ad4 k else if k < 79 then ad5 k else adL 79 [q41, q49] k), (fun k => if k < 35 then adL 33 [0, cq6] k else if k < 46 then cA2 k else if k < 57 then cA3 k else if k < 68 then cA4 k else if k < 79 then cA5 k else adL 79 [cq41, cq49] k)), rfl, rfl, by rw [ht]; rw [eL]; exact hP, ?_, by rw [eL]; exact hD⟩, hS.F ht⟩) hS.2.2 dX4_init_74
  refine xTy.moved hW.alike (fun k h1 h2 ty ht => ?_)
  by_cases a0 : k = 33
  · subst a0; exact absurd (show (none : Option FieldType) = some ty from ht) (by simp)
  by_cases a1 : k = 34
  · subst a1
    obtain rfl : FieldType.object RX0 = ty := Option.some.inj (show some (FieldType.object RX0) = some ty from ht)
    exact zTz (hK.2 0 _ rfl) (adL_at 33 [0, cq6] 1)
  by_cases b0 : k < 46
  · refine zTz (hT2 k (by show 35 ≤ k; omega) (by show k < 35 + 11; omega) ty ht) ?_
    show (if k < 35 then _ else if k < 46 then _ else if k < 57 then _ else if k < 68 then _ else if k < 79 then _ else _) = _
    rw [if_neg (by omega), if_pos (by omega)]
  by_cases b1 : k < 57
  · refine zTz (hT3 k (by show 46 ≤ k; omega) (by show k < 46 + 11; omega) ty ht) ?_
    show (if k < 35 then _ else if k < 46 then _ else if k < 57 then _ else if k < 68 then _ else if k < 79 then _ else _) = _
    rw [if_neg (by omega), if_neg (by omega), if_pos (by omega)]
  by_cases b2 : k < 68
  · refine zTz (hT4 k (by show 57 ≤ k; omega) (by show k < 57 + 11; omega) ty ht) ?_
    show (if k < 35 then _ else if k < 46 then _ else if k < 57 then _ else if k < 68 then _ else if k < 79 then _ else _) = _
    rw [if_neg (by omega), if_neg (by omega), if_neg (by omega), if_pos (by omega)]
  by_cases b3 : k < 79
  · refine zTz (hT5 k (by show 68 ≤ k; omega) (by show k < 68 + 11; omega) ty ht) ?_
    show (if k < 35 then _ else if k < 46 then _ else if k < 57 then _ else if k < 68 then _ else if k < 79 then _ else _) = _
    rw [if_neg (by omega), if_neg (by omega), if_neg (by omega), if_neg (by omega), if_pos (by omega)]
  rcases (show k = 79 ∨ k = 80 by omega) with rfl | rfl
  · obtain rfl : FieldType.int = ty := Option.some.inj (show some FieldType.int = some ty from ht)
    exact zTz (hK.2 1 _ rfl) (adL_at 79 [cq41, cq49] 0)
  · obtain rfl : FieldType.int = ty := Option.some.inj (show some FieldType.int = some ty from ht)
    exact zTz (hK.2 2 _ rfl) (adL_at 79 [cq41, cq49] 1)
