/-! CONSTRUCTORS: ChipVolts -/
set_option maxHeartbeats 8000000 in
set_option maxRecDepth 100000 in
theorem cn_X5 (l : Launch) : XN l yX5_init cX5_init 1 3 84 651 xTX.2 5 [.null, .null, .null, .null, .null, .null] 0 85 (wX zC zX) := by
  intro D h0 sz
  refine Met.ofW (cc := cX5_init) (maxL := 1) (ret := none) (by decide) rfl ?_
  intro p e s m args below meth c s₁ B hml hv
  obtain ⟨rfl, hsz, hP, hKc, hD0⟩ := hv
  have hx := B.exec
  have hb := B.bytes
  have hr := B.returns
  have hts0 := atoms_spec (ws := xw yX5_init cX5_init 1 none) B.pre
  have hts : ∀ w ∈ xB, w.before _ s = true := fun w hw => hts0 w (List.mem_cons_of_mem _ hw)
  have hown : s.vm.findClass RX5 = some m.cls := findClass_of_methodNamed B.named
  have hlocks := B.notSynchronized
  have hin : meth.name = "<init>" := (name_of_methodNamed B.named B.method).1
  subst hsz
  have hD := hD0.self (sz := s.heap.size)
  generalize hAe : va_A [(h0, .inr (5, [.null, .null, .null, .null, .null, .null]))] s.heap.size = A at hD ⊢
  have hA : ∀ q : Nat, s.heap.size ≤ q → A q := fun q h => by rw [← hAe]; exact Or.inr h
  have hS : va_S A s.heap s.heap [] := va_S.rf
  have hK : va_K D vwCl [] s := hKc.nil
  have hl := lv_entry ([.ref h0]) (n := 1) (Nat.le_of_ble_eq_true rfl)
  rw [lg_entry_eq]
  generalize (lg_sl ([.ref h0]) ++ List.replicate (1 - (lg_sl ([.ref h0])).length) Slot.unset).toArray = ls at hl ⊢
  have hl : lv_has ls 1 [(0, .ref h0)] := hl
  have hP : va_P D vwCl ([(h0, .inr (5, [.null, .null, .null, .null, .null, .null]))] : va_W) s.heap := hP
  refine lv_aload_n hx hb dX5_init_0 rfl (lv_at hl 0 rfl) ?_
  refine W.objInit hx hb hown (hts _ kw_1_16) (hts _ kw_1_17) (hts _ kw_1_18) rfl (by rw [hml]; exact hl.1) rfl dX5_init_1 (Nat.le_of_ble_eq_true rfl) (Nat.le_of_ble_eq_true rfl) ?_
  refine W.eq (g2 := F0 m 4 ls []) rfl ?_
  refine lv_aload_n hx hb dX5_init_4 rfl (lv_at hl 0 rfl) ?_
  refine xnew (ws := ([(h0, .inr (5, [.null, .null, .null, .null, .null, .null]))] : va_W)) (nL := 1) (ci := 2) hx hb hml hown hts hKc hP hD hS hA xc2 kw_1_19 kw_1_20 kw_1_2 (fun j hj => by rcases (show j = 0 ∨ j = 1 ∨ j = 2 ∨ j = 3 ∨ j = 4 ∨ j = 5 ∨ j = 6 ∨ j = 7 by omega) with rfl | rfl | rfl | rfl | rfl | rfl | rfl | rfl <;> rfl) (y := yX2_init) rfl (cn_X2 l) (.inl ⟨_, kw_1_21⟩) kw_1_23 kw_1_22 rfl ⟨by decide +kernel, by decide +kernel, by decide +kernel⟩ (Nat.le_of_ble_eq_true rfl) (Nat.le_of_ble_eq_true rfl) (Nat.le_of_ble_eq_true rfl) (Nat.le_of_ble_eq_true rfl) dX5_init_5 dX5_init_8 dX5_init_9 hl.1 (Nat.le_of_ble_eq_true rfl) (fun ad0 cA0 H locs hP hD hT0 hS => ?_)
  have hP : va_P D vwCl (([(h0, .inr (5, [.null, .null, .null, .null, .null, .null]))] ++ xS ad0 cA0 1 6 (wX zC zX)) : va_W) H := hP
  have hD : va_D A (([(h0, .inr (5, [.null, .null, .null, .null, .null, .null]))] ++ xS ad0 cA0 1 6 (wX zC zX)) : va_W) := hD
  refine va_putF (D := D) (ci := 5) (v := .ref (ad0 1)) (ty := tyX5 0) (ws := (([(h0, .inr (5, [.null, .null, .null, .null, .null, .null]))] ++ xS ad0 cA0 1 6 (wX zC zX)) : va_W)) (C := RX5) (T := TX5) (N := 6) hx hb hts xin5 tyX5 tyX5_ok nmX5 hown hK hP hD hS 0 rfl rfl 0 (by decide) (hts _ kw_1_182) (fun _ h9 => h9) rfl hin rfl (by decide +kernel) rfl rfl (Nat.le_of_ble_eq_true rfl) dX5_init_12 (fun H locs hP hD hS => ?_)
  have hP : va_P D vwCl (([(h0, .inr (5, [.ref (ad0 1), .null, .null, .null, .null, .null]))] ++ xS ad0 cA0 1 6 (wX zC zX)) : va_W) H := hP
  have hD : va_D A (([(h0, .inr (5, [.ref (ad0 1), .null, .null, .null, .null, .null]))] ++ xS ad0 cA0 1 6 (wX zC zX)) : va_W) := hD
  refine lv_aload_n hx hb dX5_init_15 rfl (lv_at hl 0 rfl) ?_
  refine xnew (ws := (([(h0, .inr (5, [.ref (ad0 1), .null, .null, .null, .null, .null]))] ++ xS ad0 cA0 1 6 (wX zC zX)) : va_W)) (nL := 1) (ci := 1) hx hb hml hown hts hKc hP hD hS hA xc1 kw_1_71 kw_1_72 kw_1_3 (fun j hj => by rcases (show j = 0 ∨ j = 1 ∨ j = 2 ∨ j = 3 ∨ j = 4 by omega) with rfl | rfl | rfl | rfl | rfl <;> rfl) (y := yX1_init) rfl (cn_X1 l) (.inl ⟨_, kw_1_73⟩) kw_1_75 kw_1_74 rfl ⟨by decide +kernel, by decide +kernel, by decide +kernel⟩ (Nat.le_of_ble_eq_true rfl) (Nat.le_of_ble_eq_true rfl) (Nat.le_of_ble_eq_true rfl) (Nat.le_of_ble_eq_true rfl) dX5_init_16 dX5_init_19 dX5_init_20 hl.1 (Nat.le_of_ble_eq_true rfl) (fun ad1 cA1 H locs hP hD hT1 hS => ?_)
  have hP : va_P D vwCl ((([(h0, .inr (5, [.ref (ad0 1), .null, .null, .null, .null, .null]))] ++ xS ad0 cA0 1 6 (wX zC zX)) ++ xS ad1 cA1 7 4 (wX zC zX)) : va_W) H := hP
  have hD : va_D A ((([(h0, .inr (5, [.ref (ad0 1), .null, .null, .null, .null, .null]))] ++ xS ad0 cA0 1 6 (wX zC zX)) ++ xS ad1 cA1 7 4 (wX zC zX)) : va_W) := hD
  refine va_putF (D := D) (ci := 5) (v := .ref (ad1 7)) (ty := tyX5 1) (ws := ((([(h0, .inr (5, [.ref (ad0 1), .null, .null, .null, .null, .null]))] ++ xS ad0 cA0 1 6 (wX zC zX)) ++ xS ad1 cA1 7 4 (wX zC zX)) : va_W)) (C := RX5) (T := TX5) (N := 6) hx hb hts xin5 tyX5 tyX5_ok nmX5 hown hK hP hD hS 0 rfl rfl 1 (by decide) (hts _ kw_1_183) (fun _ h9 => h9) rfl hin rfl (by decide +kernel) rfl rfl (Nat.le_of_ble_eq_true rfl) dX5_init_23 (fun H locs hP hD hS => ?_)
  have hP : va_P D vwCl ((([(h0, .inr (5, [.ref (ad0 1), .ref (ad1 7), .null, .null, .null, .null]))] ++ xS ad0 cA0 1 6 (wX zC zX)) ++ xS ad1 cA1 7 4 (wX zC zX)) : va_W) H := hP
  have hD : va_D A ((([(h0, .inr (5, [.ref (ad0 1), .ref (ad1 7), .null, .null, .null, .null]))] ++ xS ad0 cA0 1 6 (wX zC zX)) ++ xS ad1 cA1 7 4 (wX zC zX)) : va_W) := hD
  refine lv_aload_n hx hb dX5_init_26 rfl (lv_at hl 0 rfl) ?_
  refine xnew (ws := ((([(h0, .inr (5, [.ref (ad0 1), .ref (ad1 7), .null, .null, .null, .null]))] ++ xS ad0 cA0 1 6 (wX zC zX)) ++ xS ad1 cA1 7 4 (wX zC zX)) : va_W)) (nL := 1) (ci := 0) hx hb hml hown hts hKc hP hD hS hA xc0 kw_1_101 kw_1_102 kw_1_4 (fun j hj => by rcases (show j = 0 ∨ j = 1 ∨ j = 2 ∨ j = 3 ∨ j = 4 by omega) with rfl | rfl | rfl | rfl | rfl <;> rfl) (y := yX0_init) rfl (cn_X0 l (tb := 0) (by decide)) (.inl ⟨_, kw_1_103⟩) kw_1_105 kw_1_104 rfl ⟨by decide +kernel, by decide +kernel, by decide +kernel⟩ (Nat.le_of_ble_eq_true rfl) (Nat.le_of_ble_eq_true rfl) (Nat.le_of_ble_eq_true rfl) (Nat.le_of_ble_eq_true rfl) dX5_init_27 dX5_init_30 dX5_init_31 hl.1 (Nat.le_of_ble_eq_true rfl) (fun ad2 cA2 H locs hP hD hT2 hS => ?_)
  have hP : va_P D vwCl (((([(h0, .inr (5, [.ref (ad0 1), .ref (ad1 7), .null, .null, .null, .null]))] ++ xS ad0 cA0 1 6 (wX zC zX)) ++ xS ad1 cA1 7 4 (wX zC zX)) ++ xS ad2 cA2 (xb 0) 11 (wX zC zX)) : va_W) H := hP
  have hD : va_D A (((([(h0, .inr (5, [.ref (ad0 1), .ref (ad1 7), .null, .null, .null, .null]))] ++ xS ad0 cA0 1 6 (wX zC zX)) ++ xS ad1 cA1 7 4 (wX zC zX)) ++ xS ad2 cA2 (xb 0) 11 (wX zC zX)) : va_W) := hD
  refine va_putF (D := D) (ci := 5) (v := .ref (ad2 (xb 0))) (ty := tyX5 2) (ws := (((([(h0, .inr (5, [.ref (ad0 1), .ref (ad1 7), .null, .null, .null, .null]))] ++ xS ad0 cA0 1 6 (wX zC zX)) ++ xS ad1 cA1 7 4 (wX zC zX)) ++ xS ad2 cA2 (xb 0) 11 (wX zC zX)) : va_W)) (C := RX5) (T := TX5) (N := 6) hx hb hts xin5 tyX5 tyX5_ok nmX5 hown hK hP hD hS 0 rfl rfl 2 (by decide) (hts _ kw_1_184) (fun _ h9 => h9) rfl hin rfl (by decide +kernel) rfl rfl (Nat.le_of_ble_eq_true rfl) dX5_init_34 (fun H locs hP hD hS => ?_)
  have hP : va_P D vwCl (((([(h0, .inr (5, [.ref (ad0 1), .ref (ad1 7), .ref (ad2 (xb 0)), .null, .null, .null]))] ++ xS ad0 cA0 1 6 (wX zC zX)) ++ xS ad1 cA1 7 4 (wX zC zX)) ++ xS ad2 cA2 (xb 0) 11 (wX zC zX)) : va_W) H := hP
  have hD : va_D A (((([(h0, .inr (5, [.ref (ad0 1), .ref (ad1 7), .ref (ad2 (xb 0)), .null, .null, .null]))] ++ xS ad0 cA0 1 6 (wX zC zX)) ++ xS ad1 cA1 7 4 (wX zC zX)) ++ xS ad2 cA2 (xb 0) 11 (wX zC zX)) : va_W) := hD
  refine lv_aload_n hx hb dX5_init_37 rfl (lv_at hl 0 rfl) ?_
  refine xnew (ws := (((([(h0, .inr (5, [.ref (ad0 1), .ref (ad1 7), .ref (ad2 (xb 0)), .null, .null, .null]))] ++ xS ad0 cA0 1 6 (wX zC zX)) ++ xS ad1 cA1 7 4 (wX zC zX)) ++ xS ad2 cA2 (xb 0) 11 (wX zC zX)) : va_W)) (nL := 1) (ci := 0) hx hb hml hown hts hKc hP hD hS hA xc0 kw_1_101 kw_1_102 kw_1_4 (fun j hj => by rcases (show j = 0 ∨ j = 1 ∨ j = 2 ∨ j = 3 ∨ j = 4 by omega) with rfl | rfl | rfl | rfl | rfl <;> rfl) (y := yX0_init) rfl (cn_X0 l (tb := 1) (by decide)) (.inl ⟨_, kw_1_103⟩) kw_1_105 kw_1_104 rfl ⟨by decide +kernel, by decide +kernel, by decide +kernel⟩ (Nat.le_of_ble_eq_true rfl) (Nat.le_of_ble_eq_true rfl) (Nat.le_of_ble_eq_true rfl) (Nat.le_of_ble_eq_true rfl) dX5_init_38 dX5_init_41 dX5_init_42 hl.1 (Nat.le_of_ble_eq_true rfl) (fun ad3 cA3 H locs hP hD hT3 hS => ?_)
  have hP : va_P D vwCl ((((([(h0, .inr (5, [.ref (ad0 1), .ref (ad1 7), .ref (ad2 (xb 0)), .null, .null, .null]))] ++ xS ad0 cA0 1 6 (wX zC zX)) ++ xS ad1 cA1 7 4 (wX zC zX)) ++ xS ad2 cA2 (xb 0) 11 (wX zC zX)) ++ xS ad3 cA3 (xb 1) 11 (wX zC zX)) : va_W) H := hP
  have hD : va_D A ((((([(h0, .inr (5, [.ref (ad0 1), .ref (ad1 7), .ref (ad2 (xb 0)), .null, .null, .null]))] ++ xS ad0 cA0 1 6 (wX zC zX)) ++ xS ad1 cA1 7 4 (wX zC zX)) ++ xS ad2 cA2 (xb 0) 11 (wX zC zX)) ++ xS ad3 cA3 (xb 1) 11 (wX zC zX)) : va_W) := hD
  refine va_putF (D := D) (ci := 5) (v := .ref (ad3 (xb 1))) (ty := tyX5 3) (ws := ((((([(h0, .inr (5, [.ref (ad0 1), .ref (ad1 7), .ref (ad2 (xb 0)), .null, .null, .null]))] ++ xS ad0 cA0 1 6 (wX zC zX)) ++ xS ad1 cA1 7 4 (wX zC zX)) ++ xS ad2 cA2 (xb 0) 11 (wX zC zX)) ++ xS ad3 cA3 (xb 1) 11 (wX zC zX)) : va_W)) (C := RX5) (T := TX5) (N := 6) hx hb hts xin5 tyX5 tyX5_ok nmX5 hown hK hP hD hS 0 rfl rfl 3 (by decide) (hts _ kw_1_185) (fun _ h9 => h9) rfl hin rfl (by decide +kernel) rfl rfl (Nat.le_of_ble_eq_true rfl) dX5_init_45 (fun H locs hP hD hS => ?_)
  have hP : va_P D vwCl ((((([(h0, .inr (5, [.ref (ad0 1), .ref (ad1 7), .ref (ad2 (xb 0)), .ref (ad3 (xb 1)), .null, .null]))] ++ xS ad0 cA0 1 6 (wX zC zX)) ++ xS ad1 cA1 7 4 (wX zC zX)) ++ xS ad2 cA2 (xb 0) 11 (wX zC zX)) ++ xS ad3 cA3 (xb 1) 11 (wX zC zX)) : va_W) H := hP
  have hD : va_D A ((((([(h0, .inr (5, [.ref (ad0 1), .ref (ad1 7), .ref (ad2 (xb 0)), .ref (ad3 (xb 1)), .null, .null]))] ++ xS ad0 cA0 1 6 (wX zC zX)) ++ xS ad1 cA1 7 4 (wX zC zX)) ++ xS ad2 cA2 (xb 0) 11 (wX zC zX)) ++ xS ad3 cA3 (xb 1) 11 (wX zC zX)) : va_W) := hD
  refine lv_aload_n hx hb dX5_init_48 rfl (lv_at hl 0 rfl) ?_
  refine xnew (ws := ((((([(h0, .inr (5, [.ref (ad0 1), .ref (ad1 7), .ref (ad2 (xb 0)), .ref (ad3 (xb 1)), .null, .null]))] ++ xS ad0 cA0 1 6 (wX zC zX)) ++ xS ad1 cA1 7 4 (wX zC zX)) ++ xS ad2 cA2 (xb 0) 11 (wX zC zX)) ++ xS ad3 cA3 (xb 1) 11 (wX zC zX)) : va_W)) (nL := 1) (ci := 4) hx hb hml hown hts hKc hP hD hS hA xc4 kw_1_132 kw_1_133 kw_1_5 (fun j hj => by rcases (show j = 0 ∨ j = 1 ∨ j = 2 ∨ j = 3 ∨ j = 4 ∨ j = 5 ∨ j = 6 by omega) with rfl | rfl | rfl | rfl | rfl | rfl | rfl <;> rfl) (y := yX4_init) rfl (cn_X4 l) (.inl ⟨_, kw_1_134⟩) kw_1_136 kw_1_135 rfl ⟨by decide +kernel, by decide +kernel, by decide +kernel⟩ (Nat.le_of_ble_eq_true rfl) (Nat.le_of_ble_eq_true rfl) (Nat.le_of_ble_eq_true rfl) (Nat.le_of_ble_eq_true rfl) dX5_init_49 dX5_init_52 dX5_init_53 hl.1 (Nat.le_of_ble_eq_true rfl) (fun ad4 cA4 H locs hP hD hT4 hS => ?_)
  have hP : va_P D vwCl (((((([(h0, .inr (5, [.ref (ad0 1), .ref (ad1 7), .ref (ad2 (xb 0)), .ref (ad3 (xb 1)), .null, .null]))] ++ xS ad0 cA0 1 6 (wX zC zX)) ++ xS ad1 cA1 7 4 (wX zC zX)) ++ xS ad2 cA2 (xb 0) 11 (wX zC zX)) ++ xS ad3 cA3 (xb 1) 11 (wX zC zX)) ++ xS ad4 cA4 33 48 (wX zC zX)) : va_W) H := hP
  have hD : va_D A (((((([(h0, .inr (5, [.ref (ad0 1), .ref (ad1 7), .ref (ad2 (xb 0)), .ref (ad3 (xb 1)), .null, .null]))] ++ xS ad0 cA0 1 6 (wX zC zX)) ++ xS ad1 cA1 7 4 (wX zC zX)) ++ xS ad2 cA2 (xb 0) 11 (wX zC zX)) ++ xS ad3 cA3 (xb 1) 11 (wX zC zX)) ++ xS ad4 cA4 33 48 (wX zC zX)) : va_W) := hD
  refine va_putF (D := D) (ci := 5) (v := .ref (ad4 33)) (ty := tyX5 4) (ws := (((((([(h0, .inr (5, [.ref (ad0 1), .ref (ad1 7), .ref (ad2 (xb 0)), .ref (ad3 (xb 1)), .null, .null]))] ++ xS ad0 cA0 1 6 (wX zC zX)) ++ xS ad1 cA1 7 4 (wX zC zX)) ++ xS ad2 cA2 (xb 0) 11 (wX zC zX)) ++ xS ad3 cA3 (xb 1) 11 (wX zC zX)) ++ xS ad4 cA4 33 48 (wX zC zX)) : va_W)) (C := RX5) (T := TX5) (N := 6) hx hb hts xin5 tyX5 tyX5_ok nmX5 hown hK hP hD hS 0 rfl rfl 4 (by decide) (hts _ kw_1_186) (fun _ h9 => h9) rfl hin rfl (by decide +kernel) rfl rfl (Nat.le_of_ble_eq_true rfl) dX5_init_56 (fun H locs hP hD hS => ?_)
  have hP : va_P D vwCl (((((([(h0, .inr (5, [.ref (ad0 1), .ref (ad1 7), .ref (ad2 (xb 0)), .ref (ad3 (xb 1)), .ref (ad4 33), .null]))] ++ xS ad0 cA0 1 6 (wX zC zX)) ++ xS ad1 cA1 7 4 (wX zC zX)) ++ xS ad2 cA2 (xb 0) 11 (wX zC zX)) ++ xS ad3 cA3 (xb 1) 11 (wX zC zX)) ++ xS ad4 cA4 33 48 (wX zC zX)) : va_W) H := hP
  have hD : va_D A (((((([(h0, .inr (5, [.ref (ad0 1), .ref (ad1 7), .ref (ad2 (xb 0)), .ref (ad3 (xb 1)), .ref (ad4 33), .null]))] ++ xS ad0 cA0 1 6 (wX zC zX)) ++ xS ad1 cA1 7 4 (wX zC zX)) ++ xS ad2 cA2 (xb 0) 11 (wX zC zX)) ++ xS ad3 cA3 (xb 1) 11 (wX zC zX)) ++ xS ad4 cA4 33 48 (wX zC zX)) : va_W) := hD
  refine lv_aload_n hx hb dX5_init_59 rfl (lv_at hl 0 rfl) ?_
  refine xnew (ws := (((((([(h0, .inr (5, [.ref (ad0 1), .ref (ad1 7), .ref (ad2 (xb 0)), .ref (ad3 (xb 1)), .ref (ad4 33), .null]))] ++ xS ad0 cA0 1 6 (wX zC zX)) ++ xS ad1 cA1 7 4 (wX zC zX)) ++ xS ad2 cA2 (xb 0) 11 (wX zC zX)) ++ xS ad3 cA3 (xb 1) 11 (wX zC zX)) ++ xS ad4 cA4 33 48 (wX zC zX)) : va_W)) (nL := 1) (ci := 3) hx hb hml hown hts hKc hP hD hS hA xc3 kw_1_164 kw_1_165 kw_1_6 (fun j hj => by rcases (show j = 0 ∨ j = 1 ∨ j = 2 by omega) with rfl | rfl | rfl <;> rfl) (y := yX3_init) rfl (cn_X3 l) (.inl ⟨_, kw_1_166⟩) kw_1_168 kw_1_167 rfl ⟨by decide +kernel, by decide +kernel, by decide +kernel⟩ (Nat.le_of_ble_eq_true rfl) (Nat.le_of_ble_eq_true rfl) (Nat.le_of_ble_eq_true rfl) (Nat.le_of_ble_eq_true rfl) dX5_init_60 dX5_init_63 dX5_init_64 hl.1 (Nat.le_of_ble_eq_true rfl) (fun ad5 cA5 H locs hP hD hT5 hS => ?_)
  have hP : va_P D vwCl ((((((([(h0, .inr (5, [.ref (ad0 1), .ref (ad1 7), .ref (ad2 (xb 0)), .ref (ad3 (xb 1)), .ref (ad4 33), .null]))] ++ xS ad0 cA0 1 6 (wX zC zX)) ++ xS ad1 cA1 7 4 (wX zC zX)) ++ xS ad2 cA2 (xb 0) 11 (wX zC zX)) ++ xS ad3 cA3 (xb 1) 11 (wX zC zX)) ++ xS ad4 cA4 33 48 (wX zC zX)) ++ xS ad5 cA5 81 4 (wX zC zX)) : va_W) H := hP
  have hD : va_D A ((((((([(h0, .inr (5, [.ref (ad0 1), .ref (ad1 7), .ref (ad2 (xb 0)), .ref (ad3 (xb 1)), .ref (ad4 33), .null]))] ++ xS ad0 cA0 1 6 (wX zC zX)) ++ xS ad1 cA1 7 4 (wX zC zX)) ++ xS ad2 cA2 (xb 0) 11 (wX zC zX)) ++ xS ad3 cA3 (xb 1) 11 (wX zC zX)) ++ xS ad4 cA4 33 48 (wX zC zX)) ++ xS ad5 cA5 81 4 (wX zC zX)) : va_W) := hD
  refine va_putF (D := D) (ci := 5) (v := .ref (ad5 81)) (ty := tyX5 5) (ws := ((((((([(h0, .inr (5, [.ref (ad0 1), .ref (ad1 7), .ref (ad2 (xb 0)), .ref (ad3 (xb 1)), .ref (ad4 33), .null]))] ++ xS ad0 cA0 1 6 (wX zC zX)) ++ xS ad1 cA1 7 4 (wX zC zX)) ++ xS ad2 cA2 (xb 0) 11 (wX zC zX)) ++ xS ad3 cA3 (xb 1) 11 (wX zC zX)) ++ xS ad4 cA4 33 48 (wX zC zX)) ++ xS ad5 cA5 81 4 (wX zC zX)) : va_W)) (C := RX5) (T := TX5) (N := 6) hx hb hts xin5 tyX5 tyX5_ok nmX5 hown hK hP hD hS 0 rfl rfl 5 (by decide) (hts _ kw_1_187) (fun _ h9 => h9) rfl hin rfl (by decide +kernel) rfl rfl (Nat.le_of_ble_eq_true rfl) dX5_init_67 (fun H locs hP hD hS => ?_)
  have hP : va_P D vwCl ((((((([(h0, .inr (5, [.ref (ad0 1), .ref (ad1 7), .ref (ad2 (xb 0)), .ref (ad3 (xb 1)), .ref (ad4 33), .ref (ad5 81)]))] ++ xS ad0 cA0 1 6 (wX zC zX)) ++ xS ad1 cA1 7 4 (wX zC zX)) ++ xS ad2 cA2 (xb 0) 11 (wX zC zX)) ++ xS ad3 cA3 (xb 1) 11 (wX zC zX)) ++ xS ad4 cA4 33 48 (wX zC zX)) ++ xS ad5 cA5 81 4 (wX zC zX)) : va_W) H := hP
  have hD : va_D A ((((((([(h0, .inr (5, [.ref (ad0 1), .ref (ad1 7), .ref (ad2 (xb 0)), .ref (ad3 (xb 1)), .ref (ad4 33), .ref (ad5 81)]))] ++ xS ad0 cA0 1 6 (wX zC zX)) ++ xS ad1 cA1 7 4 (wX zC zX)) ++ xS ad2 cA2 (xb 0) 11 (wX zC zX)) ++ xS ad3 cA3 (xb 1) 11 (wX zC zX)) ++ xS ad4 cA4 33 48 (wX zC zX)) ++ xS ad5 cA5 81 4 (wX zC zX)) : va_W) := hD
  have p0 : xS (fun k => if k < 1 then h0 else if k < 7 then ad0 k else if k < 11 then ad1 k else if k < 22 then ad2 k else if k < 33 then ad3 k else if k < 81 then ad4 k else ad5 k) (fun k => if k < 1 then 0 else if k < 7 then cA0 k else if k < 11 then cA1 k else if k < 22 then cA2 k else if k < 33 then cA3 k else if k < 81 then cA4 k else cA5 k) 0 1 (wX zC zX) = [(h0, .inr (5, [.ref (ad0 1), .ref (ad1 7), .ref (ad2 (xb 0)), .ref (ad3 (xb 1)), .ref (ad4 33), .ref (ad5 81)]))] := rfl
  have p1 : xS (fun k => if k < 1 then h0 else if k < 7 then ad0 k else if k < 11 then ad1 k else if k < 22 then ad2 k else if k < 33 then ad3 k else if k < 81 then ad4 k else ad5 k) (fun k => if k < 1 then 0 else if k < 7 then cA0 k else if k < 11 then cA1 k else if k < 22 then cA2 k else if k < 33 then cA3 k else if k < 81 then cA4 k else cA5 k) 1 6 (wX zC zX) = xS ad0 cA0 1 6 (wX zC zX) := xS_part (fun k h1 h2 => by
    show (if k < 1 then _ else if k < 7 then _ else if k < 11 then _ else if k < 22 then _ else if k < 33 then _ else if k < 81 then _ else _) = _
    rw [if_neg (by omega), if_pos (by omega)]) (fun k h1 h2 => by
    show (if k < 1 then _ else if k < 7 then _ else if k < 11 then _ else if k < 22 then _ else if k < 33 then _ else if k < 81 then _ else _) = _
    rw [if_neg (by omega), if_pos (by omega)]) rf_net
  have p2 : xS (fun k => if k < 1 then h0 else if k < 7 then ad0 k else if k < 11 then ad1 k else if k < 22 then ad2 k else if k < 33 then ad3 k else if k < 81 then ad4 k else ad5 k) (fun k => if k < 1 then 0 else if k < 7 then cA0 k else if k < 11 then cA1 k else if k < 22 then cA2 k else if k < 33 then cA3 k else if k < 81 then cA4 k else cA5 k) 7 4 (wX zC zX) = xS ad1 cA1 7 4 (wX zC zX) := xS_part (fun k h1 h2 => by
    show (if k < 1 then _ else if k < 7 then _ else if k < 11 then _ else if k < 22 then _ else if k < 33 then _ else if k < 81 then _ else _) = _
    rw [if_neg (by omega), if_neg (by omega), if_pos (by omega)]) (fun k h1 h2 => by
    show (if k < 1 then _ else if k < 7 then _ else if k < 11 then _ else if k < 22 then _ else if k < 33 then _ else if k < 81 then _ else _) = _
    rw [if_neg (by omega), if_neg (by omega), if_pos (by omega)]) rf_blk
  have p3 : xS (fun k => if k < 1 then h0 else if k < 7 then ad0 k else if k < 11 then ad1 k else if k < 22 then ad2 k else if k < 33 then ad3 k else if k < 81 then ad4 k else ad5 k) (fun k => if k < 1 then 0 else if k < 7 then cA0 k else if k < 11 then cA1 k else if k < 22 then cA2 k else if k < 33 then cA3 k else if k < 81 then cA4 k else cA5 k) 11 11 (wX zC zX) = xS ad2 cA2 (xb 0) 11 (wX zC zX) := xS_part (fun k h1 h2 => by
    show (if k < 1 then _ else if k < 7 then _ else if k < 11 then _ else if k < 22 then _ else if k < 33 then _ else if k < 81 then _ else _) = _
    rw [if_neg (by omega), if_neg (by omega), if_neg (by omega), if_pos (by omega)]) (fun k h1 h2 => by
    show (if k < 1 then _ else if k < 7 then _ else if k < 11 then _ else if k < 22 then _ else if k < 33 then _ else if k < 81 then _ else _) = _
    rw [if_neg (by omega), if_neg (by omega), if_neg (by omega), if_pos (by omega)]) (rf_balr (t := 0) (by decide))
  have p4 : xS (fun k => if k < 1 then h0 else if k < 7 then ad0 k else if k < 11 then ad1 k else if k < 22 then ad2 k else if k < 33 then ad3 k else if k < 81 then ad4 k else ad5 k) (fun k => if k < 1 then 0 else if k < 7 then cA0 k else if k < 11 then cA1 k else if k < 22 then cA2 k else if k < 33 then cA3 k else if k < 81 then cA4 k else cA5 k) 22 11 (wX zC zX) = xS ad3 cA3 (xb 1) 11 (wX zC zX) := xS_part (fun k h1 h2 => by
    show (if k < 1 then _ else if k < 7 then _ else if k < 11 then _ else if k < 22 then _ else if k < 33 then _ else if k < 81 then _ else _) = _
    rw [if_neg (by omega), if_neg (by omega), if_neg (by omega), if_neg (by omega), if_pos (by omega)]) (fun k h1 h2 => by
    show (if k < 1 then _ else if k < 7 then _ else if k < 11 then _ else if k < 22 then _ else if k < 33 then _ else if k < 81 then _ else _) = _
    rw [if_neg (by omega), if_neg (by omega), if_neg (by omega), if_neg (by omega), if_pos (by omega)]) (rf_balr (t := 1) (by decide))
  have p5 : xS (fun k => if k < 1 then h0 else if k < 7 then ad0 k else if k < 11 then ad1 k else if k < 22 then ad2 k else if k < 33 then ad3 k else if k < 81 then ad4 k else ad5 k) (fun k => if k < 1 then 0 else if k < 7 then cA0 k else if k < 11 then cA1 k else if k < 22 then cA2 k else if k < 33 then cA3 k else if k < 81 then cA4 k else cA5 k) 33 48 (wX zC zX) = xS ad4 cA4 33 48 (wX zC zX) := xS_part (fun k h1 h2 => by
    show (if k < 1 then _ else if k < 7 then _ else if k < 11 then _ else if k < 22 then _ else if k < 33 then _ else if k < 81 then _ else _) = _
    rw [if_neg (by omega), if_neg (by omega), if_neg (by omega), if_neg (by omega), if_neg (by omega), if_pos (by omega)]) (fun k h1 h2 => by
    show (if k < 1 then _ else if k < 7 then _ else if k < 11 then _ else if k < 22 then _ else if k < 33 then _ else if k < 81 then _ else _) = _
    rw [if_neg (by omega), if_neg (by omega), if_neg (by omega), if_neg (by omega), if_neg (by omega), if_pos (by omega)]) rf_wid
  have p6 : xS (fun k => if k < 1 then h0 else if k < 7 then ad0 k else if k < 11 then ad1 k else if k < 22 then ad2 k else if k < 33 then ad3 k else if k < 81 then ad4 k else ad5 k) (fun k => if k < 1 then 0 else if k < 7 then cA0 k else if k < 11 then cA1 k else if k < 22 then cA2 k else if k < 33 then cA3 k else if k < 81 then cA4 k else cA5 k) 81 4 (wX zC zX) = xS ad5 cA5 81 4 (wX zC zX) := xS_part (fun k h1 h2 => by
    show (if k < 1 then _ else if k < 7 then _ else if k < 11 then _ else if k < 22 then _ else if k < 33 then _ else if k < 81 then _ else _) = _
    rw [if_neg (by omega), if_neg (by omega), if_neg (by omega), if_neg (by omega), if_neg (by omega), if_neg (by omega)]) (fun k h1 h2 => by
    show (if k < 1 then _ else if k < 7 then _ else if k < 11 then _ else if k < 22 then _ else if k < 33 then _ else if k < 81 then _ else _) = _
    rw [if_neg (by omega), if_neg (by omega), if_neg (by omega), if_neg (by omega), if_neg (by omega), if_neg (by omega)]) rf_wak
  have eL : xS (fun k => if k < 1 then h0 else if k < 7 then ad0 k else if k < 11 then ad1 k else if k < 22 then ad2 k else if k < 33 then ad3 k else if k < 81 then ad4 k else ad5 k) (fun k => if k < 1 then 0 else if k < 7 then cA0 k else if k < 11 then cA1 k else if k < 22 then cA2 k else if k < 33 then cA3 k else if k < 81 then cA4 k else cA5 k) 0 85 (wX zC zX) = ((((((([(h0, .inr (5, [.ref (ad0 1), .ref (ad1 7), .ref (ad2 (xb 0)), .ref (ad3 (xb 1)), .ref (ad4 33), .ref (ad5 81)]))] ++ xS ad0 cA0 1 6 (wX zC zX)) ++ xS ad1 cA1 7 4 (wX zC zX)) ++ xS ad2 cA2 (xb 0) 11 (wX zC zX)) ++ xS ad3 cA3 (xb 1) 11 (wX zC zX)) ++ xS ad4 cA4 33 48 (wX zC zX)) ++ xS ad5 cA5 81 4 (wX zC zX)) : va_W) := by
    have a1 := xS_app (fun k => if k < 1 then h0 else if k < 7 then ad0 k else if k < 11 then ad1 k else if k < 22 then ad2 k else if k < 33 then ad3 k else if k < 81 then ad4 k else ad5 k) (fun k => if k < 1 then 0 else if k < 7 then cA0 k else if k < 11 then cA1 k else if k < 22 then cA2 k else if k < 33 then cA3 k else if k < 81 then cA4 k else cA5 k) 0 1 84 (wX zC zX)
    have a2 := xS_app (fun k => if k < 1 then h0 else if k < 7 then ad0 k else if k < 11 then ad1 k else if k < 22 then ad2 k else if k < 33 then ad3 k else if k < 81 then ad4 k else ad5 k) (fun k => if k < 1 then 0 else if k < 7 then cA0 k else if k < 11 then cA1 k else if k < 22 then cA2 k else if k < 33 then cA3 k else if k < 81 then cA4 k else cA5 k) 1 6 78 (wX zC zX)
    have a3 := xS_app (fun k => if k < 1 then h0 else if k < 7 then ad0 k else if k < 11 then ad1 k else if k < 22 then ad2 k else if k < 33 then ad3 k else if k < 81 then ad4 k else ad5 k) (fun k => if k < 1 then 0 else if k < 7 then cA0 k else if k < 11 then cA1 k else if k < 22 then cA2 k else if k < 33 then cA3 k else if k < 81 then cA4 k else cA5 k) 7 4 74 (wX zC zX)
    have a4 := xS_app (fun k => if k < 1 then h0 else if k < 7 then ad0 k else if k < 11 then ad1 k else if k < 22 then ad2 k else if k < 33 then ad3 k else if k < 81 then ad4 k else ad5 k) (fun k => if k < 1 then 0 else if k < 7 then cA0 k else if k < 11 then cA1 k else if k < 22 then cA2 k else if k < 33 then cA3 k else if k < 81 then cA4 k else cA5 k) 11 11 63 (wX zC zX)
    have a5 := xS_app (fun k => if k < 1 then h0 else if k < 7 then ad0 k else if k < 11 then ad1 k else if k < 22 then ad2 k else if k < 33 then ad3 k else if k < 81 then ad4 k else ad5 k) (fun k => if k < 1 then 0 else if k < 7 then cA0 k else if k < 11 then cA1 k else if k < 22 then cA2 k else if k < 33 then cA3 k else if k < 81 then cA4 k else cA5 k) 22 11 52 (wX zC zX)
    have a6 := xS_app (fun k => if k < 1 then h0 else if k < 7 then ad0 k else if k < 11 then ad1 k else if k < 22 then ad2 k else if k < 33 then ad3 k else if k < 81 then ad4 k else ad5 k) (fun k => if k < 1 then 0 else if k < 7 then cA0 k else if k < 11 then cA1 k else if k < 22 then cA2 k else if k < 33 then cA3 k else if k < 81 then cA4 k else cA5 k) 33 48 4 (wX zC zX)
    refine a1.trans ?_
    refine (congrArg (fun z => _ ++ z) (a2.trans (congrArg (fun z => _ ++ z) (a3.trans (congrArg (fun z => _ ++ z) (a4.trans (congrArg (fun z => _ ++ z) (a5.trans (congrArg (fun z => _ ++ z) a6))))))))).trans ?_
    show xS _ _ 0 1 _ ++ (xS _ _ 1 6 _ ++ (xS _ _ 7 4 _ ++ (xS _ _ 11 11 _ ++ (xS _ _ 22 11 _ ++ (xS _ _ 33 48 _ ++ xS _ _ 81 4 _))))) = _
    rw [p0, p1, p2, p3, p4, p5, p6]
    simp only [List.append_assoc]
  refine W.vret hx hb hr (fun t ht hW => ⟨⟨((fun k => if k < 1 then h0 else if k < 7 then ad0 k else if k < 11 then ad1 k else if k < 22 then ad2 k else if k < 33 then ad3 k else if k < 81 then ad4 k else ad5 k), (fun k => if k < 1 then 0 else if k < 7 then cA0 k else if k < 11 then cA1 k else if k < 22 then cA2 k else if k < 33 then cA3 k else if k < 81 then cA4 k else cA5 k)), rfl, rfl, by rw [ht]; rw [eL]; exact hP, ?_, by rw [eL]; exact hD⟩, hS.F ht⟩) hS.2.2 dX5_init_70
  refine xTy.moved hW.alike (fun k h1 h2 ty ht => ?_)
  by_cases a0 : k = 0
  · subst a0; exact absurd (show (none : Option FieldType) = some ty from ht) (by simp)
  by_cases b0 : k < 7
  · refine zTz (hT0 k (by show 1 ≤ k; omega) (by show k < 1 + 6; omega) ty ht) ?_
    show (if k < 1 then _ else if k < 7 then _ else if k < 11 then _ else if k < 22 then _ else if k < 33 then _ else if k < 81 then _ else _) = _
    rw [if_neg (by omega), if_pos (by omega)]
  by_cases b1 : k < 11
  · refine zTz (hT1 k (by show 7 ≤ k; omega) (by show k < 7 + 4; omega) ty ht) ?_
    show (if k < 1 then _ else if k < 7 then _ else if k < 11 then _ else if k < 22 then _ else if k < 33 then _ else if k < 81 then _ else _) = _
    rw [if_neg (by omega), if_neg (by omega), if_pos (by omega)]
  by_cases b2 : k < 22
  · refine zTz (hT2 k (by show 11 ≤ k; omega) (by show k < 11 + 11; omega) ty ht) ?_
    show (if k < 1 then _ else if k < 7 then _ else if k < 11 then _ else if k < 22 then _ else if k < 33 then _ else if k < 81 then _ else _) = _
    rw [if_neg (by omega), if_neg (by omega), if_neg (by omega), if_pos (by omega)]
  by_cases b3 : k < 33
  · refine zTz (hT3 k (by show 22 ≤ k; omega) (by show k < 22 + 11; omega) ty ht) ?_
    show (if k < 1 then _ else if k < 7 then _ else if k < 11 then _ else if k < 22 then _ else if k < 33 then _ else if k < 81 then _ else _) = _
    rw [if_neg (by omega), if_neg (by omega), if_neg (by omega), if_neg (by omega), if_pos (by omega)]
  by_cases b4 : k < 81
  · refine zTz (hT4 k (by show 33 ≤ k; omega) (by show k < 33 + 48; omega) ty ht) ?_
    show (if k < 1 then _ else if k < 7 then _ else if k < 11 then _ else if k < 22 then _ else if k < 33 then _ else if k < 81 then _ else _) = _
    rw [if_neg (by omega), if_neg (by omega), if_neg (by omega), if_neg (by omega), if_neg (by omega), if_pos (by omega)]
  refine zTz (hT5 k (by show 81 ≤ k; omega) (by show k < 81 + 4; omega) ty ht) ?_
  show (if k < 1 then _ else if k < 7 then _ else if k < 11 then _ else if k < 22 then _ else if k < 33 then _ else if k < 81 then _ else _) = _
  rw [if_neg (by omega), if_neg (by omega), if_neg (by omega), if_neg (by omega), if_neg (by omega), if_neg (by omega)]
