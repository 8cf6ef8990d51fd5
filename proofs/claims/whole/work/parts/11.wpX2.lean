-- ChipVolts$Widening.step(LChipVolts$Net;II)Z, level 1
def wp_X4_step (w : Int32) (mo : Int32) (c : CS) (x : XT) (K : Int32 → CS → XT → Prop) : Prop :=
    ((3 : Int32) ≤ mo →
      K (0 : Int32) c x) ∧
    (¬ (3 : Int32) ≤ mo →
      vp_in w 12 ∧
      vp_in w 12 ∧
      (((c_wide c w.toNatClampNeg) + (x_row x w.toNatClampNeg)) < (6 : Int32) →
        vp_in mo 4 ∧
        vp_in (mo + (1 : Int32)) 4 ∧
        vp_in w 12 ∧
        vp_in w 12 ∧
        ((2 + mo.toNatClampNeg) ≠ (2 + ((mo + (1 : Int32))).toNatClampNeg)) ∧
        wp_X0_alter (2 + ((mo + (1 : Int32))).toNatClampNeg) (2 + mo.toNatClampNeg) (c_from c w.toNatClampNeg) (c_to c w.toNatClampNeg) (1 : Int32) c x (fun r9 c9_ x9_ =>
          (¬ r9 = 0 →
            ((x_umost x9_) ≤ (mo + (1 : Int32)) →
              K (1 : Int32) c9_ x9_) ∧
            (¬ (x_umost x9_) ≤ (mo + (1 : Int32)) →
              ((2 + mo.toNatClampNeg) ≠ (2 + ((mo + (1 : Int32))).toNatClampNeg)) ∧
              wp_X0_alterCells (2 + ((mo + (1 : Int32))).toNatClampNeg) (2 + mo.toNatClampNeg) (1 : Int32) c9_ x9_ (fun c12_ x12_ =>
                K (1 : Int32) c12_ x12_))) ∧
          (r9 = 0 →
            K (0 : Int32) c9_ x9_))) ∧
      (¬ ((c_wide c w.toNatClampNeg) + (x_row x w.toNatClampNeg)) < (6 : Int32) →
        K (0 : Int32) c x))
set_option maxHeartbeats 4000000 in
set_option maxRecDepth 100000 in
theorem snd_X4_step {l : Launch} (w : Int32) (mo : Int32) (c : CS) (x : XT) (K : Int32 → CS → XT → Prop) (h : wp_X4_step w mo c x K) : XM l xTX yX4_step cX4_step 6 (some .boolean) 1 [.ref 33, .ref 1, .int w, .int mo] (wX c x) (fun v ω' => ∃ (r : Int32) (c' : CS) (t' : XT), v = some (.int r) ∧ ω' = wX c' t' ∧ K r c' t') := by
    refine XM.of (by decide) (Nat.le_of_ble_eq_true rfl) (fun κ hQ => ?_)
    show Wat κ 0 [(0, .ref 33), (1, .ref 1), (2, .int w), (3, .int mo)] [] (wX c x)
    unfold wp_X4_step at h
    refine xr_iload_n (pc := 0) κ 3 (x := mo) dX4_step_0 rfl rfl ?_
    refine xr_iconst (pc := 1) κ (v := 3) dX4_step_1 (by decide) ?_
    refine xr_icmp_ge (pc := 2) κ (tgt := 23) dX4_step_2 (by decide) (fun c1 => ?_) (fun c1 => ?_)
    · have h := h.1 c1
      refine xr_iconst (pc := 23) κ (v := 0) dX4_step_23 (by decide) ?_
      exact xr_zret (pc := 24) κ _ hQ rfl dX4_step_24 ⟨_, _, _, rfl, rfl, h⟩
    · have h := h.2 c1
      refine xr_aload_n (pc := 5) κ 1 (x := 1) dX4_step_5 rfl rfl ?_
      refine xr_getN (pc := 6) κ xc2 (k := 1) (f := 6) (v := .ref 5) kw_1_49 (by decide) rfl (by decide) rfl dX4_step_6 ?_
      refine xr_iload_n (pc := 9) κ 2 (x := w) dX4_step_9 rfl rfl ?_
      obtain ⟨i2, h⟩ := h
      refine xr_iald (pc := 10) κ (k := 5) (n := 12) (f := c_wide c) (by decide) rfl rfl i2 dX4_step_10 ?_
      refine xr_aload_n (pc := 11) κ 0 (x := 33) dX4_step_11 rfl rfl ?_
      refine xr_get (pc := 12) κ xc4 (k := 33) (f := 1) (v := .ref 79) kw_1_142 (by decide) rfl (by decide) rfl dX4_step_12 ?_
      refine xr_iload_n (pc := 15) κ 2 (x := w) dX4_step_15 rfl rfl ?_
      obtain ⟨i3, h⟩ := h
      refine xr_iald (pc := 16) κ (k := 79) (n := 12) (f := x_row x) (by decide) rfl rfl i3 dX4_step_16 ?_
      refine xr_iadd (pc := 17) κ dX4_step_17 ?_
      refine xr_bipush (pc := 18) κ (v := 6) dX4_step_18 (by decide) ?_
      refine xr_icmp_lt (pc := 20) κ (tgt := 25) dX4_step_20 (by decide) (fun c4 => ?_) (fun c4 => ?_)
      · have h := h.1 c4
        refine xr_aload_n (pc := 25) κ 0 (x := 33) dX4_step_25 rfl rfl ?_
        refine xr_get (pc := 26) κ xc4 (k := 33) (f := 0) (v := .ref 34) kw_1_141 (by decide) rfl (by decide) rfl dX4_step_26 ?_
        refine xr_iload_n (pc := 29) κ 3 (x := mo) dX4_step_29 rfl rfl ?_
        obtain ⟨i5, h⟩ := h
        refine xr_aald (pc := 30) κ (k := 34) (n := 4) (j := xb (2 + mo.toNatClampNeg)) (by decide) rfl rfl rfl i5 (if_pos (vp_lt i5)) dX4_step_30 ?_
        refine xr_astore (pc := 31) κ [1, 2, 3, 4, 0] (lv' := [(0, .ref 33), (1, .ref 1), (2, .int w), (3, .int mo), (4, .ref (xb (2 + mo.toNatClampNeg)))]) dX4_step_31 (by decide) rfl ?_
        refine xr_aload_n (pc := 33) κ 0 (x := 33) dX4_step_33 rfl rfl ?_
        refine xr_get (pc := 34) κ xc4 (k := 33) (f := 0) (v := .ref 34) kw_1_141 (by decide) rfl (by decide) rfl dX4_step_34 ?_
        refine xr_iload_n (pc := 37) κ 3 (x := mo) dX4_step_37 rfl rfl ?_
        refine xr_iconst (pc := 38) κ (v := 1) dX4_step_38 (by decide) ?_
        refine xr_iadd (pc := 39) κ dX4_step_39 ?_
        obtain ⟨i6, h⟩ := h
        refine xr_aald (pc := 40) κ (k := 34) (n := 4) (j := xb (2 + ((mo + (1 : Int32))).toNatClampNeg)) (by decide) rfl rfl rfl i6 (if_pos (vp_lt i6)) dX4_step_40 ?_
        refine xr_astore (pc := 41) κ [1, 2, 3, 4, 5, 0] (lv' := [(0, .ref 33), (1, .ref 1), (2, .int w), (3, .int mo), (4, .ref (xb (2 + mo.toNatClampNeg))), (5, .ref (xb (2 + ((mo + (1 : Int32))).toNatClampNeg)))]) dX4_step_41 (by decide) rfl ?_
        refine xr_aload (pc := 43) κ 5 (x := (xb (2 + ((mo + (1 : Int32))).toNatClampNeg))) dX4_step_43 rfl ?_
        refine xr_aload (pc := 45) κ 4 (x := (xb (2 + mo.toNatClampNeg))) dX4_step_45 rfl ?_
        refine xr_aload_n (pc := 47) κ 1 (x := 1) dX4_step_47 rfl rfl ?_
        refine xr_getN (pc := 48) κ xc2 (k := 1) (f := 4) (v := .ref 3) kw_1_40 (by decide) rfl (by decide) rfl dX4_step_48 ?_
        refine xr_iload_n (pc := 51) κ 2 (x := w) dX4_step_51 rfl rfl ?_
        obtain ⟨i7, h⟩ := h
        refine xr_iald (pc := 52) κ (k := 3) (n := 12) (f := c_from c) (by decide) rfl rfl i7 dX4_step_52 ?_
        refine xr_aload_n (pc := 53) κ 1 (x := 1) dX4_step_53 rfl rfl ?_
        refine xr_getN (pc := 54) κ xc2 (k := 1) (f := 5) (v := .ref 4) kw_1_44 (by decide) rfl (by decide) rfl dX4_step_54 ?_
        refine xr_iload_n (pc := 57) κ 2 (x := w) dX4_step_57 rfl rfl ?_
        obtain ⟨i8, h⟩ := h
        refine xr_iald (pc := 58) κ (k := 4) (n := 12) (f := c_to c) (by decide) rfl rfl i8 dX4_step_58 ?_
        refine xr_iconst (pc := 59) κ (v := 1) dX4_step_59 (by decide) ?_
        obtain ⟨i14, h⟩ := h
        refine xr_callVN (pc := 60) κ [.ref (xb (2 + mo.toNatClampNeg)), .int (c_from c w.toNatClampNeg), .int (c_to c w.toNatClampNeg), .int (1 : Int32)] kw_2_197 tg_X0_alter (snd_X0_alter (2 + ((mo + (1 : Int32))).toNatClampNeg) (2 + mo.toNatClampNeg) (by have := vp_lt i6; omega) (by have := vp_lt i5; omega) i14 _ _ _ _ _ _ h) rfl (by decide) (by decide) (xb_lt (j := 0) (by have := vp_lt i6; omega) (by decide)) (wXb_obj _ _ (by have := vp_lt i6; omega)) (ci := 0) rfl rfl (Nat.le_of_ble_eq_true rfl) dX4_step_60 (fun v9 ω9 hk9 => ?_)
        obtain ⟨r9, c9_, x9_, rfl, rfl, h⟩ := hk9
        skip
        show Wat κ 63 [(0, .ref 33), (1, .ref 1), (2, .int w), (3, .int mo), (4, .ref (xb (2 + mo.toNatClampNeg))), (5, .ref (xb (2 + ((mo + (1 : Int32))).toNatClampNeg)))] [.int r9] (wX c9_ x9_)
        refine xr_if_ne (pc := 63) κ (tgt := 68) dX4_step_63 (by decide) (fun c10 => ?_) (fun c10 => ?_)
        · have h := h.1 c10
          refine xr_iload_n (pc := 68) κ 3 (x := mo) dX4_step_68 rfl rfl ?_
          refine xr_iconst (pc := 69) κ (v := 1) dX4_step_69 (by decide) ?_
          refine xr_iadd (pc := 70) κ dX4_step_70 ?_
          refine xr_aload_n (pc := 71) κ 0 (x := 33) dX4_step_71 rfl rfl ?_
          refine xr_get (pc := 72) κ xc4 (k := 33) (f := 6) (v := .int (x_umost x9_)) kw_1_148 (by decide) rfl (by decide) rfl dX4_step_72 ?_
          refine xr_icmp_ge (pc := 75) κ (tgt := 86) dX4_step_75 (by decide) (fun c11 => ?_) (fun c11 => ?_)
          · have h := h.1 c11
            refine xr_iconst (pc := 86) κ (v := 1) dX4_step_86 (by decide) ?_
            exact xr_zret (pc := 87) κ _ hQ rfl dX4_step_87 ⟨_, _, _, rfl, rfl, h⟩
          · have h := h.2 c11
            refine xr_aload (pc := 78) κ 5 (x := (xb (2 + ((mo + (1 : Int32))).toNatClampNeg))) dX4_step_78 rfl ?_
            refine xr_aload (pc := 80) κ 4 (x := (xb (2 + mo.toNatClampNeg))) dX4_step_80 rfl ?_
            refine xr_iconst (pc := 82) κ (v := 1) dX4_step_82 (by decide) ?_
            obtain ⟨i13, h⟩ := h
            refine xr_callVN (pc := 83) κ [.ref (xb (2 + mo.toNatClampNeg)), .int (1 : Int32)] kw_2_198 tg_X0_alterCells (snd_X0_alterCells (2 + ((mo + (1 : Int32))).toNatClampNeg) (2 + mo.toNatClampNeg) (by have := vp_lt i6; omega) (by have := vp_lt i5; omega) i13 _ _ _ _ h) rfl (by decide) (by decide) (xb_lt (j := 0) (by have := vp_lt i6; omega) (by decide)) (wXb_obj _ _ (by have := vp_lt i6; omega)) (ci := 0) rfl rfl (Nat.le_of_ble_eq_true rfl) dX4_step_83 (fun v9 ω9 hk9 => ?_)
            obtain ⟨c12_, x12_, rfl, rfl, h⟩ := hk9
            skip
            show Wat κ 86 [(0, .ref 33), (1, .ref 1), (2, .int w), (3, .int mo), (4, .ref (xb (2 + mo.toNatClampNeg))), (5, .ref (xb (2 + ((mo + (1 : Int32))).toNatClampNeg)))] [] (wX c12_ x12_)
            refine xr_iconst (pc := 86) κ (v := 1) dX4_step_86 (by decide) ?_
            exact xr_zret (pc := 87) κ _ hQ rfl dX4_step_87 ⟨_, _, _, rfl, rfl, h⟩
        · have h := h.2 c10
          refine xr_iconst (pc := 66) κ (v := 0) dX4_step_66 (by decide) ?_
          exact xr_zret (pc := 67) κ _ hQ rfl dX4_step_67 ⟨_, _, _, rfl, rfl, h⟩
      · have h := h.2 c4
        refine xr_iconst (pc := 23) κ (v := 0) dX4_step_23 (by decide) ?_
        exact xr_zret (pc := 24) κ _ hQ rfl dX4_step_24 ⟨_, _, _, rfl, rfl, h⟩
-- ChipVolts$Widening.tryFrom(LChipVolts$Widening;LChipVolts$Net;III)V, level 3
def nd_X4_tryFrom_128 (S : Int32 → Int32 → Int32 → CS → XT → (CS → XT → Prop) → Prop) (K : CS → XT → Prop) (L53 : Int32 → Int32 → Int32 → CS → XT → Prop) (v3 : Int32) (v4 : Int32) (v5 : Int32) (c : CS) (x : XT) : Prop :=
    L53 v3 v4 (v5 + 1) c x
set_option maxHeartbeats 4000000 in
set_option maxRecDepth 100000 in
theorem snd_X4_tryFrom_128 {l : Launch} {lv : Nat} (hlv : 3 ≤ lv + 1) (κ : XC l xTX cX4_tryFrom yX4_tryFrom.cls 7 (none) (lv + 1)) (S : Int32 → Int32 → Int32 → CS → XT → (CS → XT → Prop) → Prop) (hS : ∀ (fi : Int32) (mo : Int32) (pr : Int32) (c : CS) (x : XT) (K : CS → XT → Prop), S fi mo pr c x K → XM l xTX yX4_tryFrom cX4_tryFrom 7 (none) lv [.ref 33, .ref 1, .int fi, .int mo, .int pr] (wX c x) (fun v ω' => ∃ (c' : CS) (t' : XT), v = none ∧ ω' = wX c' t' ∧ K c' t')) (K : CS → XT → Prop) (hQ : xRet κ (fun v ω' => ∃ (c' : CS) (t' : XT), v = none ∧ ω' = wX c' t' ∧ K c' t')) (L53 : Int32 → Int32 → Int32 → CS → XT → Prop) (hL53 : ∀ (v3 : Int32) (v4 : Int32) (v5 : Int32) (c : CS) (x : XT), L53 v3 v4 v5 c x → Wat κ 53 [(0, .ref 33), (1, .ref 1), (3, .int v3), (4, .int v4), (5, .int v5)] [] (wX c x)) (v3 : Int32) (v4 : Int32) (v5 : Int32) (c : CS) (x : XT) (h : nd_X4_tryFrom_128 S K L53 v3 v4 v5 c x) : Wat κ 128 [(0, .ref 33), (1, .ref 1), (3, .int v3), (4, .int v4), (5, .int v5)] [] (wX c x) := by
    unfold nd_X4_tryFrom_128 at h
    refine xr_iinc (pc := 128) κ 4 [1, 2, 3, 4, 0] (lv' := [(0, .ref 33), (1, .ref 1), (3, .int v3), (4, .int v4), (5, .int (v5 + 1))]) (x := v5) (v := v5 + 1) dX4_tryFrom_128 rfl rfl (by decide) rfl ?_
    refine xr_goto (pc := 131) κ (tgt := 53) dX4_tryFrom_131 (by decide) ?_
    exact hL53 _ _ _ _ _ h
def nd_X4_tryFrom_53 (S : Int32 → Int32 → Int32 → CS → XT → (CS → XT → Prop) → Prop) (K : CS → XT → Prop) : Nat → Int32 → Int32 → Int32 → CS → XT → Prop
  | 0 => fun _ _ _ _ _ => False
  | n + 1 => fun v3 v4 v5 c x =>
    ((c_wires c) ≤ v5 →
      K c x) ∧
    (¬ (c_wires c) ≤ v5 →
      vp_in v5 12 ∧
      wp_X4_isTooDear (v4 + (c_price c v5.toNatClampNeg)) c x (fun r10 c10_ x10_ =>
        (¬ r10 = 0 →
          nd_X4_tryFrom_128 S K (fun v3 v4 v5 c x => nd_X4_tryFrom_53 S K n v3 v4 v5 c x) v3 v4 v5 c10_ x10_) ∧
        (r10 = 0 →
          wp_X4_step v5 v3 c10_ x10_ (fun r12 c12_ x12_ =>
            (r12 = 0 →
              nd_X4_tryFrom_128 S K (fun v3 v4 v5 c x => nd_X4_tryFrom_53 S K n v3 v4 v5 c x) v3 v4 v5 c12_ x12_) ∧
            (¬ r12 = 0 →
              vp_in v5 12 ∧
              vp_in v5 12 ∧
              S v5 (v3 + (1 : Int32)) (v4 + (c_price c v5.toNatClampNeg)) c12_ (xs_row x12_ (upd (x_row x12_) v5.toNatClampNeg ((x_row x12_ v5.toNatClampNeg) + (1 : Int32)))) (fun c16_ x16_ =>
                vp_in v5 12 ∧
                vp_in v5 12 ∧
                nd_X4_tryFrom_128 S K (fun v3 v4 v5 c x => nd_X4_tryFrom_53 S K n v3 v4 v5 c x) v3 v4 v5 c16_ (xs_row x16_ (upd (x_row x16_) v5.toNatClampNeg ((x_row x16_ v5.toNatClampNeg) - (1 : Int32))))))))))
set_option maxHeartbeats 4000000 in
set_option maxRecDepth 100000 in
theorem snd_X4_tryFrom_53 {l : Launch} {lv : Nat} (hlv : 3 ≤ lv + 1) (κ : XC l xTX cX4_tryFrom yX4_tryFrom.cls 7 (none) (lv + 1)) (S : Int32 → Int32 → Int32 → CS → XT → (CS → XT → Prop) → Prop) (hS : ∀ (fi : Int32) (mo : Int32) (pr : Int32) (c : CS) (x : XT) (K : CS → XT → Prop), S fi mo pr c x K → XM l xTX yX4_tryFrom cX4_tryFrom 7 (none) lv [.ref 33, .ref 1, .int fi, .int mo, .int pr] (wX c x) (fun v ω' => ∃ (c' : CS) (t' : XT), v = none ∧ ω' = wX c' t' ∧ K c' t')) (K : CS → XT → Prop) (hQ : xRet κ (fun v ω' => ∃ (c' : CS) (t' : XT), v = none ∧ ω' = wX c' t' ∧ K c' t')) : ∀ (n : Nat) (v3 : Int32) (v4 : Int32) (v5 : Int32) (c : CS) (x : XT), nd_X4_tryFrom_53 S K n v3 v4 v5 c x → Wat κ 53 [(0, .ref 33), (1, .ref 1), (3, .int v3), (4, .int v4), (5, .int v5)] [] (wX c x) := by
  intro n
  induction n with
  | zero => intro v3 v4 v5 c x h; exact h.elim
  | succ n ih =>
    intro v3 v4 v5 c x h
    unfold nd_X4_tryFrom_53 at h
    refine xr_iload (pc := 53) κ 4 (x := v5) dX4_tryFrom_53 rfl ?_
    refine xr_aload_n (pc := 55) κ 1 (x := 1) dX4_tryFrom_55 rfl rfl ?_
    refine xr_getN (pc := 56) κ xc2 (k := 1) (f := 1) (v := .int (c_wires c)) kw_1_29 (by decide) rfl (by decide) rfl dX4_tryFrom_56 ?_
    refine xr_icmp_ge (pc := 59) κ (tgt := 134) dX4_tryFrom_59 (by decide) (fun c8 => ?_) (fun c8 => ?_)
    · have h := h.1 c8
      exact xr_vret (pc := 134) κ _ hQ dX4_tryFrom_134 ⟨_, _, rfl, rfl, h⟩
    · have h := h.2 c8
      refine xr_iload (pc := 62) κ 3 (x := v4) dX4_tryFrom_62 rfl ?_
      refine xr_aload_n (pc := 64) κ 1 (x := 1) dX4_tryFrom_64 rfl rfl ?_
      refine xr_getN (pc := 65) κ xc2 (k := 1) (f := 7) (v := .ref 6) kw_1_51 (by decide) rfl (by decide) rfl dX4_tryFrom_65 ?_
      refine xr_iload (pc := 68) κ 4 (x := v5) dX4_tryFrom_68 rfl ?_
      obtain ⟨i9, h⟩ := h
      refine xr_iald (pc := 70) κ (k := 6) (n := 12) (f := c_price c) (by decide) rfl rfl i9 dX4_tryFrom_70 ?_
      refine xr_iadd (pc := 71) κ dX4_tryFrom_71 ?_
      refine xr_istore (pc := 72) κ [1, 2, 3, 4, 5, 0] (lv' := [(0, .ref 33), (1, .ref 1), (3, .int v3), (4, .int v4), (5, .int v5), (6, .int (v4 + (c_price c v5.toNatClampNeg)))]) dX4_tryFrom_72 (by decide) rfl ?_
      refine xr_aload_n (pc := 74) κ 0 (x := 33) dX4_tryFrom_74 rfl rfl ?_
      refine xr_iload (pc := 75) κ 5 (x := (v4 + (c_price c v5.toNatClampNeg))) dX4_tryFrom_75 rfl ?_
      refine xr_callV (pc := 77) κ [.int (v4 + (c_price c v5.toNatClampNeg))] kw_2_189 tg_X4_isTooDear (snd_X4_isTooDear _ _ _ _ h) rfl (by omega) (by decide) (by decide) rfl (ci := 4) rfl rfl (Nat.le_of_ble_eq_true rfl) dX4_tryFrom_77 (fun v9 ω9 hk9 => ?_)
      obtain ⟨r10, c10_, x10_, rfl, rfl, h⟩ := hk9
      skip
      show Wat κ 80 [(0, .ref 33), (1, .ref 1), (3, .int v3), (4, .int v4), (5, .int v5), (6, .int (v4 + (c_price c v5.toNatClampNeg)))] [.int r10] (wX c10_ x10_)
      refine xr_if_ne (pc := 80) κ (tgt := 128) dX4_tryFrom_80 (by decide) (fun c11 => ?_) (fun c11 => ?_)
      · have h := h.1 c11
        refine xr_sub (pc := 128) κ [0, 1, 2, 3, 4] (lv' := [(0, .ref 33), (1, .ref 1), (3, .int v3), (4, .int v4), (5, .int v5)]) rfl ?_
        exact snd_X4_tryFrom_128 hlv κ S hS K hQ _ ih _ _ _ _ _ h
      · have h := h.2 c11
        refine xr_aload_n (pc := 83) κ 0 (x := 33) dX4_tryFrom_83 rfl rfl ?_
        refine xr_aload_n (pc := 84) κ 1 (x := 1) dX4_tryFrom_84 rfl rfl ?_
        refine xr_iload (pc := 85) κ 4 (x := v5) dX4_tryFrom_85 rfl ?_
        refine xr_iload_n (pc := 87) κ 2 (x := v3) dX4_tryFrom_87 rfl rfl ?_
        refine xr_callV (pc := 88) κ [.ref 1, .int v5, .int v3] kw_2_193 tg_X4_step (snd_X4_step _ _ _ _ _ h) rfl (by omega) (by decide) (by decide) rfl (ci := 4) rfl rfl (Nat.le_of_ble_eq_true rfl) dX4_tryFrom_88 (fun v9 ω9 hk9 => ?_)
        obtain ⟨r12, c12_, x12_, rfl, rfl, h⟩ := hk9
        skip
        show Wat κ 91 [(0, .ref 33), (1, .ref 1), (3, .int v3), (4, .int v4), (5, .int v5), (6, .int (v4 + (c_price c v5.toNatClampNeg)))] [.int r12] (wX c12_ x12_)
        refine xr_if_eq (pc := 91) κ (tgt := 128) dX4_tryFrom_91 (by decide) (fun c13 => ?_) (fun c13 => ?_)
        · have h := h.1 c13
          refine xr_sub (pc := 128) κ [0, 1, 2, 3, 4] (lv' := [(0, .ref 33), (1, .ref 1), (3, .int v3), (4, .int v4), (5, .int v5)]) rfl ?_
          exact snd_X4_tryFrom_128 hlv κ S hS K hQ _ ih _ _ _ _ _ h
        · have h := h.2 c13
          refine xr_aload_n (pc := 94) κ 0 (x := 33) dX4_tryFrom_94 rfl rfl ?_
          refine xr_get (pc := 95) κ xc4 (k := 33) (f := 1) (v := .ref 79) kw_1_142 (by decide) rfl (by decide) rfl dX4_tryFrom_95 ?_
          refine xr_iload (pc := 98) κ 4 (x := v5) dX4_tryFrom_98 rfl ?_
          refine xr_dup2 (pc := 100) κ rfl rfl dX4_tryFrom_100 ?_
          obtain ⟨i14, h⟩ := h
          refine xr_iald (pc := 101) κ (k := 79) (n := 12) (f := x_row x12_) (by decide) rfl rfl i14 dX4_tryFrom_101 ?_
          refine xr_iconst (pc := 102) κ (v := 1) dX4_tryFrom_102 (by decide) ?_
          refine xr_iadd (pc := 103) κ dX4_tryFrom_103 ?_
          obtain ⟨i15, h⟩ := h
          refine xr_iast (pc := 104) κ (k := 79) (n := 12) (f := x_row x12_) (ω' := wX c12_ (xs_row x12_ (upd (x_row x12_) v5.toNatClampNeg ((x_row x12_ v5.toNatClampNeg) + (1 : Int32))))) (by decide) rfl rfl i15 (wXa_row _ _ _) dX4_tryFrom_104 ?_
          refine xr_aload_n (pc := 105) κ 0 (x := 33) dX4_tryFrom_105 rfl rfl ?_
          refine xr_aload_n (pc := 106) κ 1 (x := 1) dX4_tryFrom_106 rfl rfl ?_
          refine xr_iload (pc := 107) κ 4 (x := v5) dX4_tryFrom_107 rfl ?_
          refine xr_iload_n (pc := 109) κ 2 (x := v3) dX4_tryFrom_109 rfl rfl ?_
          refine xr_iconst (pc := 110) κ (v := 1) dX4_tryFrom_110 (by decide) ?_
          refine xr_iadd (pc := 111) κ dX4_tryFrom_111 ?_
          refine xr_iload (pc := 112) κ 5 (x := (v4 + (c_price c v5.toNatClampNeg))) dX4_tryFrom_112 rfl ?_
          refine xr_callS (pc := 114) κ [.ref 33, .ref 1, .int v5, .int (v3 + (1 : Int32)), .int (v4 + (c_price c v5.toNatClampNeg))] kw_2_174 tg_X4_tryFrom (hS _ _ _ _ _ _ h) rfl (Nat.le_refl _) (by decide) (Nat.le_of_ble_eq_true rfl) dX4_tryFrom_114 (fun v9 ω9 hk9 => ?_)
          obtain ⟨c16_, x16_, rfl, rfl, h⟩ := hk9
          skip
          show Wat κ 117 [(0, .ref 33), (1, .ref 1), (3, .int v3), (4, .int v4), (5, .int v5), (6, .int (v4 + (c_price c v5.toNatClampNeg)))] [] (wX c16_ x16_)
          refine xr_aload_n (pc := 117) κ 0 (x := 33) dX4_tryFrom_117 rfl rfl ?_
          refine xr_get (pc := 118) κ xc4 (k := 33) (f := 1) (v := .ref 79) kw_1_142 (by decide) rfl (by decide) rfl dX4_tryFrom_118 ?_
          refine xr_iload (pc := 121) κ 4 (x := v5) dX4_tryFrom_121 rfl ?_
          refine xr_dup2 (pc := 123) κ rfl rfl dX4_tryFrom_123 ?_
          obtain ⟨i17, h⟩ := h
          refine xr_iald (pc := 124) κ (k := 79) (n := 12) (f := x_row x16_) (by decide) rfl rfl i17 dX4_tryFrom_124 ?_
          refine xr_iconst (pc := 125) κ (v := 1) dX4_tryFrom_125 (by decide) ?_
          refine xr_isub (pc := 126) κ dX4_tryFrom_126 ?_
          obtain ⟨i18, h⟩ := h
          refine xr_iast (pc := 127) κ (k := 79) (n := 12) (f := x_row x16_) (ω' := wX c16_ (xs_row x16_ (upd (x_row x16_) v5.toNatClampNeg ((x_row x16_ v5.toNatClampNeg) - (1 : Int32))))) (by decide) rfl rfl i18 (wXa_row _ _ _) dX4_tryFrom_127 ?_
          refine xr_sub (pc := 128) κ [0, 1, 2, 3, 4] (lv' := [(0, .ref 33), (1, .ref 1), (3, .int v3), (4, .int v4), (5, .int v5)]) rfl ?_
          exact snd_X4_tryFrom_128 hlv κ S hS K hQ _ ih _ _ _ _ _ h
def nd_X4_tryFrom_41 (S : Int32 → Int32 → Int32 → CS → XT → (CS → XT → Prop) → Prop) (K : CS → XT → Prop) (v2 : Int32) (v3 : Int32) (v4 : Int32) (c : CS) (x : XT) : Prop :=
    (¬ v3 = (x_umost x) →
      ∃ n53 : Nat, nd_X4_tryFrom_53 S K n53 v3 v4 v2 c x) ∧
    (v3 = (x_umost x) →
      K c x)
set_option maxHeartbeats 4000000 in
set_option maxRecDepth 100000 in
theorem snd_X4_tryFrom_41 {l : Launch} {lv : Nat} (hlv : 3 ≤ lv + 1) (κ : XC l xTX cX4_tryFrom yX4_tryFrom.cls 7 (none) (lv + 1)) (S : Int32 → Int32 → Int32 → CS → XT → (CS → XT → Prop) → Prop) (hS : ∀ (fi : Int32) (mo : Int32) (pr : Int32) (c : CS) (x : XT) (K : CS → XT → Prop), S fi mo pr c x K → XM l xTX yX4_tryFrom cX4_tryFrom 7 (none) lv [.ref 33, .ref 1, .int fi, .int mo, .int pr] (wX c x) (fun v ω' => ∃ (c' : CS) (t' : XT), v = none ∧ ω' = wX c' t' ∧ K c' t')) (K : CS → XT → Prop) (hQ : xRet κ (fun v ω' => ∃ (c' : CS) (t' : XT), v = none ∧ ω' = wX c' t' ∧ K c' t')) (v2 : Int32) (v3 : Int32) (v4 : Int32) (c : CS) (x : XT) (h : nd_X4_tryFrom_41 S K v2 v3 v4 c x) : Wat κ 41 [(0, .ref 33), (1, .ref 1), (2, .int v2), (3, .int v3), (4, .int v4)] [] (wX c x) := by
    unfold nd_X4_tryFrom_41 at h
    refine xr_iload_n (pc := 41) κ 3 (x := v3) dX4_tryFrom_41 rfl rfl ?_
    refine xr_aload_n (pc := 42) κ 0 (x := 33) dX4_tryFrom_42 rfl rfl ?_
    refine xr_get (pc := 43) κ xc4 (k := 33) (f := 6) (v := .int (x_umost x)) kw_1_148 (by decide) rfl (by decide) rfl dX4_tryFrom_43 ?_
    refine xr_icmp_ne (pc := 46) κ (tgt := 50) dX4_tryFrom_46 (by decide) (fun c7 => ?_) (fun c7 => ?_)
    · have h := h.1 c7
      refine xr_iload_n (pc := 50) κ 2 (x := v2) dX4_tryFrom_50 rfl rfl ?_
      refine xr_istore (pc := 51) κ [1, 2, 3, 4, 5, 0] (lv' := [(0, .ref 33), (1, .ref 1), (2, .int v2), (3, .int v3), (4, .int v4), (5, .int v2)]) dX4_tryFrom_51 (by decide) rfl ?_
      refine xr_sub (pc := 53) κ [0, 1, 3, 4, 5] (lv' := [(0, .ref 33), (1, .ref 1), (3, .int v3), (4, .int v4), (5, .int v2)]) rfl ?_
      obtain ⟨n0, h⟩ := h
      exact snd_X4_tryFrom_53 hlv κ S hS K hQ n0 _ _ _ _ _ h
    · have h := h.2 c7
      exact xr_vret (pc := 49) κ _ hQ dX4_tryFrom_49 ⟨_, _, rfl, rfl, h⟩
def wq_X4_tryFrom (S : Int32 → Int32 → Int32 → CS → XT → (CS → XT → Prop) → Prop) (fi : Int32) (mo : Int32) (pr : Int32) (c : CS) (x : XT) (K : CS → XT → Prop) : Prop :=
    (mo < 0 →
      K c x) ∧
    (¬ mo < 0 →
      ((x_umost x) < mo →
        K c x) ∧
      (¬ (x_umost x) < mo →
        (mo ≤ (3 : Int32) →
          vp_in mo 4 ∧
          wp_X0_isWithin (2 + mo.toNatClampNeg) (x_limit x) c x (fun r5 c5_ x5_ =>
            (r5 = 0 →
              nd_X4_tryFrom_41 S K fi mo pr c5_ x5_) ∧
            (¬ r5 = 0 →
              wp_X4_keepIfBetter mo pr c5_ x5_ (fun c19_ x19_ =>
                nd_X4_tryFrom_41 S K fi mo pr c19_ x19_)))) ∧
        (¬ mo ≤ (3 : Int32) →
          K c x)))
set_option maxHeartbeats 4000000 in
set_option maxRecDepth 100000 in
theorem snq_X4_tryFrom {l : Launch} {lv : Nat} (hlv : 3 ≤ lv + 1) (S : Int32 → Int32 → Int32 → CS → XT → (CS → XT → Prop) → Prop) (hS : ∀ (fi : Int32) (mo : Int32) (pr : Int32) (c : CS) (x : XT) (K : CS → XT → Prop), S fi mo pr c x K → XM l xTX yX4_tryFrom cX4_tryFrom 7 (none) lv [.ref 33, .ref 1, .int fi, .int mo, .int pr] (wX c x) (fun v ω' => ∃ (c' : CS) (t' : XT), v = none ∧ ω' = wX c' t' ∧ K c' t')) (fi : Int32) (mo : Int32) (pr : Int32) (c : CS) (x : XT) (K : CS → XT → Prop) (h : wq_X4_tryFrom S fi mo pr c x K) : XM l xTX yX4_tryFrom cX4_tryFrom 7 (none) (lv + 1) [.ref 33, .ref 1, .int fi, .int mo, .int pr] (wX c x) (fun v ω' => ∃ (c' : CS) (t' : XT), v = none ∧ ω' = wX c' t' ∧ K c' t') := by
    refine XM.of (by decide) (Nat.le_of_ble_eq_true rfl) (fun κ hQ => ?_)
    show Wat κ 0 [(0, .ref 33), (1, .ref 1), (2, .int fi), (3, .int mo), (4, .int pr)] [] (wX c x)
    unfold wq_X4_tryFrom at h
    refine xr_iload_n (pc := 0) κ 3 (x := mo) dX4_tryFrom_0 rfl rfl ?_
    refine xr_if_lt (pc := 1) κ (tgt := 17) dX4_tryFrom_1 (by decide) (fun c1 => ?_) (fun c1 => ?_)
    · have h := h.1 c1
      exact xr_vret (pc := 17) κ _ hQ dX4_tryFrom_17 ⟨_, _, rfl, rfl, h⟩
    · have h := h.2 c1
      refine xr_iload_n (pc := 4) κ 3 (x := mo) dX4_tryFrom_4 rfl rfl ?_
      refine xr_aload_n (pc := 5) κ 0 (x := 33) dX4_tryFrom_5 rfl rfl ?_
      refine xr_get (pc := 6) κ xc4 (k := 33) (f := 6) (v := .int (x_umost x)) kw_1_148 (by decide) rfl (by decide) rfl dX4_tryFrom_6 ?_
      refine xr_icmp_gt (pc := 9) κ (tgt := 17) dX4_tryFrom_9 (by decide) (fun c2 => ?_) (fun c2 => ?_)
      · have h := h.1 c2
        exact xr_vret (pc := 17) κ _ hQ dX4_tryFrom_17 ⟨_, _, rfl, rfl, h⟩
      · have h := h.2 c2
        refine xr_iload_n (pc := 12) κ 3 (x := mo) dX4_tryFrom_12 rfl rfl ?_
        refine xr_iconst (pc := 13) κ (v := 3) dX4_tryFrom_13 (by decide) ?_
        refine xr_icmp_le (pc := 14) κ (tgt := 18) dX4_tryFrom_14 (by decide) (fun c3 => ?_) (fun c3 => ?_)
        · have h := h.1 c3
          refine xr_aload_n (pc := 18) κ 0 (x := 33) dX4_tryFrom_18 rfl rfl ?_
          refine xr_get (pc := 19) κ xc4 (k := 33) (f := 0) (v := .ref 34) kw_1_141 (by decide) rfl (by decide) rfl dX4_tryFrom_19 ?_
          refine xr_iload_n (pc := 22) κ 3 (x := mo) dX4_tryFrom_22 rfl rfl ?_
          obtain ⟨i4, h⟩ := h
          refine xr_aald (pc := 23) κ (k := 34) (n := 4) (j := xb (2 + mo.toNatClampNeg)) (by decide) rfl rfl rfl i4 (if_pos (vp_lt i4)) dX4_tryFrom_23 ?_
          refine xr_aload_n (pc := 24) κ 0 (x := 33) dX4_tryFrom_24 rfl rfl ?_
          refine xr_get (pc := 25) κ xc4 (k := 33) (f := 5) (v := .int (x_limit x)) kw_1_147 (by decide) rfl (by decide) rfl dX4_tryFrom_25 ?_
          refine xr_callVN (pc := 28) κ [.int (x_limit x)] kw_2_177 tg_X0_isWithin (snd_X0_isWithin (2 + mo.toNatClampNeg) (by have := vp_lt i4; omega) _ _ _ _ h) rfl (by omega) (by decide) (xb_lt (j := 0) (by have := vp_lt i4; omega) (by decide)) (wXb_obj _ _ (by have := vp_lt i4; omega)) (ci := 0) rfl rfl (Nat.le_of_ble_eq_true rfl) dX4_tryFrom_28 (fun v9 ω9 hk9 => ?_)
          obtain ⟨r5, c5_, x5_, rfl, rfl, h⟩ := hk9
          skip
          show Wat κ 31 [(0, .ref 33), (1, .ref 1), (2, .int fi), (3, .int mo), (4, .int pr)] [.int r5] (wX c5_ x5_)
          refine xr_if_eq (pc := 31) κ (tgt := 41) dX4_tryFrom_31 (by decide) (fun c6 => ?_) (fun c6 => ?_)
          · have h := h.1 c6
            exact snd_X4_tryFrom_41 hlv κ S hS K hQ _ _ _ _ _ h
          · have h := h.2 c6
            refine xr_aload_n (pc := 34) κ 0 (x := 33) dX4_tryFrom_34 rfl rfl ?_
            refine xr_iload_n (pc := 35) κ 3 (x := mo) dX4_tryFrom_35 rfl rfl ?_
            refine xr_iload (pc := 36) κ 4 (x := pr) dX4_tryFrom_36 rfl ?_
            refine xr_callV (pc := 38) κ [.int mo, .int pr] kw_2_182 tg_X4_keepIfBetter (snd_X4_keepIfBetter _ _ _ _ _ h) rfl (by omega) (by decide) (by decide) rfl (ci := 4) rfl rfl (Nat.le_of_ble_eq_true rfl) dX4_tryFrom_38 (fun v9 ω9 hk9 => ?_)
            obtain ⟨c19_, x19_, rfl, rfl, h⟩ := hk9
            skip
            show Wat κ 41 [(0, .ref 33), (1, .ref 1), (2, .int fi), (3, .int mo), (4, .int pr)] [] (wX c19_ x19_)
            exact snd_X4_tryFrom_41 hlv κ S hS K hQ _ _ _ _ _ h
        · have h := h.2 c3
          exact xr_vret (pc := 17) κ _ hQ dX4_tryFrom_17 ⟨_, _, rfl, rfl, h⟩
def wr_X4_tryFrom : Nat → Int32 → Int32 → Int32 → CS → XT → (CS → XT → Prop) → Prop
  | 0 => fun _ _ _ _ _ _ => False
  | n + 1 => fun fi mo pr c x K => wq_X4_tryFrom (wr_X4_tryFrom n) fi mo pr c x K
theorem snr_X4_tryFrom {l : Launch} : ∀ (n : Nat) (fi mo pr : Int32) (c : CS) (x : XT) (K : CS → XT → Prop), wr_X4_tryFrom n fi mo pr c x K → XM l xTX yX4_tryFrom cX4_tryFrom 7 (none) (3 + n) [.ref 33, .ref 1, .int fi, .int mo, .int pr] (wX c x) (fun v ω' => ∃ (c' : CS) (t' : XT), v = none ∧ ω' = wX c' t' ∧ K c' t')
  | 0 => fun _ _ _ _ _ _ h => h.elim
  | n + 1 => fun fi mo pr c x K h => snq_X4_tryFrom (lv := 3 + n) (by omega) (wr_X4_tryFrom n) (snr_X4_tryFrom n) fi mo pr c x K h
abbrev wp_X4_tryFrom (fi mo pr : Int32) (c : CS) (x : XT) (K : CS → XT → Prop) : Prop := wr_X4_tryFrom 5 fi mo pr c x K
theorem snd_X4_tryFrom {l : Launch} (fi mo pr : Int32) (c : CS) (x : XT) (K : CS → XT → Prop) (h : wp_X4_tryFrom fi mo pr c x K) : XM l xTX yX4_tryFrom cX4_tryFrom 7 (none) 8 [.ref 33, .ref 1, .int fi, .int mo, .int pr] (wX c x) (fun v ω' => ∃ (c' : CS) (t' : XT), v = none ∧ ω' = wX c' t' ∧ K c' t') := snr_X4_tryFrom 5 fi mo pr c x K h
-- ChipVolts$Widening.search(LChipVolts$Net;II)I, level 9
def nd_X4_search_23 (K : Int32 → CS → XT → Prop) : Nat → Int32 → Int32 → Int32 → CS → XT → Prop
  | 0 => fun _ _ _ _ _ => False
  | n + 1 => fun v2 v3 v4 c x =>
    ((12 : Int32) ≤ v4 →
      wp_X4_tryFrom (0 : Int32) (0 : Int32) (0 : Int32) c (xs_bestPrice (xs_umost (xs_limit x v2) v3) (-1 : Int32)) (fun c5_ x5_ =>
        K (x_bestPrice x5_) c5_ x5_)) ∧
    (¬ (12 : Int32) ≤ v4 →
      vp_in v4 12 ∧
      nd_X4_search_23 K n v2 v3 (v4 + 1) c (xs_row x (upd (x_row x) v4.toNatClampNeg (0 : Int32))))
set_option maxHeartbeats 4000000 in
set_option maxRecDepth 100000 in
theorem snd_X4_search_23 {l : Launch} (κ : XC l xTX cX4_search yX4_search.cls 5 (some .int) 9) (K : Int32 → CS → XT → Prop) (hQ : xRet κ (fun v ω' => ∃ (r : Int32) (c' : CS) (t' : XT), v = some (.int r) ∧ ω' = wX c' t' ∧ K r c' t')) : ∀ (n : Nat) (v2 : Int32) (v3 : Int32) (v4 : Int32) (c : CS) (x : XT), nd_X4_search_23 K n v2 v3 v4 c x → Wat κ 23 [(0, .ref 33), (1, .ref 1), (2, .int v2), (3, .int v3), (4, .int v4)] [] (wX c x) := by
  intro n
  induction n with
  | zero => intro v2 v3 v4 c x h; exact h.elim
  | succ n ih =>
    intro v2 v3 v4 c x h
    unfold nd_X4_search_23 at h
    refine xr_iload (pc := 23) κ 4 (x := v4) dX4_search_23 rfl ?_
    refine xr_bipush (pc := 25) κ (v := 12) dX4_search_25 (by decide) ?_
    refine xr_icmp_ge (pc := 27) κ (tgt := 44) dX4_search_27 (by decide) (fun c4 => ?_) (fun c4 => ?_)
    · have h := h.1 c4
      refine xr_aload_n (pc := 44) κ 0 (x := 33) dX4_search_44 rfl rfl ?_
      refine xr_iload_n (pc := 45) κ 2 (x := v2) dX4_search_45 rfl rfl ?_
      refine xr_put (pc := 46) κ xc4 (k := 33) (f := 5) (v := .int v2) (ω' := wX c (xs_limit x v2)) kw_1_147 (by decide) rfl (by decide) rfl (fun _ => rfl) (fun _ => rfl) (Nat.le_of_ble_eq_true rfl) (wXf_limit _ _ _) dX4_search_46 ?_
      refine xr_aload_n (pc := 49) κ 0 (x := 33) dX4_search_49 rfl rfl ?_
      refine xr_iload_n (pc := 50) κ 3 (x := v3) dX4_search_50 rfl rfl ?_
      refine xr_put (pc := 51) κ xc4 (k := 33) (f := 6) (v := .int v3) (ω' := wX c (xs_umost (xs_limit x v2) v3)) kw_1_148 (by decide) rfl (by decide) rfl (fun _ => rfl) (fun _ => rfl) (Nat.le_of_ble_eq_true rfl) (wXf_umost _ _ _) dX4_search_51 ?_
      refine xr_aload_n (pc := 54) κ 0 (x := 33) dX4_search_54 rfl rfl ?_
      refine xr_iconst (pc := 55) κ (v := -1) dX4_search_55 (by decide) ?_
      refine xr_put (pc := 56) κ xc4 (k := 33) (f := 3) (v := .int (-1 : Int32)) (ω' := wX c (xs_bestPrice (xs_umost (xs_limit x v2) v3) (-1 : Int32))) kw_1_145 (by decide) rfl (by decide) rfl (fun _ => rfl) (fun _ => rfl) (Nat.le_of_ble_eq_true rfl) (wXf_bestPrice _ _ _) dX4_search_56 ?_
      refine xr_aload_n (pc := 59) κ 0 (x := 33) dX4_search_59 rfl rfl ?_
      refine xr_aload_n (pc := 60) κ 1 (x := 1) dX4_search_60 rfl rfl ?_
      refine xr_iconst (pc := 61) κ (v := 0) dX4_search_61 (by decide) ?_
      refine xr_iconst (pc := 62) κ (v := 0) dX4_search_62 (by decide) ?_
      refine xr_iconst (pc := 63) κ (v := 0) dX4_search_63 (by decide) ?_
      refine xr_callS (pc := 64) κ [.ref 33, .ref 1, .int (0 : Int32), .int (0 : Int32), .int (0 : Int32)] kw_2_174 tg_X4_tryFrom (snd_X4_tryFrom _ _ _ _ _ _ h) rfl (by decide) (by decide) (Nat.le_of_ble_eq_true rfl) dX4_search_64 (fun v9 ω9 hk9 => ?_)
      obtain ⟨c5_, x5_, rfl, rfl, h⟩ := hk9
      skip
      show Wat κ 67 [(0, .ref 33), (1, .ref 1), (2, .int v2), (3, .int v3), (4, .int v4)] [] (wX c5_ x5_)
      refine xr_aload_n (pc := 67) κ 0 (x := 33) dX4_search_67 rfl rfl ?_
      refine xr_get (pc := 68) κ xc4 (k := 33) (f := 3) (v := .int (x_bestPrice x5_)) kw_1_145 (by decide) rfl (by decide) rfl dX4_search_68 ?_
      exact xr_iret (pc := 71) κ _ hQ dX4_search_71 ⟨_, _, _, rfl, rfl, h⟩
    · have h := h.2 c4
      refine xr_aload_n (pc := 30) κ 0 (x := 33) dX4_search_30 rfl rfl ?_
      refine xr_get (pc := 31) κ xc4 (k := 33) (f := 1) (v := .ref 79) kw_1_142 (by decide) rfl (by decide) rfl dX4_search_31 ?_
      refine xr_iload (pc := 34) κ 4 (x := v4) dX4_search_34 rfl ?_
      refine xr_iconst (pc := 36) κ (v := 0) dX4_search_36 (by decide) ?_
      obtain ⟨i6, h⟩ := h
      refine xr_iast (pc := 37) κ (k := 79) (n := 12) (f := x_row x) (ω' := wX c (xs_row x (upd (x_row x) v4.toNatClampNeg (0 : Int32)))) (by decide) rfl rfl i6 (wXa_row _ _ _) dX4_search_37 ?_
      refine xr_iinc (pc := 38) κ 4 [1, 2, 3, 4, 0] (lv' := [(0, .ref 33), (1, .ref 1), (2, .int v2), (3, .int v3), (4, .int (v4 + 1))]) (x := v4) (v := v4 + 1) dX4_search_38 rfl rfl (by decide) rfl ?_
      refine xr_goto (pc := 41) κ (tgt := 23) dX4_search_41 (by decide) ?_
      exact ih _ _ _ _ _ h
def wp_X4_search (lim : Int32) (u : Int32) (c : CS) (x : XT) (K : Int32 → CS → XT → Prop) : Prop :=
    vp_in (0 : Int32) 4 ∧
    wp_X0_settle (2 + ((0 : Int32)).toNatClampNeg) (c_pads c) c x (fun r2 c2_ x2_ =>
      (¬ r2 = 0 →
        ∃ n23 : Nat, nd_X4_search_23 K n23 lim u (0 : Int32) c2_ x2_) ∧
      (r2 = 0 →
        K (-3 : Int32) c2_ x2_))
set_option maxHeartbeats 4000000 in
set_option maxRecDepth 100000 in
theorem snd_X4_search {l : Launch} (lim : Int32) (u : Int32) (c : CS) (x : XT) (K : Int32 → CS → XT → Prop) (h : wp_X4_search lim u c x K) : XM l xTX yX4_search cX4_search 5 (some .int) 9 [.ref 33, .ref 1, .int lim, .int u] (wX c x) (fun v ω' => ∃ (r : Int32) (c' : CS) (t' : XT), v = some (.int r) ∧ ω' = wX c' t' ∧ K r c' t') := by
    refine XM.of (by decide) (Nat.le_of_ble_eq_true rfl) (fun κ hQ => ?_)
    show Wat κ 0 [(0, .ref 33), (1, .ref 1), (2, .int lim), (3, .int u)] [] (wX c x)
    unfold wp_X4_search at h
    refine xr_aload_n (pc := 0) κ 0 (x := 33) dX4_search_0 rfl rfl ?_
    refine xr_get (pc := 1) κ xc4 (k := 33) (f := 0) (v := .ref 34) kw_1_141 (by decide) rfl (by decide) rfl dX4_search_1 ?_
    refine xr_iconst (pc := 4) κ (v := 0) dX4_search_4 (by decide) ?_
    obtain ⟨i1, h⟩ := h
    refine xr_aald (pc := 5) κ (k := 34) (n := 4) (j := xb (2 + ((0 : Int32)).toNatClampNeg)) (by decide) rfl rfl rfl i1 (if_pos (vp_lt i1)) dX4_search_5 ?_
    refine xr_aload_n (pc := 6) κ 1 (x := 1) dX4_search_6 rfl rfl ?_
    refine xr_aload_n (pc := 7) κ 1 (x := 1) dX4_search_7 rfl rfl ?_
    refine xr_getN (pc := 8) κ xc2 (k := 1) (f := 2) (v := .int (c_pads c)) kw_1_33 (by decide) rfl (by decide) rfl dX4_search_8 ?_
    refine xr_callVN (pc := 11) κ [.ref 1, .int (c_pads c)] kw_2_173 tg_X0_settle (snd_X0_settle (2 + ((0 : Int32)).toNatClampNeg) (by have := vp_lt i1; omega) _ _ _ _ h) rfl (by decide) (by decide) (xb_lt (j := 0) (by have := vp_lt i1; omega) (by decide)) (wXb_obj _ _ (by have := vp_lt i1; omega)) (ci := 0) rfl rfl (Nat.le_of_ble_eq_true rfl) dX4_search_11 (fun v9 ω9 hk9 => ?_)
    obtain ⟨r2, c2_, x2_, rfl, rfl, h⟩ := hk9
    skip
    show Wat κ 14 [(0, .ref 33), (1, .ref 1), (2, .int lim), (3, .int u)] [.int r2] (wX c2_ x2_)
    refine xr_if_ne (pc := 14) κ (tgt := 20) dX4_search_14 (by decide) (fun c3 => ?_) (fun c3 => ?_)
    · have h := h.1 c3
      refine xr_iconst (pc := 20) κ (v := 0) dX4_search_20 (by decide) ?_
      refine xr_istore (pc := 21) κ [1, 2, 3, 4, 0] (lv' := [(0, .ref 33), (1, .ref 1), (2, .int lim), (3, .int u), (4, .int (0 : Int32))]) dX4_search_21 (by decide) rfl ?_
      obtain ⟨n0, h⟩ := h
      exact snd_X4_search_23 κ K hQ n0 _ _ _ _ _ h
    · have h := h.2 c3
      refine xr_bipush (pc := 17) κ (v := -3) dX4_search_17 (by decide) ?_
      exact xr_iret (pc := 19) κ _ hQ dX4_search_19 ⟨_, _, _, rfl, rfl, h⟩
-- ChipVolts.settled()Z, level 3
def wp_X5_settled (c : CS) (x : XT) (K : Int32 → CS → XT → Prop) : Prop :=
    wp_X0_settle 0 (c_pads c) c x (fun r1 c1_ x1_ =>
      narrow .boolean (.int r1) = .int r1 ∧ K r1 c1_ x1_)
set_option maxHeartbeats 4000000 in
set_option maxRecDepth 100000 in
theorem snd_X5_settled {l : Launch} (c : CS) (x : XT) (K : Int32 → CS → XT → Prop) (h : wp_X5_settled  c x K) : XM l xTX yX5_settled cX5_settled 1 (some .boolean) 3 [.ref 0] (wX c x) (fun v ω' => ∃ (r : Int32) (c' : CS) (t' : XT), v = some (.int r) ∧ ω' = wX c' t' ∧ K r c' t') := by
    refine XM.of (by decide) (Nat.le_of_ble_eq_true rfl) (fun κ hQ => ?_)
    show Wat κ 0 [(0, .ref 0)] [] (wX c x)
    unfold wp_X5_settled at h
    refine xr_aload_n (pc := 0) κ 0 (x := 0) dX5_settled_0 rfl rfl ?_
    refine xr_get (pc := 1) κ xc5 (k := 0) (f := 2) (v := .ref (xb 0)) kw_1_184 (by decide) rfl (by decide) rfl dX5_settled_1 ?_
    refine xr_aload_n (pc := 4) κ 0 (x := 0) dX5_settled_4 rfl rfl ?_
    refine xr_get (pc := 5) κ xc5 (k := 0) (f := 0) (v := .ref 1) kw_1_182 (by decide) rfl (by decide) rfl dX5_settled_5 ?_
    refine xr_aload_n (pc := 8) κ 0 (x := 0) dX5_settled_8 rfl rfl ?_
    refine xr_get (pc := 9) κ xc5 (k := 0) (f := 0) (v := .ref 1) kw_1_182 (by decide) rfl (by decide) rfl dX5_settled_9 ?_
    refine xr_getN (pc := 12) κ xc2 (k := 1) (f := 2) (v := .int (c_pads c)) kw_1_34 (by decide) rfl (by decide) rfl dX5_settled_12 ?_
    refine xr_callVN (pc := 15) κ [.ref 1, .int (c_pads c)] kw_2_23 tg_X0_settle (snd_X0_settle 0 (by decide) _ _ _ _ h) rfl (by decide) (by decide) (xb_lt (j := 0) (by decide) (by decide)) (wXb_obj _ _ (by decide)) (ci := 0) rfl rfl (Nat.le_of_ble_eq_true rfl) dX5_settled_15 (fun v9 ω9 hk9 => ?_)
    obtain ⟨r1, c1_, x1_, rfl, rfl, h⟩ := hk9
    skip
    show Wat κ 18 [(0, .ref 0)] [.int r1] (wX c1_ x1_)
    obtain ⟨hn, h⟩ := h
    exact xr_zret (pc := 18) κ _ hQ hn dX5_settled_18 ⟨_, _, _, rfl, rfl, h⟩
-- ChipVolts.opened(I)Z, level 1
def wp_X5_opened (w : Int32) (c : CS) (x : XT) (K : Int32 → CS → XT → Prop) : Prop :=
    vp_in w 12 ∧
    vp_in w 12 ∧
    vp_in w 12 ∧
    wp_X0_alter 1 0 (c_from c w.toNatClampNeg) (c_to c w.toNatClampNeg) (-(c_wide c w.toNatClampNeg)) c x (fun r4 c4_ x4_ =>
      narrow .boolean (.int r4) = .int r4 ∧ K r4 c4_ x4_)
set_option maxHeartbeats 4000000 in
set_option maxRecDepth 100000 in
theorem snd_X5_opened {l : Launch} (w : Int32) (c : CS) (x : XT) (K : Int32 → CS → XT → Prop) (h : wp_X5_opened w c x K) : XM l xTX yX5_opened cX5_opened 2 (some .boolean) 1 [.ref 0, .int w] (wX c x) (fun v ω' => ∃ (r : Int32) (c' : CS) (t' : XT), v = some (.int r) ∧ ω' = wX c' t' ∧ K r c' t') := by
    refine XM.of (by decide) (Nat.le_of_ble_eq_true rfl) (fun κ hQ => ?_)
    show Wat κ 0 [(0, .ref 0), (1, .int w)] [] (wX c x)
    unfold wp_X5_opened at h
    refine xr_aload_n (pc := 0) κ 0 (x := 0) dX5_opened_0 rfl rfl ?_
    refine xr_get (pc := 1) κ xc5 (k := 0) (f := 3) (v := .ref (xb 1)) kw_1_185 (by decide) rfl (by decide) rfl dX5_opened_1 ?_
    refine xr_aload_n (pc := 4) κ 0 (x := 0) dX5_opened_4 rfl rfl ?_
    refine xr_get (pc := 5) κ xc5 (k := 0) (f := 2) (v := .ref (xb 0)) kw_1_184 (by decide) rfl (by decide) rfl dX5_opened_5 ?_
    refine xr_aload_n (pc := 8) κ 0 (x := 0) dX5_opened_8 rfl rfl ?_
    refine xr_get (pc := 9) κ xc5 (k := 0) (f := 0) (v := .ref 1) kw_1_182 (by decide) rfl (by decide) rfl dX5_opened_9 ?_
    refine xr_getN (pc := 12) κ xc2 (k := 1) (f := 4) (v := .ref 3) kw_1_41 (by decide) rfl (by decide) rfl dX5_opened_12 ?_
    refine xr_iload_n (pc := 15) κ 1 (x := w) dX5_opened_15 rfl rfl ?_
    obtain ⟨i1, h⟩ := h
    refine xr_iald (pc := 16) κ (k := 3) (n := 12) (f := c_from c) (by decide) rfl rfl i1 dX5_opened_16 ?_
    refine xr_aload_n (pc := 17) κ 0 (x := 0) dX5_opened_17 rfl rfl ?_
    refine xr_get (pc := 18) κ xc5 (k := 0) (f := 0) (v := .ref 1) kw_1_182 (by decide) rfl (by decide) rfl dX5_opened_18 ?_
    refine xr_getN (pc := 21) κ xc2 (k := 1) (f := 5) (v := .ref 4) kw_1_45 (by decide) rfl (by decide) rfl dX5_opened_21 ?_
    refine xr_iload_n (pc := 24) κ 1 (x := w) dX5_opened_24 rfl rfl ?_
    obtain ⟨i2, h⟩ := h
    refine xr_iald (pc := 25) κ (k := 4) (n := 12) (f := c_to c) (by decide) rfl rfl i2 dX5_opened_25 ?_
    refine xr_aload_n (pc := 26) κ 0 (x := 0) dX5_opened_26 rfl rfl ?_
    refine xr_get (pc := 27) κ xc5 (k := 0) (f := 0) (v := .ref 1) kw_1_182 (by decide) rfl (by decide) rfl dX5_opened_27 ?_
    refine xr_getN (pc := 30) κ xc2 (k := 1) (f := 6) (v := .ref 5) kw_1_48 (by decide) rfl (by decide) rfl dX5_opened_30 ?_
    refine xr_iload_n (pc := 33) κ 1 (x := w) dX5_opened_33 rfl rfl ?_
    obtain ⟨i3, h⟩ := h
    refine xr_iald (pc := 34) κ (k := 5) (n := 12) (f := c_wide c) (by decide) rfl rfl i3 dX5_opened_34 ?_
    refine xr_ineg (pc := 35) κ dX5_opened_35 ?_
    refine xr_callVN (pc := 36) κ [.ref (xb 0), .int (c_from c w.toNatClampNeg), .int (c_to c w.toNatClampNeg), .int (-(c_wide c w.toNatClampNeg))] kw_2_128 tg_X0_alter (snd_X0_alter 1 0 (by decide) (by decide) (by decide) _ _ _ _ _ _ h) rfl (by decide) (by decide) (xb_lt (j := 0) (by decide) (by decide)) (wXb_obj _ _ (by decide)) (ci := 0) rfl rfl (Nat.le_of_ble_eq_true rfl) dX5_opened_36 (fun v9 ω9 hk9 => ?_)
    obtain ⟨r4, c4_, x4_, rfl, rfl, h⟩ := hk9
    skip
    show Wat κ 39 [(0, .ref 0), (1, .int w)] [.int r4] (wX c4_ x4_)
    obtain ⟨hn, h⟩ := h
    exact xr_zret (pc := 39) κ _ hQ hn dX5_opened_39 ⟨_, _, _, rfl, rfl, h⟩
-- ChipVolts.net(I)I, level 1
def wp_X5_net (kn : Int32) (c : CS) (x : XT) (K : Int32 → CS → XT → Prop) : Prop :=
    wp_X5_between kn (2 : Int32) (7 : Int32) (fun r1 =>
      (¬ r1 = 0 →
        wp_X2_clear kn c x (fun c3_ x3_ =>
          wp_X1_clear c3_ x3_ (fun c4_ x4_ =>
            K (1 : Int32) c4_ x4_))) ∧
      (r1 = 0 →
        K (-2 : Int32) c x))
set_option maxHeartbeats 4000000 in
set_option maxRecDepth 100000 in
theorem snd_X5_net {l : Launch} (kn : Int32) (c : CS) (x : XT) (K : Int32 → CS → XT → Prop) (h : wp_X5_net kn c x K) : XM l xTX yX5_net cX5_net 2 (some .int) 1 [.ref 0, .int kn] (wX c x) (fun v ω' => ∃ (r : Int32) (c' : CS) (t' : XT), v = some (.int r) ∧ ω' = wX c' t' ∧ K r c' t') := by
    refine XM.of (by decide) (Nat.le_of_ble_eq_true rfl) (fun κ hQ => ?_)
    show Wat κ 0 [(0, .ref 0), (1, .int kn)] [] (wX c x)
    unfold wp_X5_net at h
    refine xr_iload_n (pc := 0) κ 1 (x := kn) dX5_net_0 rfl rfl ?_
    refine xr_iconst (pc := 1) κ (v := 2) dX5_net_1 (by decide) ?_
    refine xr_bipush (pc := 2) κ (v := 7) dX5_net_2 (by decide) ?_
    refine xr_callS (pc := 4) κ [.int kn, .int (2 : Int32), .int (7 : Int32)] kw_1_205 tg_X5_between (snd_X5_between _ _ _ _ h) rfl (by decide) (by decide) (Nat.le_of_ble_eq_true rfl) dX5_net_4 (fun v9 ω9 hk9 => ?_)
    obtain ⟨r1, rfl, e9, h⟩ := hk9
    rw [e9]
    show Wat κ 7 [(0, .ref 0), (1, .int kn)] [.int r1] (wX c x)
    refine xr_if_ne (pc := 7) κ (tgt := 13) dX5_net_7 (by decide) (fun c2 => ?_) (fun c2 => ?_)
    · have h := h.1 c2
      refine xr_aload_n (pc := 13) κ 0 (x := 0) dX5_net_13 rfl rfl ?_
      refine xr_get (pc := 14) κ xc5 (k := 0) (f := 0) (v := .ref 1) kw_1_182 (by decide) rfl (by decide) rfl dX5_net_14 ?_
      refine xr_iload_n (pc := 17) κ 1 (x := kn) dX5_net_17 rfl rfl ?_
      refine xr_callVN (pc := 18) κ [.int kn] kw_1_208 tg_X2_clear (snd_X2_clear _ _ _ _ h) rfl (by decide) (by decide) (by decide) rfl (ci := 2) rfl rfl (Nat.le_of_ble_eq_true rfl) dX5_net_18 (fun v9 ω9 hk9 => ?_)
      obtain ⟨c3_, x3_, rfl, rfl, h⟩ := hk9
      skip
      show Wat κ 21 [(0, .ref 0), (1, .int kn)] [] (wX c3_ x3_)
      refine xr_aload_n (pc := 21) κ 0 (x := 0) dX5_net_21 rfl rfl ?_
      refine xr_get (pc := 22) κ xc5 (k := 0) (f := 1) (v := .ref 7) kw_1_183 (by decide) rfl (by decide) rfl dX5_net_22 ?_
      refine xr_callVN (pc := 25) κ [] kw_1_212 tg_X1_clear (snd_X1_clear  _ _ _ h) rfl (by decide) (by decide) (by decide) rfl (ci := 1) rfl rfl (Nat.le_of_ble_eq_true rfl) dX5_net_25 (fun v9 ω9 hk9 => ?_)
      obtain ⟨c4_, x4_, rfl, rfl, h⟩ := hk9
      skip
      show Wat κ 28 [(0, .ref 0), (1, .int kn)] [] (wX c4_ x4_)
      refine xr_iconst (pc := 28) κ (v := 1) dX5_net_28 (by decide) ?_
      exact xr_iret (pc := 29) κ _ hQ dX5_net_29 ⟨_, _, _, rfl, rfl, h⟩
    · have h := h.2 c2
      refine xr_bipush (pc := 10) κ (v := -2) dX5_net_10 (by decide) ?_
      exact xr_iret (pc := 12) κ _ hQ dX5_net_12 ⟨_, _, _, rfl, rfl, h⟩
-- ChipVolts.wire(IIII)I, level 1
def wp_X5_wire (a : Int32) (b : Int32) (wi : Int32) (pr : Int32) (c : CS) (x : XT) (K : Int32 → CS → XT → Prop) : Prop :=
    wp_X2_isKnot a c x (fun r1 c1_ x1_ =>
      (r1 = 0 →
        K (-2 : Int32) c1_ x1_) ∧
      (¬ r1 = 0 →
        wp_X2_isKnot b c1_ x1_ (fun r3 c3_ x3_ =>
          (r3 = 0 →
            K (-2 : Int32) c3_ x3_) ∧
          (¬ r3 = 0 →
            (¬ a = b →
              wp_X5_between wi (1 : Int32) (6 : Int32) (fun r6 =>
                (r6 = 0 →
                  K (-2 : Int32) c3_ x3_) ∧
                (¬ r6 = 0 →
                  wp_X5_between pr (1 : Int32) (100 : Int32) (fun r8 =>
                    (¬ r8 = 0 →
                      ((c_wires c3_) < (12 : Int32) →
                        wp_X2_addWire a b wi pr c3_ x3_ (fun r11 c11_ x11_ =>
                          K r11 c11_ x11_)) ∧
                      (¬ (c_wires c3_) < (12 : Int32) →
                        K (-4 : Int32) c3_ x3_)) ∧
                    (r8 = 0 →
                      K (-2 : Int32) c3_ x3_))))) ∧
            (a = b →
              K (-2 : Int32) c3_ x3_)))))
set_option maxHeartbeats 4000000 in
set_option maxRecDepth 100000 in
theorem snd_X5_wire {l : Launch} (a : Int32) (b : Int32) (wi : Int32) (pr : Int32) (c : CS) (x : XT) (K : Int32 → CS → XT → Prop) (h : wp_X5_wire a b wi pr c x K) : XM l xTX yX5_wire cX5_wire 5 (some .int) 1 [.ref 0, .int a, .int b, .int wi, .int pr] (wX c x) (fun v ω' => ∃ (r : Int32) (c' : CS) (t' : XT), v = some (.int r) ∧ ω' = wX c' t' ∧ K r c' t') := by
    refine XM.of (by decide) (Nat.le_of_ble_eq_true rfl) (fun κ hQ => ?_)
    show Wat κ 0 [(0, .ref 0), (1, .int a), (2, .int b), (3, .int wi), (4, .int pr)] [] (wX c x)
    unfold wp_X5_wire at h
    refine xr_aload_n (pc := 0) κ 0 (x := 0) dX5_wire_0 rfl rfl ?_
    refine xr_get (pc := 1) κ xc5 (k := 0) (f := 0) (v := .ref 1) kw_1_182 (by decide) rfl (by decide) rfl dX5_wire_1 ?_
    refine xr_iload_n (pc := 4) κ 1 (x := a) dX5_wire_4 rfl rfl ?_
    refine xr_callVN (pc := 5) κ [.int a] kw_1_220 tg_X2_isKnot (snd_X2_isKnot _ _ _ _ h) rfl (by decide) (by decide) (by decide) rfl (ci := 2) rfl rfl (Nat.le_of_ble_eq_true rfl) dX5_wire_5 (fun v9 ω9 hk9 => ?_)
    obtain ⟨r1, c1_, x1_, rfl, rfl, h⟩ := hk9
    skip
    show Wat κ 8 [(0, .ref 0), (1, .int a), (2, .int b), (3, .int wi), (4, .int pr)] [.int r1] (wX c1_ x1_)
    refine xr_if_eq (pc := 8) κ (tgt := 27) dX5_wire_8 (by decide) (fun c2 => ?_) (fun c2 => ?_)
    · have h := h.1 c2
      refine xr_bipush (pc := 27) κ (v := -2) dX5_wire_27 (by decide) ?_
      exact xr_iret (pc := 29) κ _ hQ dX5_wire_29 ⟨_, _, _, rfl, rfl, h⟩
    · have h := h.2 c2
      refine xr_aload_n (pc := 11) κ 0 (x := 0) dX5_wire_11 rfl rfl ?_
      refine xr_get (pc := 12) κ xc5 (k := 0) (f := 0) (v := .ref 1) kw_1_182 (by decide) rfl (by decide) rfl dX5_wire_12 ?_
      refine xr_iload_n (pc := 15) κ 2 (x := b) dX5_wire_15 rfl rfl ?_
      refine xr_callVN (pc := 16) κ [.int b] kw_1_220 tg_X2_isKnot (snd_X2_isKnot _ _ _ _ h) rfl (by decide) (by decide) (by decide) rfl (ci := 2) rfl rfl (Nat.le_of_ble_eq_true rfl) dX5_wire_16 (fun v9 ω9 hk9 => ?_)
      obtain ⟨r3, c3_, x3_, rfl, rfl, h⟩ := hk9
      skip
      show Wat κ 19 [(0, .ref 0), (1, .int a), (2, .int b), (3, .int wi), (4, .int pr)] [.int r3] (wX c3_ x3_)
      refine xr_if_eq (pc := 19) κ (tgt := 27) dX5_wire_19 (by decide) (fun c4 => ?_) (fun c4 => ?_)
      · have h := h.1 c4
        refine xr_bipush (pc := 27) κ (v := -2) dX5_wire_27 (by decide) ?_
        exact xr_iret (pc := 29) κ _ hQ dX5_wire_29 ⟨_, _, _, rfl, rfl, h⟩
      · have h := h.2 c4
        refine xr_iload_n (pc := 22) κ 1 (x := a) dX5_wire_22 rfl rfl ?_
        refine xr_iload_n (pc := 23) κ 2 (x := b) dX5_wire_23 rfl rfl ?_
        refine xr_icmp_ne (pc := 24) κ (tgt := 30) dX5_wire_24 (by decide) (fun c5 => ?_) (fun c5 => ?_)
        · have h := h.1 c5
          refine xr_iload_n (pc := 30) κ 3 (x := wi) dX5_wire_30 rfl rfl ?_
          refine xr_iconst (pc := 31) κ (v := 1) dX5_wire_31 (by decide) ?_
          refine xr_bipush (pc := 32) κ (v := 6) dX5_wire_32 (by decide) ?_
          refine xr_callS (pc := 34) κ [.int wi, .int (1 : Int32), .int (6 : Int32)] kw_1_205 tg_X5_between (snd_X5_between _ _ _ _ h) rfl (by decide) (by decide) (Nat.le_of_ble_eq_true rfl) dX5_wire_34 (fun v9 ω9 hk9 => ?_)
          obtain ⟨r6, rfl, e9, h⟩ := hk9
          rw [e9]
          show Wat κ 37 [(0, .ref 0), (1, .int a), (2, .int b), (3, .int wi), (4, .int pr)] [.int r6] (wX c3_ x3_)
          refine xr_if_eq (pc := 37) κ (tgt := 51) dX5_wire_37 (by decide) (fun c7 => ?_) (fun c7 => ?_)
          · have h := h.1 c7
            refine xr_bipush (pc := 51) κ (v := -2) dX5_wire_51 (by decide) ?_
            exact xr_iret (pc := 53) κ _ hQ dX5_wire_53 ⟨_, _, _, rfl, rfl, h⟩
          · have h := h.2 c7
            refine xr_iload (pc := 40) κ 4 (x := pr) dX5_wire_40 rfl ?_
            refine xr_iconst (pc := 42) κ (v := 1) dX5_wire_42 (by decide) ?_
            refine xr_bipush (pc := 43) κ (v := 100) dX5_wire_43 (by decide) ?_
            refine xr_callS (pc := 45) κ [.int pr, .int (1 : Int32), .int (100 : Int32)] kw_1_205 tg_X5_between (snd_X5_between _ _ _ _ h) rfl (by decide) (by decide) (Nat.le_of_ble_eq_true rfl) dX5_wire_45 (fun v9 ω9 hk9 => ?_)
            obtain ⟨r8, rfl, e9, h⟩ := hk9
            rw [e9]
            show Wat κ 48 [(0, .ref 0), (1, .int a), (2, .int b), (3, .int wi), (4, .int pr)] [.int r8] (wX c3_ x3_)
            refine xr_if_ne (pc := 48) κ (tgt := 54) dX5_wire_48 (by decide) (fun c9 => ?_) (fun c9 => ?_)
            · have h := h.1 c9
              refine xr_aload_n (pc := 54) κ 0 (x := 0) dX5_wire_54 rfl rfl ?_
              refine xr_get (pc := 55) κ xc5 (k := 0) (f := 0) (v := .ref 1) kw_1_182 (by decide) rfl (by decide) rfl dX5_wire_55 ?_
              refine xr_getN (pc := 58) κ xc2 (k := 1) (f := 1) (v := .int (c_wires c3_)) kw_1_30 (by decide) rfl (by decide) rfl dX5_wire_58 ?_
              refine xr_bipush (pc := 61) κ (v := 12) dX5_wire_61 (by decide) ?_
              refine xr_icmp_lt (pc := 63) κ (tgt := 69) dX5_wire_63 (by decide) (fun c10 => ?_) (fun c10 => ?_)
              · have h := h.1 c10
                refine xr_aload_n (pc := 69) κ 0 (x := 0) dX5_wire_69 rfl rfl ?_
                refine xr_get (pc := 70) κ xc5 (k := 0) (f := 0) (v := .ref 1) kw_1_182 (by decide) rfl (by decide) rfl dX5_wire_70 ?_
                refine xr_iload_n (pc := 73) κ 1 (x := a) dX5_wire_73 rfl rfl ?_
                refine xr_iload_n (pc := 74) κ 2 (x := b) dX5_wire_74 rfl rfl ?_
                refine xr_iload_n (pc := 75) κ 3 (x := wi) dX5_wire_75 rfl rfl ?_
                refine xr_iload (pc := 76) κ 4 (x := pr) dX5_wire_76 rfl ?_
                refine xr_callVN (pc := 78) κ [.int a, .int b, .int wi, .int pr] kw_1_224 tg_X2_addWire (snd_X2_addWire _ _ _ _ _ _ _ h) rfl (by decide) (by decide) (by decide) rfl (ci := 2) rfl rfl (Nat.le_of_ble_eq_true rfl) dX5_wire_78 (fun v9 ω9 hk9 => ?_)
                obtain ⟨r11, c11_, x11_, rfl, rfl, h⟩ := hk9
                skip
                show Wat κ 81 [(0, .ref 0), (1, .int a), (2, .int b), (3, .int wi), (4, .int pr)] [.int r11] (wX c11_ x11_)
                exact xr_iret (pc := 81) κ _ hQ dX5_wire_81 ⟨_, _, _, rfl, rfl, h⟩
              · have h := h.2 c10
                refine xr_bipush (pc := 66) κ (v := -4) dX5_wire_66 (by decide) ?_
                exact xr_iret (pc := 68) κ _ hQ dX5_wire_68 ⟨_, _, _, rfl, rfl, h⟩
            · have h := h.2 c9
              refine xr_bipush (pc := 51) κ (v := -2) dX5_wire_51 (by decide) ?_
              exact xr_iret (pc := 53) κ _ hQ dX5_wire_53 ⟨_, _, _, rfl, rfl, h⟩
        · have h := h.2 c5
          refine xr_bipush (pc := 27) κ (v := -2) dX5_wire_27 (by decide) ?_
          exact xr_iret (pc := 29) κ _ hQ dX5_wire_29 ⟨_, _, _, rfl, rfl, h⟩
-- ChipVolts.width(II)I, level 1
def wp_X5_width (w : Int32) (v : Int32) (c : CS) (x : XT) (K : Int32 → CS → XT → Prop) : Prop :=
    wp_X2_isWire w c x (fun r1 c1_ x1_ =>
      (r1 = 0 →
        K (-2 : Int32) c1_ x1_) ∧
      (¬ r1 = 0 →
        wp_X5_between v (1 : Int32) (6 : Int32) (fun r3 =>
          (¬ r3 = 0 →
            vp_in w 12 ∧
            vp_in w 12 ∧
            K (c_wide c1_ w.toNatClampNeg) (cs_wide c1_ (upd (c_wide c1_) w.toNatClampNeg v)) x1_) ∧
          (r3 = 0 →
            K (-2 : Int32) c1_ x1_))))
set_option maxHeartbeats 4000000 in
set_option maxRecDepth 100000 in
theorem snd_X5_width {l : Launch} (w : Int32) (v : Int32) (c : CS) (x : XT) (K : Int32 → CS → XT → Prop) (h : wp_X5_width w v c x K) : XM l xTX yX5_width cX5_width 4 (some .int) 1 [.ref 0, .int w, .int v] (wX c x) (fun v ω' => ∃ (r : Int32) (c' : CS) (t' : XT), v = some (.int r) ∧ ω' = wX c' t' ∧ K r c' t') := by
    refine XM.of (by decide) (Nat.le_of_ble_eq_true rfl) (fun κ hQ => ?_)
    show Wat κ 0 [(0, .ref 0), (1, .int w), (2, .int v)] [] (wX c x)
    unfold wp_X5_width at h
    refine xr_aload_n (pc := 0) κ 0 (x := 0) dX5_width_0 rfl rfl ?_
    refine xr_get (pc := 1) κ xc5 (k := 0) (f := 0) (v := .ref 1) kw_1_182 (by decide) rfl (by decide) rfl dX5_width_1 ?_
    refine xr_iload_n (pc := 4) κ 1 (x := w) dX5_width_4 rfl rfl ?_
    refine xr_callVN (pc := 5) κ [.int w] kw_1_232 tg_X2_isWire (snd_X2_isWire _ _ _ _ h) rfl (by decide) (by decide) (by decide) rfl (ci := 2) rfl rfl (Nat.le_of_ble_eq_true rfl) dX5_width_5 (fun v9 ω9 hk9 => ?_)
    obtain ⟨r1, c1_, x1_, rfl, rfl, h⟩ := hk9
    skip
    show Wat κ 8 [(0, .ref 0), (1, .int w), (2, .int v)] [.int r1] (wX c1_ x1_)
    refine xr_if_eq (pc := 8) κ (tgt := 21) dX5_width_8 (by decide) (fun c2 => ?_) (fun c2 => ?_)
    · have h := h.1 c2
      refine xr_bipush (pc := 21) κ (v := -2) dX5_width_21 (by decide) ?_
      exact xr_iret (pc := 23) κ _ hQ dX5_width_23 ⟨_, _, _, rfl, rfl, h⟩
    · have h := h.2 c2
      refine xr_iload_n (pc := 11) κ 2 (x := v) dX5_width_11 rfl rfl ?_
      refine xr_iconst (pc := 12) κ (v := 1) dX5_width_12 (by decide) ?_
      refine xr_bipush (pc := 13) κ (v := 6) dX5_width_13 (by decide) ?_
      refine xr_callS (pc := 15) κ [.int v, .int (1 : Int32), .int (6 : Int32)] kw_1_205 tg_X5_between (snd_X5_between _ _ _ _ h) rfl (by decide) (by decide) (Nat.le_of_ble_eq_true rfl) dX5_width_15 (fun v9 ω9 hk9 => ?_)
      obtain ⟨r3, rfl, e9, h⟩ := hk9
      rw [e9]
      show Wat κ 18 [(0, .ref 0), (1, .int w), (2, .int v)] [.int r3] (wX c1_ x1_)
      refine xr_if_ne (pc := 18) κ (tgt := 24) dX5_width_18 (by decide) (fun c4 => ?_) (fun c4 => ?_)
      · have h := h.1 c4
        refine xr_aload_n (pc := 24) κ 0 (x := 0) dX5_width_24 rfl rfl ?_
        refine xr_get (pc := 25) κ xc5 (k := 0) (f := 0) (v := .ref 1) kw_1_182 (by decide) rfl (by decide) rfl dX5_width_25 ?_
        refine xr_getN (pc := 28) κ xc2 (k := 1) (f := 6) (v := .ref 5) kw_1_48 (by decide) rfl (by decide) rfl dX5_width_28 ?_
        refine xr_iload_n (pc := 31) κ 1 (x := w) dX5_width_31 rfl rfl ?_
        obtain ⟨i5, h⟩ := h
        refine xr_iald (pc := 32) κ (k := 5) (n := 12) (f := c_wide c1_) (by decide) rfl rfl i5 dX5_width_32 ?_
        refine xr_istore_n (pc := 33) κ [1, 2, 3, 0] (lv' := [(0, .ref 0), (1, .int w), (2, .int v), (3, .int (c_wide c1_ w.toNatClampNeg))]) dX5_width_33 rfl (by decide) rfl ?_
        refine xr_aload_n (pc := 34) κ 0 (x := 0) dX5_width_34 rfl rfl ?_
        refine xr_get (pc := 35) κ xc5 (k := 0) (f := 0) (v := .ref 1) kw_1_182 (by decide) rfl (by decide) rfl dX5_width_35 ?_
        refine xr_getN (pc := 38) κ xc2 (k := 1) (f := 6) (v := .ref 5) kw_1_48 (by decide) rfl (by decide) rfl dX5_width_38 ?_
        refine xr_iload_n (pc := 41) κ 1 (x := w) dX5_width_41 rfl rfl ?_
        refine xr_iload_n (pc := 42) κ 2 (x := v) dX5_width_42 rfl rfl ?_
        obtain ⟨i6, h⟩ := h
        refine xr_iast (pc := 43) κ (k := 5) (n := 12) (f := c_wide c1_) (ω' := wX (cs_wide c1_ (upd (c_wide c1_) w.toNatClampNeg v)) x1_) (by decide) rfl rfl i6 (wXa_wide _ _ _) dX5_width_43 ?_
        refine xr_iload_n (pc := 44) κ 3 (x := (c_wide c1_ w.toNatClampNeg)) dX5_width_44 rfl rfl ?_
        exact xr_iret (pc := 45) κ _ hQ dX5_width_45 ⟨_, _, _, rfl, rfl, h⟩
      · have h := h.2 c4
        refine xr_bipush (pc := 21) κ (v := -2) dX5_width_21 (by decide) ?_
        exact xr_iret (pc := 23) κ _ hQ dX5_width_23 ⟨_, _, _, rfl, rfl, h⟩
-- ChipVolts.pad(IZ)I, level 2
def wp_X5_pad (k : Int32) (is : Int32) (c : CS) (x : XT) (K : Int32 → CS → XT → Prop) : Prop :=
    wp_X2_isKnot k c x (fun r1 c1_ x1_ =>
      (¬ r1 = 0 →
        wp_X2_isPad k c1_ x1_ (fun r3 c3_ x3_ =>
          (¬ r3 = is →
            K (1 : Int32) (cs_pads c3_ ((c_pads c3_) ^^^ ((1 : Int32) <<< (k &&& 31)))) x3_) ∧
          (r3 = is →
            K (-3 : Int32) c3_ x3_))) ∧
      (r1 = 0 →
        K (-2 : Int32) c1_ x1_))
set_option maxHeartbeats 4000000 in
set_option maxRecDepth 100000 in
theorem snd_X5_pad {l : Launch} (k : Int32) (is : Int32) (c : CS) (x : XT) (K : Int32 → CS → XT → Prop) (h : wp_X5_pad k is c x K) : XM l xTX yX5_pad cX5_pad 3 (some .int) 2 [.ref 0, .int k, .int is] (wX c x) (fun v ω' => ∃ (r : Int32) (c' : CS) (t' : XT), v = some (.int r) ∧ ω' = wX c' t' ∧ K r c' t') := by
    refine XM.of (by decide) (Nat.le_of_ble_eq_true rfl) (fun κ hQ => ?_)
    show Wat κ 0 [(0, .ref 0), (1, .int k), (2, .int is)] [] (wX c x)
    unfold wp_X5_pad at h
    refine xr_aload_n (pc := 0) κ 0 (x := 0) dX5_pad_0 rfl rfl ?_
    refine xr_get (pc := 1) κ xc5 (k := 0) (f := 0) (v := .ref 1) kw_1_182 (by decide) rfl (by decide) rfl dX5_pad_1 ?_
    refine xr_iload_n (pc := 4) κ 1 (x := k) dX5_pad_4 rfl rfl ?_
    refine xr_callVN (pc := 5) κ [.int k] kw_1_220 tg_X2_isKnot (snd_X2_isKnot _ _ _ _ h) rfl (by decide) (by decide) (by decide) rfl (ci := 2) rfl rfl (Nat.le_of_ble_eq_true rfl) dX5_pad_5 (fun v9 ω9 hk9 => ?_)
    obtain ⟨r1, c1_, x1_, rfl, rfl, h⟩ := hk9
    skip
    show Wat κ 8 [(0, .ref 0), (1, .int k), (2, .int is)] [.int r1] (wX c1_ x1_)
    refine xr_if_ne (pc := 8) κ (tgt := 14) dX5_pad_8 (by decide) (fun c2 => ?_) (fun c2 => ?_)
    · have h := h.1 c2
      refine xr_aload_n (pc := 14) κ 0 (x := 0) dX5_pad_14 rfl rfl ?_
      refine xr_get (pc := 15) κ xc5 (k := 0) (f := 0) (v := .ref 1) kw_1_182 (by decide) rfl (by decide) rfl dX5_pad_15 ?_
      refine xr_iload_n (pc := 18) κ 1 (x := k) dX5_pad_18 rfl rfl ?_
      refine xr_callVN (pc := 19) κ [.int k] kw_2_0 tg_X2_isPad (snd_X2_isPad _ _ _ _ h) rfl (by decide) (by decide) (by decide) rfl (ci := 2) rfl rfl (Nat.le_of_ble_eq_true rfl) dX5_pad_19 (fun v9 ω9 hk9 => ?_)
      obtain ⟨r3, c3_, x3_, rfl, rfl, h⟩ := hk9
      skip
      show Wat κ 22 [(0, .ref 0), (1, .int k), (2, .int is)] [.int r3] (wX c3_ x3_)
      refine xr_iload_n (pc := 22) κ 2 (x := is) dX5_pad_22 rfl rfl ?_
      refine xr_icmp_ne (pc := 23) κ (tgt := 29) dX5_pad_23 (by decide) (fun c4 => ?_) (fun c4 => ?_)
      · have h := h.1 c4
        refine xr_aload_n (pc := 29) κ 0 (x := 0) dX5_pad_29 rfl rfl ?_
        refine xr_get (pc := 30) κ xc5 (k := 0) (f := 0) (v := .ref 1) kw_1_182 (by decide) rfl (by decide) rfl dX5_pad_30 ?_
        refine xr_dup (pc := 33) κ rfl dX5_pad_33 ?_
        refine xr_getN (pc := 34) κ xc2 (k := 1) (f := 2) (v := .int (c_pads c3_)) kw_1_34 (by decide) rfl (by decide) rfl dX5_pad_34 ?_
        refine xr_iconst (pc := 37) κ (v := 1) dX5_pad_37 (by decide) ?_
        refine xr_iload_n (pc := 38) κ 1 (x := k) dX5_pad_38 rfl rfl ?_
        refine xr_ishl (pc := 39) κ dX5_pad_39 ?_
        refine xr_ixor (pc := 40) κ dX5_pad_40 ?_
        refine xr_putN (pc := 41) κ xc2 (k := 1) (f := 2) (v := .int ((c_pads c3_) ^^^ ((1 : Int32) <<< (k &&& 31)))) (ω' := wX (cs_pads c3_ ((c_pads c3_) ^^^ ((1 : Int32) <<< (k &&& 31)))) x3_) kw_1_34 (by decide) rfl (by decide) rfl (fun _ => rfl) (fun _ => rfl) (Nat.le_of_ble_eq_true rfl) (wXf_pads _ _ _) dX5_pad_41 ?_
        refine xr_iconst (pc := 44) κ (v := 1) dX5_pad_44 (by decide) ?_
        exact xr_iret (pc := 45) κ _ hQ dX5_pad_45 ⟨_, _, _, rfl, rfl, h⟩
      · have h := h.2 c4
        refine xr_bipush (pc := 26) κ (v := -3) dX5_pad_26 (by decide) ?_
        exact xr_iret (pc := 28) κ _ hQ dX5_pad_28 ⟨_, _, _, rfl, rfl, h⟩
    · have h := h.2 c2
      refine xr_bipush (pc := 11) κ (v := -2) dX5_pad_11 (by decide) ?_
      exact xr_iret (pc := 13) κ _ hQ dX5_pad_13 ⟨_, _, _, rfl, rfl, h⟩
-- ChipVolts.pull(II)I, level 1
def wp_X5_pull (k : Int32) (v : Int32) (c : CS) (x : XT) (K : Int32 → CS → XT → Prop) : Prop :=
    wp_X2_isKnot k c x (fun r1 c1_ x1_ =>
      (r1 = 0 →
        K (-2 : Int32) c1_ x1_) ∧
      (¬ r1 = 0 →
        wp_X5_between v (0 : Int32) (100 : Int32) (fun r3 =>
          (¬ r3 = 0 →
            vp_in k 7 ∧
            vp_in k 7 ∧
            K (c_pulls c1_ k.toNatClampNeg) (cs_pulls c1_ (upd (c_pulls c1_) k.toNatClampNeg v)) x1_) ∧
          (r3 = 0 →
            K (-2 : Int32) c1_ x1_))))
set_option maxHeartbeats 4000000 in
set_option maxRecDepth 100000 in
theorem snd_X5_pull {l : Launch} (k : Int32) (v : Int32) (c : CS) (x : XT) (K : Int32 → CS → XT → Prop) (h : wp_X5_pull k v c x K) : XM l xTX yX5_pull cX5_pull 4 (some .int) 1 [.ref 0, .int k, .int v] (wX c x) (fun v ω' => ∃ (r : Int32) (c' : CS) (t' : XT), v = some (.int r) ∧ ω' = wX c' t' ∧ K r c' t') := by
    refine XM.of (by decide) (Nat.le_of_ble_eq_true rfl) (fun κ hQ => ?_)
    show Wat κ 0 [(0, .ref 0), (1, .int k), (2, .int v)] [] (wX c x)
    unfold wp_X5_pull at h
    refine xr_aload_n (pc := 0) κ 0 (x := 0) dX5_pull_0 rfl rfl ?_
    refine xr_get (pc := 1) κ xc5 (k := 0) (f := 0) (v := .ref 1) kw_1_182 (by decide) rfl (by decide) rfl dX5_pull_1 ?_
    refine xr_iload_n (pc := 4) κ 1 (x := k) dX5_pull_4 rfl rfl ?_
    refine xr_callVN (pc := 5) κ [.int k] kw_1_220 tg_X2_isKnot (snd_X2_isKnot _ _ _ _ h) rfl (by decide) (by decide) (by decide) rfl (ci := 2) rfl rfl (Nat.le_of_ble_eq_true rfl) dX5_pull_5 (fun v9 ω9 hk9 => ?_)
    obtain ⟨r1, c1_, x1_, rfl, rfl, h⟩ := hk9
    skip
    show Wat κ 8 [(0, .ref 0), (1, .int k), (2, .int v)] [.int r1] (wX c1_ x1_)
    refine xr_if_eq (pc := 8) κ (tgt := 21) dX5_pull_8 (by decide) (fun c2 => ?_) (fun c2 => ?_)
    · have h := h.1 c2
      refine xr_bipush (pc := 21) κ (v := -2) dX5_pull_21 (by decide) ?_
      exact xr_iret (pc := 23) κ _ hQ dX5_pull_23 ⟨_, _, _, rfl, rfl, h⟩
    · have h := h.2 c2
      refine xr_iload_n (pc := 11) κ 2 (x := v) dX5_pull_11 rfl rfl ?_
      refine xr_iconst (pc := 12) κ (v := 0) dX5_pull_12 (by decide) ?_
      refine xr_bipush (pc := 13) κ (v := 100) dX5_pull_13 (by decide) ?_
      refine xr_callS (pc := 15) κ [.int v, .int (0 : Int32), .int (100 : Int32)] kw_1_205 tg_X5_between (snd_X5_between _ _ _ _ h) rfl (by decide) (by decide) (Nat.le_of_ble_eq_true rfl) dX5_pull_15 (fun v9 ω9 hk9 => ?_)
      obtain ⟨r3, rfl, e9, h⟩ := hk9
      rw [e9]
      show Wat κ 18 [(0, .ref 0), (1, .int k), (2, .int v)] [.int r3] (wX c1_ x1_)
      refine xr_if_ne (pc := 18) κ (tgt := 24) dX5_pull_18 (by decide) (fun c4 => ?_) (fun c4 => ?_)
      · have h := h.1 c4
        refine xr_aload_n (pc := 24) κ 0 (x := 0) dX5_pull_24 rfl rfl ?_
        refine xr_get (pc := 25) κ xc5 (k := 0) (f := 0) (v := .ref 1) kw_1_182 (by decide) rfl (by decide) rfl dX5_pull_25 ?_
        refine xr_getN (pc := 28) κ xc2 (k := 1) (f := 3) (v := .ref 2) kw_1_37 (by decide) rfl (by decide) rfl dX5_pull_28 ?_
        refine xr_iload_n (pc := 31) κ 1 (x := k) dX5_pull_31 rfl rfl ?_
        obtain ⟨i5, h⟩ := h
        refine xr_iald (pc := 32) κ (k := 2) (n := 7) (f := c_pulls c1_) (by decide) rfl rfl i5 dX5_pull_32 ?_
        refine xr_istore_n (pc := 33) κ [1, 2, 3, 0] (lv' := [(0, .ref 0), (1, .int k), (2, .int v), (3, .int (c_pulls c1_ k.toNatClampNeg))]) dX5_pull_33 rfl (by decide) rfl ?_
        refine xr_aload_n (pc := 34) κ 0 (x := 0) dX5_pull_34 rfl rfl ?_
        refine xr_get (pc := 35) κ xc5 (k := 0) (f := 0) (v := .ref 1) kw_1_182 (by decide) rfl (by decide) rfl dX5_pull_35 ?_
        refine xr_getN (pc := 38) κ xc2 (k := 1) (f := 3) (v := .ref 2) kw_1_37 (by decide) rfl (by decide) rfl dX5_pull_38 ?_
        refine xr_iload_n (pc := 41) κ 1 (x := k) dX5_pull_41 rfl rfl ?_
        refine xr_iload_n (pc := 42) κ 2 (x := v) dX5_pull_42 rfl rfl ?_
        obtain ⟨i6, h⟩ := h
        refine xr_iast (pc := 43) κ (k := 2) (n := 7) (f := c_pulls c1_) (ω' := wX (cs_pulls c1_ (upd (c_pulls c1_) k.toNatClampNeg v)) x1_) (by decide) rfl rfl i6 (wXa_pulls _ _ _) dX5_pull_43 ?_
        refine xr_iload_n (pc := 44) κ 3 (x := (c_pulls c1_ k.toNatClampNeg)) dX5_pull_44 rfl rfl ?_
        exact xr_iret (pc := 45) κ _ hQ dX5_pull_45 ⟨_, _, _, rfl, rfl, h⟩
      · have h := h.2 c4
        refine xr_bipush (pc := 21) κ (v := -2) dX5_pull_21 (by decide) ?_
        exact xr_iret (pc := 23) κ _ hQ dX5_pull_23 ⟨_, _, _, rfl, rfl, h⟩
-- ChipVolts.fall(II)J, level 4
def wp_X5_fall (k : Int32) (what : Int32) (c : CS) (x : XT) (K : Int64 → CS → XT → Prop) : Prop :=
    wp_X2_isKnot k c x (fun r1 c1_ x1_ =>
      (r1 = 0 →
        K (-2 : Int64) c1_ x1_) ∧
      (¬ r1 = 0 →
        wp_X5_isPart what (fun r3 =>
          (¬ r3 = 0 →
            wp_X5_settled c1_ x1_ (fun r5 c5_ x5_ =>
              (¬ r5 = 0 →
                vp_in k 7 ∧
                wp_X5_part (b_above (x_bal x5_ 0) k.toNatClampNeg) (b_below (x_bal x5_ 0)) what (fun r8 =>
                  K r8 c5_ x5_)) ∧
              (r5 = 0 →
                K (-3 : Int64) c5_ x5_))) ∧
          (r3 = 0 →
            K (-2 : Int64) c1_ x1_))))
set_option maxHeartbeats 4000000 in
set_option maxRecDepth 100000 in
theorem snd_X5_fall {l : Launch} (k : Int32) (what : Int32) (c : CS) (x : XT) (K : Int64 → CS → XT → Prop) (h : wp_X5_fall k what c x K) : XM l xTX yX5_fall cX5_fall 3 (some .long) 4 [.ref 0, .int k, .int what] (wX c x) (fun v ω' => ∃ (r : Int64) (c' : CS) (t' : XT), v = some (.long r) ∧ ω' = wX c' t' ∧ K r c' t') := by
    refine XM.of (by decide) (Nat.le_of_ble_eq_true rfl) (fun κ hQ => ?_)
    show Wat κ 0 [(0, .ref 0), (1, .int k), (2, .int what)] [] (wX c x)
    unfold wp_X5_fall at h
    refine xr_aload_n (pc := 0) κ 0 (x := 0) dX5_fall_0 rfl rfl ?_
    refine xr_get (pc := 1) κ xc5 (k := 0) (f := 0) (v := .ref 1) kw_1_182 (by decide) rfl (by decide) rfl dX5_fall_1 ?_
    refine xr_iload_n (pc := 4) κ 1 (x := k) dX5_fall_4 rfl rfl ?_
    refine xr_callVN (pc := 5) κ [.int k] kw_1_220 tg_X2_isKnot (snd_X2_isKnot _ _ _ _ h) rfl (by decide) (by decide) (by decide) rfl (ci := 2) rfl rfl (Nat.le_of_ble_eq_true rfl) dX5_fall_5 (fun v9 ω9 hk9 => ?_)
    obtain ⟨r1, c1_, x1_, rfl, rfl, h⟩ := hk9
    skip
    show Wat κ 8 [(0, .ref 0), (1, .int k), (2, .int what)] [.int r1] (wX c1_ x1_)
    refine xr_if_eq (pc := 8) κ (tgt := 18) dX5_fall_8 (by decide) (fun c2 => ?_) (fun c2 => ?_)
    · have h := h.1 c2
      refine xr_ldc2 (pc := 18) κ (v := -2) kw_2_18 dX5_fall_18 ?_
      exact xr_lret (pc := 21) κ _ hQ dX5_fall_21 ⟨_, _, _, rfl, rfl, h⟩
    · have h := h.2 c2
      refine xr_iload_n (pc := 11) κ 2 (x := what) dX5_fall_11 rfl rfl ?_
      refine xr_callS (pc := 12) κ [.int what] kw_2_15 tg_X5_isPart (snd_X5_isPart _ _ h) rfl (by decide) (by decide) (Nat.le_of_ble_eq_true rfl) dX5_fall_12 (fun v9 ω9 hk9 => ?_)
      obtain ⟨r3, rfl, e9, h⟩ := hk9
      rw [e9]
      show Wat κ 15 [(0, .ref 0), (1, .int k), (2, .int what)] [.int r3] (wX c1_ x1_)
      refine xr_if_ne (pc := 15) κ (tgt := 22) dX5_fall_15 (by decide) (fun c4 => ?_) (fun c4 => ?_)
      · have h := h.1 c4
        refine xr_aload_n (pc := 22) κ 0 (x := 0) dX5_fall_22 rfl rfl ?_
        refine xr_callV (pc := 23) κ [] kw_2_19 tg_X5_settled (snd_X5_settled  _ _ _ h) rfl (by decide) (by decide) (by decide) rfl (ci := 5) rfl rfl (Nat.le_of_ble_eq_true rfl) dX5_fall_23 (fun v9 ω9 hk9 => ?_)
        obtain ⟨r5, c5_, x5_, rfl, rfl, h⟩ := hk9
        skip
        show Wat κ 26 [(0, .ref 0), (1, .int k), (2, .int what)] [.int r5] (wX c5_ x5_)
        refine xr_if_ne (pc := 26) κ (tgt := 33) dX5_fall_26 (by decide) (fun c6 => ?_) (fun c6 => ?_)
        · have h := h.1 c6
          refine xr_aload_n (pc := 33) κ 0 (x := 0) dX5_fall_33 rfl rfl ?_
          refine xr_get (pc := 34) κ xc5 (k := 0) (f := 2) (v := .ref (xb 0)) kw_1_184 (by decide) rfl (by decide) rfl dX5_fall_34 ?_
          refine xr_getN (pc := 37) κ xc0 (k := (xb 0)) (f := 3) (v := .ref (xb 0 + 9)) kw_1_118 (xb_lt (j := 0) (by decide) (by decide)) (wXb_obj _ _ (by decide)) (by decide) rfl dX5_fall_37 ?_
          refine xr_iload_n (pc := 40) κ 1 (x := k) dX5_fall_40 rfl rfl ?_
          obtain ⟨i7, h⟩ := h
          refine xr_lald (pc := 41) κ (k := (xb 0 + 9)) (n := 7) (f := b_above (x_bal x5_ 0)) (xb_lt (j := 9) (by decide) (by decide)) (xTX_long (j := 9) (by decide) (by decide) (by decide)) (wXb_above _ _ (by decide)) i7 dX5_fall_41 ?_
          refine xr_aload_n (pc := 42) κ 0 (x := 0) dX5_fall_42 rfl rfl ?_
          refine xr_get (pc := 43) κ xc5 (k := 0) (f := 2) (v := .ref (xb 0)) kw_1_184 (by decide) rfl (by decide) rfl dX5_fall_43 ?_
          refine xr_getN (pc := 46) κ xc0 (k := (xb 0)) (f := 1) (v := .long (b_below (x_bal x5_ 0))) kw_1_112 (xb_lt (j := 0) (by decide) (by decide)) (wXb_obj _ _ (by decide)) (by decide) rfl dX5_fall_46 ?_
          refine xr_iload_n (pc := 49) κ 2 (x := what) dX5_fall_49 rfl rfl ?_
          refine xr_callS (pc := 50) κ [.long (b_above (x_bal x5_ 0) k.toNatClampNeg), .long (b_below (x_bal x5_ 0)), .int what] kw_2_49 tg_X5_part (snd_X5_part _ _ _ _ h) rfl (by decide) (by decide) (Nat.le_of_ble_eq_true rfl) dX5_fall_50 (fun v9 ω9 hk9 => ?_)
          obtain ⟨r8, rfl, e9, h⟩ := hk9
          rw [e9]
          show Wat κ 53 [(0, .ref 0), (1, .int k), (2, .int what)] [.long r8] (wX c5_ x5_)
          exact xr_lret (pc := 53) κ _ hQ dX5_fall_53 ⟨_, _, _, rfl, rfl, h⟩
        · have h := h.2 c6
          refine xr_ldc2 (pc := 29) κ (v := -3) kw_2_48 dX5_fall_29 ?_
          exact xr_lret (pc := 32) κ _ hQ dX5_fall_32 ⟨_, _, _, rfl, rfl, h⟩
      · have h := h.2 c4
        refine xr_ldc2 (pc := 18) κ (v := -2) kw_2_18 dX5_fall_18 ?_
        exact xr_lret (pc := 21) κ _ hQ dX5_fall_21 ⟨_, _, _, rfl, rfl, h⟩
-- ChipVolts.greatest()I, level 4
def wp_X5_greatest (c : CS) (x : XT) (K : Int32 → CS → XT → Prop) : Prop :=
    wp_X5_settled c x (fun r1 c1_ x1_ =>
      (r1 = 0 →
        K (-3 : Int32) c1_ x1_) ∧
      (¬ r1 = 0 →
        wp_X0_highest 0 c1_ x1_ (fun r3 c3_ x3_ =>
          K r3 c3_ x3_)))
set_option maxHeartbeats 4000000 in
set_option maxRecDepth 100000 in
theorem snd_X5_greatest {l : Launch} (c : CS) (x : XT) (K : Int32 → CS → XT → Prop) (h : wp_X5_greatest  c x K) : XM l xTX yX5_greatest cX5_greatest 1 (some .int) 4 [.ref 0] (wX c x) (fun v ω' => ∃ (r : Int32) (c' : CS) (t' : XT), v = some (.int r) ∧ ω' = wX c' t' ∧ K r c' t') := by
    refine XM.of (by decide) (Nat.le_of_ble_eq_true rfl) (fun κ hQ => ?_)
    show Wat κ 0 [(0, .ref 0)] [] (wX c x)
    unfold wp_X5_greatest at h
    refine xr_aload_n (pc := 0) κ 0 (x := 0) dX5_greatest_0 rfl rfl ?_
    refine xr_callV (pc := 1) κ [] kw_2_19 tg_X5_settled (snd_X5_settled  _ _ _ h) rfl (by decide) (by decide) (by decide) rfl (ci := 5) rfl rfl (Nat.le_of_ble_eq_true rfl) dX5_greatest_1 (fun v9 ω9 hk9 => ?_)
    obtain ⟨r1, c1_, x1_, rfl, rfl, h⟩ := hk9
    skip
    show Wat κ 4 [(0, .ref 0)] [.int r1] (wX c1_ x1_)
    refine xr_if_eq (pc := 4) κ (tgt := 17) dX5_greatest_4 (by decide) (fun c2 => ?_) (fun c2 => ?_)
    · have h := h.1 c2
      refine xr_bipush (pc := 17) κ (v := -3) dX5_greatest_17 (by decide) ?_
      exact xr_iret (pc := 19) κ _ hQ dX5_greatest_19 ⟨_, _, _, rfl, rfl, h⟩
    · have h := h.2 c2
      refine xr_aload_n (pc := 7) κ 0 (x := 0) dX5_greatest_7 rfl rfl ?_
      refine xr_get (pc := 8) κ xc5 (k := 0) (f := 2) (v := .ref (xb 0)) kw_1_184 (by decide) rfl (by decide) rfl dX5_greatest_8 ?_
      refine xr_callVN (pc := 11) κ [] kw_2_62 tg_X0_highest (snd_X0_highest 0 (by decide)  _ _ _ h) rfl (by decide) (by decide) (xb_lt (j := 0) (by decide) (by decide)) (wXb_obj _ _ (by decide)) (ci := 0) rfl rfl (Nat.le_of_ble_eq_true rfl) dX5_greatest_11 (fun v9 ω9 hk9 => ?_)
      obtain ⟨r3, c3_, x3_, rfl, rfl, h⟩ := hk9
      skip
      show Wat κ 14 [(0, .ref 0)] [.int r3] (wX c3_ x3_)
      refine xr_goto (pc := 14) κ (tgt := 19) dX5_greatest_14 (by decide) ?_
      exact xr_iret (pc := 19) κ _ hQ dX5_greatest_19 ⟨_, _, _, rfl, rfl, h⟩
-- ChipVolts.flow(II)J, level 4
def wp_X5_flow (w : Int32) (what : Int32) (c : CS) (x : XT) (K : Int64 → CS → XT → Prop) : Prop :=
    wp_X2_isWire w c x (fun r1 c1_ x1_ =>
      (r1 = 0 →
        K (-1000000000000 : Int64) c1_ x1_) ∧
      (¬ r1 = 0 →
        wp_X5_isPart what (fun r3 =>
          (¬ r3 = 0 →
            wp_X5_settled c1_ x1_ (fun r5 c5_ x5_ =>
              (¬ r5 = 0 →
                vp_in w 12 ∧
                vp_in (c_from c5_ w.toNatClampNeg) 7 ∧
                vp_in w 12 ∧
                vp_in (c_to c5_ w.toNatClampNeg) 7 ∧
                vp_in w 12 ∧
                wp_X5_part ((Int32.toInt64 (c_wide c5_ w.toNatClampNeg)) * ((b_above (x_bal x5_ 0) (((c_from c5_ w.toNatClampNeg)).toNatClampNeg)) - (b_above (x_bal x5_ 0) (((c_to c5_ w.toNatClampNeg)).toNatClampNeg)))) (b_below (x_bal x5_ 0)) what (fun r12 =>
                  K r12 c5_ x5_)) ∧
              (r5 = 0 →
                K (-2000000000000 : Int64) c5_ x5_))) ∧
          (r3 = 0 →
            K (-1000000000000 : Int64) c1_ x1_))))
set_option maxHeartbeats 4000000 in
set_option maxRecDepth 100000 in
theorem snd_X5_flow {l : Launch} (w : Int32) (what : Int32) (c : CS) (x : XT) (K : Int64 → CS → XT → Prop) (h : wp_X5_flow w what c x K) : XM l xTX yX5_flow cX5_flow 5 (some .long) 4 [.ref 0, .int w, .int what] (wX c x) (fun v ω' => ∃ (r : Int64) (c' : CS) (t' : XT), v = some (.long r) ∧ ω' = wX c' t' ∧ K r c' t') := by
    refine XM.of (by decide) (Nat.le_of_ble_eq_true rfl) (fun κ hQ => ?_)
    show Wat κ 0 [(0, .ref 0), (1, .int w), (2, .int what)] [] (wX c x)
    unfold wp_X5_flow at h
    refine xr_aload_n (pc := 0) κ 0 (x := 0) dX5_flow_0 rfl rfl ?_
    refine xr_get (pc := 1) κ xc5 (k := 0) (f := 0) (v := .ref 1) kw_1_182 (by decide) rfl (by decide) rfl dX5_flow_1 ?_
    refine xr_iload_n (pc := 4) κ 1 (x := w) dX5_flow_4 rfl rfl ?_
    refine xr_callVN (pc := 5) κ [.int w] kw_1_232 tg_X2_isWire (snd_X2_isWire _ _ _ _ h) rfl (by decide) (by decide) (by decide) rfl (ci := 2) rfl rfl (Nat.le_of_ble_eq_true rfl) dX5_flow_5 (fun v9 ω9 hk9 => ?_)
    obtain ⟨r1, c1_, x1_, rfl, rfl, h⟩ := hk9
    skip
    show Wat κ 8 [(0, .ref 0), (1, .int w), (2, .int what)] [.int r1] (wX c1_ x1_)
    refine xr_if_eq (pc := 8) κ (tgt := 18) dX5_flow_8 (by decide) (fun c2 => ?_) (fun c2 => ?_)
    · have h := h.1 c2
      refine xr_ldc2 (pc := 18) κ (v := -1000000000000) kw_2_70 dX5_flow_18 ?_
      exact xr_lret (pc := 21) κ _ hQ dX5_flow_21 ⟨_, _, _, rfl, rfl, h⟩
    · have h := h.2 c2
      refine xr_iload_n (pc := 11) κ 2 (x := what) dX5_flow_11 rfl rfl ?_
      refine xr_callS (pc := 12) κ [.int what] kw_2_15 tg_X5_isPart (snd_X5_isPart _ _ h) rfl (by decide) (by decide) (Nat.le_of_ble_eq_true rfl) dX5_flow_12 (fun v9 ω9 hk9 => ?_)
      obtain ⟨r3, rfl, e9, h⟩ := hk9
      rw [e9]
      show Wat κ 15 [(0, .ref 0), (1, .int w), (2, .int what)] [.int r3] (wX c1_ x1_)
      refine xr_if_ne (pc := 15) κ (tgt := 22) dX5_flow_15 (by decide) (fun c4 => ?_) (fun c4 => ?_)
      · have h := h.1 c4
        refine xr_aload_n (pc := 22) κ 0 (x := 0) dX5_flow_22 rfl rfl ?_
        refine xr_callV (pc := 23) κ [] kw_2_19 tg_X5_settled (snd_X5_settled  _ _ _ h) rfl (by decide) (by decide) (by decide) rfl (ci := 5) rfl rfl (Nat.le_of_ble_eq_true rfl) dX5_flow_23 (fun v9 ω9 hk9 => ?_)
        obtain ⟨r5, c5_, x5_, rfl, rfl, h⟩ := hk9
        skip
        show Wat κ 26 [(0, .ref 0), (1, .int w), (2, .int what)] [.int r5] (wX c5_ x5_)
        refine xr_if_ne (pc := 26) κ (tgt := 33) dX5_flow_26 (by decide) (fun c6 => ?_) (fun c6 => ?_)
        · have h := h.1 c6
          refine xr_aload_n (pc := 33) κ 0 (x := 0) dX5_flow_33 rfl rfl ?_
          refine xr_get (pc := 34) κ xc5 (k := 0) (f := 2) (v := .ref (xb 0)) kw_1_184 (by decide) rfl (by decide) rfl dX5_flow_34 ?_
          refine xr_getN (pc := 37) κ xc0 (k := (xb 0)) (f := 3) (v := .ref (xb 0 + 9)) kw_1_118 (xb_lt (j := 0) (by decide) (by decide)) (wXb_obj _ _ (by decide)) (by decide) rfl dX5_flow_37 ?_
          refine xr_aload_n (pc := 40) κ 0 (x := 0) dX5_flow_40 rfl rfl ?_
          refine xr_get (pc := 41) κ xc5 (k := 0) (f := 0) (v := .ref 1) kw_1_182 (by decide) rfl (by decide) rfl dX5_flow_41 ?_
          refine xr_getN (pc := 44) κ xc2 (k := 1) (f := 4) (v := .ref 3) kw_1_41 (by decide) rfl (by decide) rfl dX5_flow_44 ?_
          refine xr_iload_n (pc := 47) κ 1 (x := w) dX5_flow_47 rfl rfl ?_
          obtain ⟨i7, h⟩ := h
          refine xr_iald (pc := 48) κ (k := 3) (n := 12) (f := c_from c5_) (by decide) rfl rfl i7 dX5_flow_48 ?_
          obtain ⟨i8, h⟩ := h
          refine xr_lald (pc := 49) κ (k := (xb 0 + 9)) (n := 7) (f := b_above (x_bal x5_ 0)) (xb_lt (j := 9) (by decide) (by decide)) (xTX_long (j := 9) (by decide) (by decide) (by decide)) (wXb_above _ _ (by decide)) i8 dX5_flow_49 ?_
          refine xr_aload_n (pc := 50) κ 0 (x := 0) dX5_flow_50 rfl rfl ?_
          refine xr_get (pc := 51) κ xc5 (k := 0) (f := 2) (v := .ref (xb 0)) kw_1_184 (by decide) rfl (by decide) rfl dX5_flow_51 ?_
          refine xr_getN (pc := 54) κ xc0 (k := (xb 0)) (f := 3) (v := .ref (xb 0 + 9)) kw_1_118 (xb_lt (j := 0) (by decide) (by decide)) (wXb_obj _ _ (by decide)) (by decide) rfl dX5_flow_54 ?_
          refine xr_aload_n (pc := 57) κ 0 (x := 0) dX5_flow_57 rfl rfl ?_
          refine xr_get (pc := 58) κ xc5 (k := 0) (f := 0) (v := .ref 1) kw_1_182 (by decide) rfl (by decide) rfl dX5_flow_58 ?_
          refine xr_getN (pc := 61) κ xc2 (k := 1) (f := 5) (v := .ref 4) kw_1_45 (by decide) rfl (by decide) rfl dX5_flow_61 ?_
          refine xr_iload_n (pc := 64) κ 1 (x := w) dX5_flow_64 rfl rfl ?_
          obtain ⟨i9, h⟩ := h
          refine xr_iald (pc := 65) κ (k := 4) (n := 12) (f := c_to c5_) (by decide) rfl rfl i9 dX5_flow_65 ?_
          obtain ⟨i10, h⟩ := h
          refine xr_lald (pc := 66) κ (k := (xb 0 + 9)) (n := 7) (f := b_above (x_bal x5_ 0)) (xb_lt (j := 9) (by decide) (by decide)) (xTX_long (j := 9) (by decide) (by decide) (by decide)) (wXb_above _ _ (by decide)) i10 dX5_flow_66 ?_
          refine xr_lsub (pc := 67) κ dX5_flow_67 ?_
          refine xr_lstore_n (pc := 68) κ [1, 2, 3, 0] (lv' := [(0, .ref 0), (1, .int w), (2, .int what), (3, .long ((b_above (x_bal x5_ 0) (((c_from c5_ w.toNatClampNeg)).toNatClampNeg)) - (b_above (x_bal x5_ 0) (((c_to c5_ w.toNatClampNeg)).toNatClampNeg))))]) dX5_flow_68 rfl (by decide) rfl ?_
          refine xr_aload_n (pc := 69) κ 0 (x := 0) dX5_flow_69 rfl rfl ?_
          refine xr_get (pc := 70) κ xc5 (k := 0) (f := 0) (v := .ref 1) kw_1_182 (by decide) rfl (by decide) rfl dX5_flow_70 ?_
          refine xr_getN (pc := 73) κ xc2 (k := 1) (f := 6) (v := .ref 5) kw_1_48 (by decide) rfl (by decide) rfl dX5_flow_73 ?_
          refine xr_iload_n (pc := 76) κ 1 (x := w) dX5_flow_76 rfl rfl ?_
          obtain ⟨i11, h⟩ := h
          refine xr_iald (pc := 77) κ (k := 5) (n := 12) (f := c_wide c5_) (by decide) rfl rfl i11 dX5_flow_77 ?_
          refine xr_i2l (pc := 78) κ dX5_flow_78 ?_
          refine xr_lload_n (pc := 79) κ 3 (x := ((b_above (x_bal x5_ 0) (((c_from c5_ w.toNatClampNeg)).toNatClampNeg)) - (b_above (x_bal x5_ 0) (((c_to c5_ w.toNatClampNeg)).toNatClampNeg)))) dX5_flow_79 rfl rfl ?_
          refine xr_lmul (pc := 80) κ dX5_flow_80 ?_
          refine xr_aload_n (pc := 81) κ 0 (x := 0) dX5_flow_81 rfl rfl ?_
          refine xr_get (pc := 82) κ xc5 (k := 0) (f := 2) (v := .ref (xb 0)) kw_1_184 (by decide) rfl (by decide) rfl dX5_flow_82 ?_
          refine xr_getN (pc := 85) κ xc0 (k := (xb 0)) (f := 1) (v := .long (b_below (x_bal x5_ 0))) kw_1_112 (xb_lt (j := 0) (by decide) (by decide)) (wXb_obj _ _ (by decide)) (by decide) rfl dX5_flow_85 ?_
          refine xr_iload_n (pc := 88) κ 2 (x := what) dX5_flow_88 rfl rfl ?_
          refine xr_callS (pc := 89) κ [.long ((Int32.toInt64 (c_wide c5_ w.toNatClampNeg)) * ((b_above (x_bal x5_ 0) (((c_from c5_ w.toNatClampNeg)).toNatClampNeg)) - (b_above (x_bal x5_ 0) (((c_to c5_ w.toNatClampNeg)).toNatClampNeg)))), .long (b_below (x_bal x5_ 0)), .int what] kw_2_49 tg_X5_part (snd_X5_part _ _ _ _ h) rfl (by decide) (by decide) (Nat.le_of_ble_eq_true rfl) dX5_flow_89 (fun v9 ω9 hk9 => ?_)
          obtain ⟨r12, rfl, e9, h⟩ := hk9
          rw [e9]
          show Wat κ 92 [(0, .ref 0), (1, .int w), (2, .int what), (3, .long ((b_above (x_bal x5_ 0) (((c_from c5_ w.toNatClampNeg)).toNatClampNeg)) - (b_above (x_bal x5_ 0) (((c_to c5_ w.toNatClampNeg)).toNatClampNeg))))] [.long r12] (wX c5_ x5_)
          exact xr_lret (pc := 92) κ _ hQ dX5_flow_92 ⟨_, _, _, rfl, rfl, h⟩
        · have h := h.2 c6
          refine xr_ldc2 (pc := 29) κ (v := -2000000000000) kw_2_71 dX5_flow_29 ?_
          exact xr_lret (pc := 32) κ _ hQ dX5_flow_32 ⟨_, _, _, rfl, rfl, h⟩
      · have h := h.2 c4
        refine xr_ldc2 (pc := 18) κ (v := -1000000000000) kw_2_70 dX5_flow_18 ?_
        exact xr_lret (pc := 21) κ _ hQ dX5_flow_21 ⟨_, _, _, rfl, rfl, h⟩
-- ChipVolts.resist(III)J, level 4
def wp_X5_resist (a : Int32) (b : Int32) (what : Int32) (c : CS) (x : XT) (K : Int64 → CS → XT → Prop) : Prop :=
    wp_X2_isKnot a c x (fun r1 c1_ x1_ =>
      (r1 = 0 →
        K (-2 : Int64) c1_ x1_) ∧
      (¬ r1 = 0 →
        wp_X2_isKnot b c1_ x1_ (fun r3 c3_ x3_ =>
          (r3 = 0 →
            K (-2 : Int64) c3_ x3_) ∧
          (¬ r3 = 0 →
            wp_X5_isPart what (fun r5 =>
              (¬ r5 = 0 →
                wp_X5_settled c3_ x3_ (fun r7 c7_ x7_ =>
                  (¬ r7 = 0 →
                    vp_in a 7 ∧
                    vp_in b 7 ∧
                    wp_X5_part ((b_cell (x_bal x7_ 0)) a.toNatClampNeg b.toNatClampNeg) (b_below (x_bal x7_ 0)) what (fun r11 =>
                      K r11 c7_ x7_)) ∧
                  (r7 = 0 →
                    K (-3 : Int64) c7_ x7_))) ∧
              (r5 = 0 →
                K (-2 : Int64) c3_ x3_))))))
set_option maxHeartbeats 4000000 in
set_option maxRecDepth 100000 in
theorem snd_X5_resist {l : Launch} (a : Int32) (b : Int32) (what : Int32) (c : CS) (x : XT) (K : Int64 → CS → XT → Prop) (h : wp_X5_resist a b what c x K) : XM l xTX yX5_resist cX5_resist 4 (some .long) 4 [.ref 0, .int a, .int b, .int what] (wX c x) (fun v ω' => ∃ (r : Int64) (c' : CS) (t' : XT), v = some (.long r) ∧ ω' = wX c' t' ∧ K r c' t') := by
    refine XM.of (by decide) (Nat.le_of_ble_eq_true rfl) (fun κ hQ => ?_)
    show Wat κ 0 [(0, .ref 0), (1, .int a), (2, .int b), (3, .int what)] [] (wX c x)
    unfold wp_X5_resist at h
    refine xr_aload_n (pc := 0) κ 0 (x := 0) dX5_resist_0 rfl rfl ?_
    refine xr_get (pc := 1) κ xc5 (k := 0) (f := 0) (v := .ref 1) kw_1_182 (by decide) rfl (by decide) rfl dX5_resist_1 ?_
    refine xr_iload_n (pc := 4) κ 1 (x := a) dX5_resist_4 rfl rfl ?_
    refine xr_callVN (pc := 5) κ [.int a] kw_1_220 tg_X2_isKnot (snd_X2_isKnot _ _ _ _ h) rfl (by decide) (by decide) (by decide) rfl (ci := 2) rfl rfl (Nat.le_of_ble_eq_true rfl) dX5_resist_5 (fun v9 ω9 hk9 => ?_)
    obtain ⟨r1, c1_, x1_, rfl, rfl, h⟩ := hk9
    skip
    show Wat κ 8 [(0, .ref 0), (1, .int a), (2, .int b), (3, .int what)] [.int r1] (wX c1_ x1_)
    refine xr_if_eq (pc := 8) κ (tgt := 29) dX5_resist_8 (by decide) (fun c2 => ?_) (fun c2 => ?_)
    · have h := h.1 c2
      refine xr_ldc2 (pc := 29) κ (v := -2) kw_2_18 dX5_resist_29 ?_
      exact xr_lret (pc := 32) κ _ hQ dX5_resist_32 ⟨_, _, _, rfl, rfl, h⟩
    · have h := h.2 c2
      refine xr_aload_n (pc := 11) κ 0 (x := 0) dX5_resist_11 rfl rfl ?_
      refine xr_get (pc := 12) κ xc5 (k := 0) (f := 0) (v := .ref 1) kw_1_182 (by decide) rfl (by decide) rfl dX5_resist_12 ?_
      refine xr_iload_n (pc := 15) κ 2 (x := b) dX5_resist_15 rfl rfl ?_
      refine xr_callVN (pc := 16) κ [.int b] kw_1_220 tg_X2_isKnot (snd_X2_isKnot _ _ _ _ h) rfl (by decide) (by decide) (by decide) rfl (ci := 2) rfl rfl (Nat.le_of_ble_eq_true rfl) dX5_resist_16 (fun v9 ω9 hk9 => ?_)
      obtain ⟨r3, c3_, x3_, rfl, rfl, h⟩ := hk9
      skip
      show Wat κ 19 [(0, .ref 0), (1, .int a), (2, .int b), (3, .int what)] [.int r3] (wX c3_ x3_)
      refine xr_if_eq (pc := 19) κ (tgt := 29) dX5_resist_19 (by decide) (fun c4 => ?_) (fun c4 => ?_)
      · have h := h.1 c4
        refine xr_ldc2 (pc := 29) κ (v := -2) kw_2_18 dX5_resist_29 ?_
        exact xr_lret (pc := 32) κ _ hQ dX5_resist_32 ⟨_, _, _, rfl, rfl, h⟩
      · have h := h.2 c4
        refine xr_iload_n (pc := 22) κ 3 (x := what) dX5_resist_22 rfl rfl ?_
        refine xr_callS (pc := 23) κ [.int what] kw_2_15 tg_X5_isPart (snd_X5_isPart _ _ h) rfl (by decide) (by decide) (Nat.le_of_ble_eq_true rfl) dX5_resist_23 (fun v9 ω9 hk9 => ?_)
        obtain ⟨r5, rfl, e9, h⟩ := hk9
        rw [e9]
        show Wat κ 26 [(0, .ref 0), (1, .int a), (2, .int b), (3, .int what)] [.int r5] (wX c3_ x3_)
        refine xr_if_ne (pc := 26) κ (tgt := 33) dX5_resist_26 (by decide) (fun c6 => ?_) (fun c6 => ?_)
        · have h := h.1 c6
          refine xr_aload_n (pc := 33) κ 0 (x := 0) dX5_resist_33 rfl rfl ?_
          refine xr_callV (pc := 34) κ [] kw_2_19 tg_X5_settled (snd_X5_settled  _ _ _ h) rfl (by decide) (by decide) (by decide) rfl (ci := 5) rfl rfl (Nat.le_of_ble_eq_true rfl) dX5_resist_34 (fun v9 ω9 hk9 => ?_)
          obtain ⟨r7, c7_, x7_, rfl, rfl, h⟩ := hk9
          skip
          show Wat κ 37 [(0, .ref 0), (1, .int a), (2, .int b), (3, .int what)] [.int r7] (wX c7_ x7_)
          refine xr_if_ne (pc := 37) κ (tgt := 44) dX5_resist_37 (by decide) (fun c8 => ?_) (fun c8 => ?_)
          · have h := h.1 c8
            refine xr_aload_n (pc := 44) κ 0 (x := 0) dX5_resist_44 rfl rfl ?_
            refine xr_get (pc := 45) κ xc5 (k := 0) (f := 2) (v := .ref (xb 0)) kw_1_184 (by decide) rfl (by decide) rfl dX5_resist_45 ?_
            refine xr_getN (pc := 48) κ xc0 (k := (xb 0)) (f := 2) (v := .ref (xb 0 + 1)) kw_1_116 (xb_lt (j := 0) (by decide) (by decide)) (wXb_obj _ _ (by decide)) (by decide) rfl dX5_resist_48 ?_
            refine xr_iload_n (pc := 51) κ 1 (x := a) dX5_resist_51 rfl rfl ?_
            obtain ⟨i9, h⟩ := h
            refine xr_aald (pc := 52) κ (k := (xb 0 + 1)) (n := 7) (j := xb 0 + 2 + a.toNatClampNeg) (xb_lt (j := 1) (by decide) (by decide)) (xTX_out (by decide)) rfl (wXb_out _ _ (by decide)) i9 (if_pos (vp_lt i9)) dX5_resist_52 ?_
            refine xr_iload_n (pc := 53) κ 2 (x := b) dX5_resist_53 rfl rfl ?_
            obtain ⟨i10, h⟩ := h
            refine xr_lald (pc := 54) κ (k := (xb 0 + 2 + a.toNatClampNeg)) (n := 7) (f := (b_cell (x_bal x7_ 0)) a.toNatClampNeg) (xb_row_lt (by decide) (vp_lt i9)) (xTX_row (by decide) (vp_lt i9)) (wXb_row _ _ (by decide) (vp_lt i9)) i10 dX5_resist_54 ?_
            refine xr_aload_n (pc := 55) κ 0 (x := 0) dX5_resist_55 rfl rfl ?_
            refine xr_get (pc := 56) κ xc5 (k := 0) (f := 2) (v := .ref (xb 0)) kw_1_184 (by decide) rfl (by decide) rfl dX5_resist_56 ?_
            refine xr_getN (pc := 59) κ xc0 (k := (xb 0)) (f := 1) (v := .long (b_below (x_bal x7_ 0))) kw_1_112 (xb_lt (j := 0) (by decide) (by decide)) (wXb_obj _ _ (by decide)) (by decide) rfl dX5_resist_59 ?_
            refine xr_iload_n (pc := 62) κ 3 (x := what) dX5_resist_62 rfl rfl ?_
            refine xr_callS (pc := 63) κ [.long ((b_cell (x_bal x7_ 0)) a.toNatClampNeg b.toNatClampNeg), .long (b_below (x_bal x7_ 0)), .int what] kw_2_49 tg_X5_part (snd_X5_part _ _ _ _ h) rfl (by decide) (by decide) (Nat.le_of_ble_eq_true rfl) dX5_resist_63 (fun v9 ω9 hk9 => ?_)
            obtain ⟨r11, rfl, e9, h⟩ := hk9
            rw [e9]
            show Wat κ 66 [(0, .ref 0), (1, .int a), (2, .int b), (3, .int what)] [.long r11] (wX c7_ x7_)
            exact xr_lret (pc := 66) κ _ hQ dX5_resist_66 ⟨_, _, _, rfl, rfl, h⟩
          · have h := h.2 c8
            refine xr_ldc2 (pc := 40) κ (v := -3) kw_2_48 dX5_resist_40 ?_
            exact xr_lret (pc := 43) κ _ hQ dX5_resist_43 ⟨_, _, _, rfl, rfl, h⟩
        · have h := h.2 c6
          refine xr_ldc2 (pc := 29) κ (v := -2) kw_2_18 dX5_resist_29 ?_
          exact xr_lret (pc := 32) κ _ hQ dX5_resist_32 ⟨_, _, _, rfl, rfl, h⟩
-- ChipVolts.block(II)I, level 1
def wp_X5_block (k : Int32) (mo : Int32) (c : CS) (x : XT) (K : Int32 → CS → XT → Prop) : Prop :=
    wp_X2_isKnot k c x (fun r1 c1_ x1_ =>
      (r1 = 0 →
        K (-2 : Int32) c1_ x1_) ∧
      (¬ r1 = 0 →
        wp_X5_between mo (1 : Int32) (20 : Int32) (fun r3 =>
          (¬ r3 = 0 →
            ((c_nb c1_) < (6 : Int32) →
              wp_X1_addBlock k mo c1_ x1_ (fun r6 c6_ x6_ =>
                K r6 c6_ x6_)) ∧
            (¬ (c_nb c1_) < (6 : Int32) →
              K (-4 : Int32) c1_ x1_)) ∧
          (r3 = 0 →
            K (-2 : Int32) c1_ x1_))))
set_option maxHeartbeats 4000000 in
set_option maxRecDepth 100000 in
theorem snd_X5_block {l : Launch} (k : Int32) (mo : Int32) (c : CS) (x : XT) (K : Int32 → CS → XT → Prop) (h : wp_X5_block k mo c x K) : XM l xTX yX5_block cX5_block 3 (some .int) 1 [.ref 0, .int k, .int mo] (wX c x) (fun v ω' => ∃ (r : Int32) (c' : CS) (t' : XT), v = some (.int r) ∧ ω' = wX c' t' ∧ K r c' t') := by
    refine XM.of (by decide) (Nat.le_of_ble_eq_true rfl) (fun κ hQ => ?_)
    show Wat κ 0 [(0, .ref 0), (1, .int k), (2, .int mo)] [] (wX c x)
    unfold wp_X5_block at h
    refine xr_aload_n (pc := 0) κ 0 (x := 0) dX5_block_0 rfl rfl ?_
    refine xr_get (pc := 1) κ xc5 (k := 0) (f := 0) (v := .ref 1) kw_1_182 (by decide) rfl (by decide) rfl dX5_block_1 ?_
    refine xr_iload_n (pc := 4) κ 1 (x := k) dX5_block_4 rfl rfl ?_
    refine xr_callVN (pc := 5) κ [.int k] kw_1_220 tg_X2_isKnot (snd_X2_isKnot _ _ _ _ h) rfl (by decide) (by decide) (by decide) rfl (ci := 2) rfl rfl (Nat.le_of_ble_eq_true rfl) dX5_block_5 (fun v9 ω9 hk9 => ?_)
    obtain ⟨r1, c1_, x1_, rfl, rfl, h⟩ := hk9
    skip
    show Wat κ 8 [(0, .ref 0), (1, .int k), (2, .int mo)] [.int r1] (wX c1_ x1_)
    refine xr_if_eq (pc := 8) κ (tgt := 21) dX5_block_8 (by decide) (fun c2 => ?_) (fun c2 => ?_)
    · have h := h.1 c2
      refine xr_bipush (pc := 21) κ (v := -2) dX5_block_21 (by decide) ?_
      exact xr_iret (pc := 23) κ _ hQ dX5_block_23 ⟨_, _, _, rfl, rfl, h⟩
    · have h := h.2 c2
      refine xr_iload_n (pc := 11) κ 2 (x := mo) dX5_block_11 rfl rfl ?_
      refine xr_iconst (pc := 12) κ (v := 1) dX5_block_12 (by decide) ?_
      refine xr_bipush (pc := 13) κ (v := 20) dX5_block_13 (by decide) ?_
      refine xr_callS (pc := 15) κ [.int mo, .int (1 : Int32), .int (20 : Int32)] kw_1_205 tg_X5_between (snd_X5_between _ _ _ _ h) rfl (by decide) (by decide) (Nat.le_of_ble_eq_true rfl) dX5_block_15 (fun v9 ω9 hk9 => ?_)
      obtain ⟨r3, rfl, e9, h⟩ := hk9
      rw [e9]
      show Wat κ 18 [(0, .ref 0), (1, .int k), (2, .int mo)] [.int r3] (wX c1_ x1_)
      refine xr_if_ne (pc := 18) κ (tgt := 24) dX5_block_18 (by decide) (fun c4 => ?_) (fun c4 => ?_)
      · have h := h.1 c4
        refine xr_aload_n (pc := 24) κ 0 (x := 0) dX5_block_24 rfl rfl ?_
        refine xr_get (pc := 25) κ xc5 (k := 0) (f := 1) (v := .ref 7) kw_1_183 (by decide) rfl (by decide) rfl dX5_block_25 ?_
        refine xr_getN (pc := 28) κ xc1 (k := 7) (f := 0) (v := .int (c_nb c1_)) kw_1_79 (by decide) rfl (by decide) rfl dX5_block_28 ?_
        refine xr_bipush (pc := 31) κ (v := 6) dX5_block_31 (by decide) ?_
        refine xr_icmp_lt (pc := 33) κ (tgt := 39) dX5_block_33 (by decide) (fun c5 => ?_) (fun c5 => ?_)
        · have h := h.1 c5
          refine xr_aload_n (pc := 39) κ 0 (x := 0) dX5_block_39 rfl rfl ?_
          refine xr_get (pc := 40) κ xc5 (k := 0) (f := 1) (v := .ref 7) kw_1_183 (by decide) rfl (by decide) rfl dX5_block_40 ?_
          refine xr_iload_n (pc := 43) κ 1 (x := k) dX5_block_43 rfl rfl ?_
          refine xr_iload_n (pc := 44) κ 2 (x := mo) dX5_block_44 rfl rfl ?_
          refine xr_callVN (pc := 45) κ [.int k, .int mo] kw_2_80 tg_X1_addBlock (snd_X1_addBlock _ _ _ _ _ h) rfl (by decide) (by decide) (by decide) rfl (ci := 1) rfl rfl (Nat.le_of_ble_eq_true rfl) dX5_block_45 (fun v9 ω9 hk9 => ?_)
          obtain ⟨r6, c6_, x6_, rfl, rfl, h⟩ := hk9
          skip
          show Wat κ 48 [(0, .ref 0), (1, .int k), (2, .int mo)] [.int r6] (wX c6_ x6_)
          exact xr_iret (pc := 48) κ _ hQ dX5_block_48 ⟨_, _, _, rfl, rfl, h⟩
        · have h := h.2 c5
          refine xr_bipush (pc := 36) κ (v := -4) dX5_block_36 (by decide) ?_
          exact xr_iret (pc := 38) κ _ hQ dX5_block_38 ⟨_, _, _, rfl, rfl, h⟩
      · have h := h.2 c4
        refine xr_bipush (pc := 21) κ (v := -2) dX5_block_21 (by decide) ?_
        exact xr_iret (pc := 23) κ _ hQ dX5_block_23 ⟨_, _, _, rfl, rfl, h⟩
-- ChipVolts.budget(I)I, level 1
def wp_X5_budget (v : Int32) (c : CS) (x : XT) (K : Int32 → CS → XT → Prop) : Prop :=
    wp_X5_between v (0 : Int32) (100 : Int32) (fun r1 =>
      (¬ r1 = 0 →
        K (c_budget c) (cs_budget c v) x) ∧
      (r1 = 0 →
        K (-2 : Int32) c x))
set_option maxHeartbeats 4000000 in
set_option maxRecDepth 100000 in
theorem snd_X5_budget {l : Launch} (v : Int32) (c : CS) (x : XT) (K : Int32 → CS → XT → Prop) (h : wp_X5_budget v c x K) : XM l xTX yX5_budget cX5_budget 3 (some .int) 1 [.ref 0, .int v] (wX c x) (fun v ω' => ∃ (r : Int32) (c' : CS) (t' : XT), v = some (.int r) ∧ ω' = wX c' t' ∧ K r c' t') := by
    refine XM.of (by decide) (Nat.le_of_ble_eq_true rfl) (fun κ hQ => ?_)
    show Wat κ 0 [(0, .ref 0), (1, .int v)] [] (wX c x)
    unfold wp_X5_budget at h
    refine xr_iload_n (pc := 0) κ 1 (x := v) dX5_budget_0 rfl rfl ?_
    refine xr_iconst (pc := 1) κ (v := 0) dX5_budget_1 (by decide) ?_
    refine xr_bipush (pc := 2) κ (v := 100) dX5_budget_2 (by decide) ?_
    refine xr_callS (pc := 4) κ [.int v, .int (0 : Int32), .int (100 : Int32)] kw_1_205 tg_X5_between (snd_X5_between _ _ _ _ h) rfl (by decide) (by decide) (Nat.le_of_ble_eq_true rfl) dX5_budget_4 (fun v9 ω9 hk9 => ?_)
    obtain ⟨r1, rfl, e9, h⟩ := hk9
    rw [e9]
    show Wat κ 7 [(0, .ref 0), (1, .int v)] [.int r1] (wX c x)
    refine xr_if_ne (pc := 7) κ (tgt := 13) dX5_budget_7 (by decide) (fun c2 => ?_) (fun c2 => ?_)
    · have h := h.1 c2
      refine xr_aload_n (pc := 13) κ 0 (x := 0) dX5_budget_13 rfl rfl ?_
      refine xr_get (pc := 14) κ xc5 (k := 0) (f := 1) (v := .ref 7) kw_1_183 (by decide) rfl (by decide) rfl dX5_budget_14 ?_
      refine xr_getN (pc := 17) κ xc1 (k := 7) (f := 1) (v := .int (c_budget c)) kw_1_81 (by decide) rfl (by decide) rfl dX5_budget_17 ?_
      refine xr_istore_n (pc := 20) κ [1, 2, 0] (lv' := [(0, .ref 0), (1, .int v), (2, .int (c_budget c))]) dX5_budget_20 rfl (by decide) rfl ?_
      refine xr_aload_n (pc := 21) κ 0 (x := 0) dX5_budget_21 rfl rfl ?_
      refine xr_get (pc := 22) κ xc5 (k := 0) (f := 1) (v := .ref 7) kw_1_183 (by decide) rfl (by decide) rfl dX5_budget_22 ?_
      refine xr_iload_n (pc := 25) κ 1 (x := v) dX5_budget_25 rfl rfl ?_
      refine xr_putN (pc := 26) κ xc1 (k := 7) (f := 1) (v := .int v) (ω' := wX (cs_budget c v) x) kw_1_81 (by decide) rfl (by decide) rfl (fun _ => rfl) (fun _ => rfl) (Nat.le_of_ble_eq_true rfl) (wXf_budget _ _ _) dX5_budget_26 ?_
      refine xr_iload_n (pc := 29) κ 2 (x := (c_budget c)) dX5_budget_29 rfl rfl ?_
      exact xr_iret (pc := 30) κ _ hQ dX5_budget_30 ⟨_, _, _, rfl, rfl, h⟩
    · have h := h.2 c2
      refine xr_bipush (pc := 10) κ (v := -2) dX5_budget_10 (by decide) ?_
      exact xr_iret (pc := 12) κ _ hQ dX5_budget_12 ⟨_, _, _, rfl, rfl, h⟩
-- ChipVolts.worst(II)I, level 4
def wp_X5_worst (k : Int32) (bl : Int32) (c : CS) (x : XT) (K : Int32 → CS → XT → Prop) : Prop :=
    wp_X2_isKnot k c x (fun r1 c1_ x1_ =>
      (r1 = 0 →
        K (-2 : Int32) c1_ x1_) ∧
      (¬ r1 = 0 →
        wp_X1_isBlock bl c1_ x1_ (fun r3 c3_ x3_ =>
          (¬ r3 = 0 →
            wp_X5_settled c3_ x3_ (fun r5 c5_ x5_ =>
              (¬ r5 = 0 →
                wp_X1_share k c5_ x5_ (fun c7_ x7_ =>
                  vp_in bl 6 ∧
                  K (x_gets x7_ bl.toNatClampNeg) c7_ x7_)) ∧
              (r5 = 0 →
                K (-3 : Int32) c5_ x5_))) ∧
          (r3 = 0 →
            K (-2 : Int32) c3_ x3_))))
set_option maxHeartbeats 4000000 in
set_option maxRecDepth 100000 in
theorem snd_X5_worst {l : Launch} (k : Int32) (bl : Int32) (c : CS) (x : XT) (K : Int32 → CS → XT → Prop) (h : wp_X5_worst k bl c x K) : XM l xTX yX5_worst cX5_worst 3 (some .int) 4 [.ref 0, .int k, .int bl] (wX c x) (fun v ω' => ∃ (r : Int32) (c' : CS) (t' : XT), v = some (.int r) ∧ ω' = wX c' t' ∧ K r c' t') := by
    refine XM.of (by decide) (Nat.le_of_ble_eq_true rfl) (fun κ hQ => ?_)
    show Wat κ 0 [(0, .ref 0), (1, .int k), (2, .int bl)] [] (wX c x)
    unfold wp_X5_worst at h
    refine xr_aload_n (pc := 0) κ 0 (x := 0) dX5_worst_0 rfl rfl ?_
    refine xr_get (pc := 1) κ xc5 (k := 0) (f := 0) (v := .ref 1) kw_1_182 (by decide) rfl (by decide) rfl dX5_worst_1 ?_
    refine xr_iload_n (pc := 4) κ 1 (x := k) dX5_worst_4 rfl rfl ?_
    refine xr_callVN (pc := 5) κ [.int k] kw_1_220 tg_X2_isKnot (snd_X2_isKnot _ _ _ _ h) rfl (by decide) (by decide) (by decide) rfl (ci := 2) rfl rfl (Nat.le_of_ble_eq_true rfl) dX5_worst_5 (fun v9 ω9 hk9 => ?_)
    obtain ⟨r1, c1_, x1_, rfl, rfl, h⟩ := hk9
    skip
    show Wat κ 8 [(0, .ref 0), (1, .int k), (2, .int bl)] [.int r1] (wX c1_ x1_)
    refine xr_if_eq (pc := 8) κ (tgt := 22) dX5_worst_8 (by decide) (fun c2 => ?_) (fun c2 => ?_)
    · have h := h.1 c2
      refine xr_bipush (pc := 22) κ (v := -2) dX5_worst_22 (by decide) ?_
      exact xr_iret (pc := 24) κ _ hQ dX5_worst_24 ⟨_, _, _, rfl, rfl, h⟩
    · have h := h.2 c2
      refine xr_aload_n (pc := 11) κ 0 (x := 0) dX5_worst_11 rfl rfl ?_
      refine xr_get (pc := 12) κ xc5 (k := 0) (f := 1) (v := .ref 7) kw_1_183 (by decide) rfl (by decide) rfl dX5_worst_12 ?_
      refine xr_iload_n (pc := 15) κ 2 (x := bl) dX5_worst_15 rfl rfl ?_
      refine xr_callVN (pc := 16) κ [.int bl] kw_2_92 tg_X1_isBlock (snd_X1_isBlock _ _ _ _ h) rfl (by decide) (by decide) (by decide) rfl (ci := 1) rfl rfl (Nat.le_of_ble_eq_true rfl) dX5_worst_16 (fun v9 ω9 hk9 => ?_)
      obtain ⟨r3, c3_, x3_, rfl, rfl, h⟩ := hk9
      skip
      show Wat κ 19 [(0, .ref 0), (1, .int k), (2, .int bl)] [.int r3] (wX c3_ x3_)
      refine xr_if_ne (pc := 19) κ (tgt := 25) dX5_worst_19 (by decide) (fun c4 => ?_) (fun c4 => ?_)
      · have h := h.1 c4
        refine xr_aload_n (pc := 25) κ 0 (x := 0) dX5_worst_25 rfl rfl ?_
        refine xr_callV (pc := 26) κ [] kw_2_19 tg_X5_settled (snd_X5_settled  _ _ _ h) rfl (by decide) (by decide) (by decide) rfl (ci := 5) rfl rfl (Nat.le_of_ble_eq_true rfl) dX5_worst_26 (fun v9 ω9 hk9 => ?_)
        obtain ⟨r5, c5_, x5_, rfl, rfl, h⟩ := hk9
        skip
        show Wat κ 29 [(0, .ref 0), (1, .int k), (2, .int bl)] [.int r5] (wX c5_ x5_)
        refine xr_if_ne (pc := 29) κ (tgt := 35) dX5_worst_29 (by decide) (fun c6 => ?_) (fun c6 => ?_)
        · have h := h.1 c6
          refine xr_aload_n (pc := 35) κ 0 (x := 0) dX5_worst_35 rfl rfl ?_
          refine xr_get (pc := 36) κ xc5 (k := 0) (f := 1) (v := .ref 7) kw_1_183 (by decide) rfl (by decide) rfl dX5_worst_36 ?_
          refine xr_aload_n (pc := 39) κ 0 (x := 0) dX5_worst_39 rfl rfl ?_
          refine xr_get (pc := 40) κ xc5 (k := 0) (f := 2) (v := .ref (xb 0)) kw_1_184 (by decide) rfl (by decide) rfl dX5_worst_40 ?_
          refine xr_iload_n (pc := 43) κ 1 (x := k) dX5_worst_43 rfl rfl ?_
          refine xr_callVN (pc := 44) κ [.ref (xb 0), .int k] kw_2_96 tg_X1_share (snd_X1_share _ _ _ _ h) rfl (by decide) (by decide) (by decide) rfl (ci := 1) rfl rfl (Nat.le_of_ble_eq_true rfl) dX5_worst_44 (fun v9 ω9 hk9 => ?_)
          obtain ⟨c7_, x7_, rfl, rfl, h⟩ := hk9
          skip
          show Wat κ 47 [(0, .ref 0), (1, .int k), (2, .int bl)] [] (wX c7_ x7_)
          refine xr_aload_n (pc := 47) κ 0 (x := 0) dX5_worst_47 rfl rfl ?_
          refine xr_get (pc := 48) κ xc5 (k := 0) (f := 1) (v := .ref 7) kw_1_183 (by decide) rfl (by decide) rfl dX5_worst_48 ?_
          refine xr_getN (pc := 51) κ xc1 (k := 7) (f := 4) (v := .ref 10) kw_1_89 (by decide) rfl (by decide) rfl dX5_worst_51 ?_
          refine xr_iload_n (pc := 54) κ 2 (x := bl) dX5_worst_54 rfl rfl ?_
          obtain ⟨i8, h⟩ := h
          refine xr_iald (pc := 55) κ (k := 10) (n := 6) (f := x_gets x7_) (by decide) rfl rfl i8 dX5_worst_55 ?_
          exact xr_iret (pc := 56) κ _ hQ dX5_worst_56 ⟨_, _, _, rfl, rfl, h⟩
        · have h := h.2 c6
          refine xr_bipush (pc := 32) κ (v := -3) dX5_worst_32 (by decide) ?_
          exact xr_iret (pc := 34) κ _ hQ dX5_worst_34 ⟨_, _, _, rfl, rfl, h⟩
      · have h := h.2 c4
        refine xr_bipush (pc := 22) κ (v := -2) dX5_worst_22 (by decide) ?_
        exact xr_iret (pc := 24) κ _ hQ dX5_worst_24 ⟨_, _, _, rfl, rfl, h⟩
-- ChipVolts.worstFall(II)J, level 4
def wp_X5_worstFall (k : Int32) (what : Int32) (c : CS) (x : XT) (K : Int64 → CS → XT → Prop) : Prop :=
    wp_X2_isKnot k c x (fun r1 c1_ x1_ =>
      (r1 = 0 →
        K (-2 : Int64) c1_ x1_) ∧
      (¬ r1 = 0 →
        wp_X5_isPart what (fun r3 =>
          (¬ r3 = 0 →
            wp_X5_settled c1_ x1_ (fun r5 c5_ x5_ =>
              (¬ r5 = 0 →
                wp_X1_worstAbove k c5_ x5_ (fun r7 c7_ x7_ =>
                  wp_X5_part r7 (b_below (x_bal x7_ 0)) what (fun r8 =>
                    K r8 c7_ x7_))) ∧
              (r5 = 0 →
                K (-3 : Int64) c5_ x5_))) ∧
          (r3 = 0 →
            K (-2 : Int64) c1_ x1_))))
set_option maxHeartbeats 4000000 in
set_option maxRecDepth 100000 in
theorem snd_X5_worstFall {l : Launch} (k : Int32) (what : Int32) (c : CS) (x : XT) (K : Int64 → CS → XT → Prop) (h : wp_X5_worstFall k what c x K) : XM l xTX yX5_worstFall cX5_worstFall 3 (some .long) 4 [.ref 0, .int k, .int what] (wX c x) (fun v ω' => ∃ (r : Int64) (c' : CS) (t' : XT), v = some (.long r) ∧ ω' = wX c' t' ∧ K r c' t') := by
    refine XM.of (by decide) (Nat.le_of_ble_eq_true rfl) (fun κ hQ => ?_)
    show Wat κ 0 [(0, .ref 0), (1, .int k), (2, .int what)] [] (wX c x)
    unfold wp_X5_worstFall at h
    refine xr_aload_n (pc := 0) κ 0 (x := 0) dX5_worstFall_0 rfl rfl ?_
    refine xr_get (pc := 1) κ xc5 (k := 0) (f := 0) (v := .ref 1) kw_1_182 (by decide) rfl (by decide) rfl dX5_worstFall_1 ?_
    refine xr_iload_n (pc := 4) κ 1 (x := k) dX5_worstFall_4 rfl rfl ?_
    refine xr_callVN (pc := 5) κ [.int k] kw_1_220 tg_X2_isKnot (snd_X2_isKnot _ _ _ _ h) rfl (by decide) (by decide) (by decide) rfl (ci := 2) rfl rfl (Nat.le_of_ble_eq_true rfl) dX5_worstFall_5 (fun v9 ω9 hk9 => ?_)
    obtain ⟨r1, c1_, x1_, rfl, rfl, h⟩ := hk9
    skip
    show Wat κ 8 [(0, .ref 0), (1, .int k), (2, .int what)] [.int r1] (wX c1_ x1_)
    refine xr_if_eq (pc := 8) κ (tgt := 18) dX5_worstFall_8 (by decide) (fun c2 => ?_) (fun c2 => ?_)
    · have h := h.1 c2
      refine xr_ldc2 (pc := 18) κ (v := -2) kw_2_18 dX5_worstFall_18 ?_
      exact xr_lret (pc := 21) κ _ hQ dX5_worstFall_21 ⟨_, _, _, rfl, rfl, h⟩
    · have h := h.2 c2
      refine xr_iload_n (pc := 11) κ 2 (x := what) dX5_worstFall_11 rfl rfl ?_
      refine xr_callS (pc := 12) κ [.int what] kw_2_15 tg_X5_isPart (snd_X5_isPart _ _ h) rfl (by decide) (by decide) (Nat.le_of_ble_eq_true rfl) dX5_worstFall_12 (fun v9 ω9 hk9 => ?_)
      obtain ⟨r3, rfl, e9, h⟩ := hk9
      rw [e9]
      show Wat κ 15 [(0, .ref 0), (1, .int k), (2, .int what)] [.int r3] (wX c1_ x1_)
      refine xr_if_ne (pc := 15) κ (tgt := 22) dX5_worstFall_15 (by decide) (fun c4 => ?_) (fun c4 => ?_)
      · have h := h.1 c4
        refine xr_aload_n (pc := 22) κ 0 (x := 0) dX5_worstFall_22 rfl rfl ?_
        refine xr_callV (pc := 23) κ [] kw_2_19 tg_X5_settled (snd_X5_settled  _ _ _ h) rfl (by decide) (by decide) (by decide) rfl (ci := 5) rfl rfl (Nat.le_of_ble_eq_true rfl) dX5_worstFall_23 (fun v9 ω9 hk9 => ?_)
        obtain ⟨r5, c5_, x5_, rfl, rfl, h⟩ := hk9
        skip
        show Wat κ 26 [(0, .ref 0), (1, .int k), (2, .int what)] [.int r5] (wX c5_ x5_)
        refine xr_if_ne (pc := 26) κ (tgt := 33) dX5_worstFall_26 (by decide) (fun c6 => ?_) (fun c6 => ?_)
        · have h := h.1 c6
          refine xr_aload_n (pc := 33) κ 0 (x := 0) dX5_worstFall_33 rfl rfl ?_
          refine xr_get (pc := 34) κ xc5 (k := 0) (f := 1) (v := .ref 7) kw_1_183 (by decide) rfl (by decide) rfl dX5_worstFall_34 ?_
          refine xr_aload_n (pc := 37) κ 0 (x := 0) dX5_worstFall_37 rfl rfl ?_
          refine xr_get (pc := 38) κ xc5 (k := 0) (f := 2) (v := .ref (xb 0)) kw_1_184 (by decide) rfl (by decide) rfl dX5_worstFall_38 ?_
          refine xr_iload_n (pc := 41) κ 1 (x := k) dX5_worstFall_41 rfl rfl ?_
          refine xr_callVN (pc := 42) κ [.ref (xb 0), .int k] kw_2_111 tg_X1_worstAbove (snd_X1_worstAbove _ _ _ _ h) rfl (by decide) (by decide) (by decide) rfl (ci := 1) rfl rfl (Nat.le_of_ble_eq_true rfl) dX5_worstFall_42 (fun v9 ω9 hk9 => ?_)
          obtain ⟨r7, c7_, x7_, rfl, rfl, h⟩ := hk9
          skip
          show Wat κ 45 [(0, .ref 0), (1, .int k), (2, .int what)] [.long r7] (wX c7_ x7_)
          refine xr_aload_n (pc := 45) κ 0 (x := 0) dX5_worstFall_45 rfl rfl ?_
          refine xr_get (pc := 46) κ xc5 (k := 0) (f := 2) (v := .ref (xb 0)) kw_1_184 (by decide) rfl (by decide) rfl dX5_worstFall_46 ?_
          refine xr_getN (pc := 49) κ xc0 (k := (xb 0)) (f := 1) (v := .long (b_below (x_bal x7_ 0))) kw_1_112 (xb_lt (j := 0) (by decide) (by decide)) (wXb_obj _ _ (by decide)) (by decide) rfl dX5_worstFall_49 ?_
          refine xr_iload_n (pc := 52) κ 2 (x := what) dX5_worstFall_52 rfl rfl ?_
          refine xr_callS (pc := 53) κ [.long r7, .long (b_below (x_bal x7_ 0)), .int what] kw_2_49 tg_X5_part (snd_X5_part _ _ _ _ h) rfl (by decide) (by decide) (Nat.le_of_ble_eq_true rfl) dX5_worstFall_53 (fun v9 ω9 hk9 => ?_)
          obtain ⟨r8, rfl, e9, h⟩ := hk9
          rw [e9]
          show Wat κ 56 [(0, .ref 0), (1, .int k), (2, .int what)] [.long r8] (wX c7_ x7_)
          exact xr_lret (pc := 56) κ _ hQ dX5_worstFall_56 ⟨_, _, _, rfl, rfl, h⟩
        · have h := h.2 c6
          refine xr_ldc2 (pc := 29) κ (v := -3) kw_2_48 dX5_worstFall_29 ?_
          exact xr_lret (pc := 32) κ _ hQ dX5_worstFall_32 ⟨_, _, _, rfl, rfl, h⟩
      · have h := h.2 c4
        refine xr_ldc2 (pc := 18) κ (v := -2) kw_2_18 dX5_worstFall_18 ?_
        exact xr_lret (pc := 21) κ _ hQ dX5_worstFall_21 ⟨_, _, _, rfl, rfl, h⟩
-- ChipVolts.worstKnot()I, level 4
def nd_X5_worstKnot_68 (K : Int32 → CS → XT → Prop) (L28 : Int32 → Int64 → Int32 → CS → XT → Prop) (v1 : Int32) (v2 : Int64) (v4 : Int32) (c : CS) (x : XT) : Prop :=
    L28 v1 v2 (v4 + 1) c x
set_option maxHeartbeats 4000000 in
set_option maxRecDepth 100000 in
theorem snd_X5_worstKnot_68 {l : Launch} (κ : XC l xTX cX5_worstKnot yX5_worstKnot.cls 7 (some .int) 4) (K : Int32 → CS → XT → Prop) (hQ : xRet κ (fun v ω' => ∃ (r : Int32) (c' : CS) (t' : XT), v = some (.int r) ∧ ω' = wX c' t' ∧ K r c' t')) (L28 : Int32 → Int64 → Int32 → CS → XT → Prop) (hL28 : ∀ (v1 : Int32) (v2 : Int64) (v4 : Int32) (c : CS) (x : XT), L28 v1 v2 v4 c x → Wat κ 28 [(0, .ref 0), (1, .int v1), (2, .long v2), (4, .int v4)] [] (wX c x)) (v1 : Int32) (v2 : Int64) (v4 : Int32) (c : CS) (x : XT) (h : nd_X5_worstKnot_68 K L28 v1 v2 v4 c x) : Wat κ 68 [(0, .ref 0), (1, .int v1), (2, .long v2), (4, .int v4)] [] (wX c x) := by
    unfold nd_X5_worstKnot_68 at h
    refine xr_iinc (pc := 68) κ 3 [1, 2, 3, 0] (lv' := [(0, .ref 0), (1, .int v1), (2, .long v2), (4, .int (v4 + 1))]) (x := v4) (v := v4 + 1) dX5_worstKnot_68 rfl rfl (by decide) rfl ?_
    refine xr_goto (pc := 71) κ (tgt := 28) dX5_worstKnot_71 (by decide) ?_
    exact hL28 _ _ _ _ _ h
def nd_X5_worstKnot_28 (K : Int32 → CS → XT → Prop) : Nat → Int32 → Int64 → Int32 → CS → XT → Prop
  | 0 => fun _ _ _ _ _ => False
  | n + 1 => fun v1 v2 v4 c x =>
    ((c_n c) ≤ v4 →
      K v1 c x) ∧
    (¬ (c_n c) ≤ v4 →
      wp_X1_worstAbove v4 c x (fun r5 c5_ x5_ =>
        (r5 ≤ v2 →
          nd_X5_worstKnot_68 K (fun v1 v2 v4 c x => nd_X5_worstKnot_28 K n v1 v2 v4 c x) v1 v2 v4 c5_ x5_) ∧
        (¬ r5 ≤ v2 →
          nd_X5_worstKnot_68 K (fun v1 v2 v4 c x => nd_X5_worstKnot_28 K n v1 v2 v4 c x) v4 r5 v4 c5_ x5_)))
set_option maxHeartbeats 4000000 in
set_option maxRecDepth 100000 in
theorem snd_X5_worstKnot_28 {l : Launch} (κ : XC l xTX cX5_worstKnot yX5_worstKnot.cls 7 (some .int) 4) (K : Int32 → CS → XT → Prop) (hQ : xRet κ (fun v ω' => ∃ (r : Int32) (c' : CS) (t' : XT), v = some (.int r) ∧ ω' = wX c' t' ∧ K r c' t')) : ∀ (n : Nat) (v1 : Int32) (v2 : Int64) (v4 : Int32) (c : CS) (x : XT), nd_X5_worstKnot_28 K n v1 v2 v4 c x → Wat κ 28 [(0, .ref 0), (1, .int v1), (2, .long v2), (4, .int v4)] [] (wX c x) := by
  intro n
  induction n with
  | zero => intro v1 v2 v4 c x h; exact h.elim
  | succ n ih =>
    intro v1 v2 v4 c x h
    unfold nd_X5_worstKnot_28 at h
    refine xr_iload (pc := 28) κ 3 (x := v4) dX5_worstKnot_28 rfl ?_
    refine xr_aload_n (pc := 30) κ 0 (x := 0) dX5_worstKnot_30 rfl rfl ?_
    refine xr_get (pc := 31) κ xc5 (k := 0) (f := 0) (v := .ref 1) kw_1_182 (by decide) rfl (by decide) rfl dX5_worstKnot_31 ?_
    refine xr_getN (pc := 34) κ xc2 (k := 1) (f := 0) (v := .int (c_n c)) kw_1_27 (by decide) rfl (by decide) rfl dX5_worstKnot_34 ?_
    refine xr_icmp_ge (pc := 37) κ (tgt := 74) dX5_worstKnot_37 (by decide) (fun c4 => ?_) (fun c4 => ?_)
    · have h := h.1 c4
      refine xr_iload_n (pc := 74) κ 1 (x := v1) dX5_worstKnot_74 rfl rfl ?_
      exact xr_iret (pc := 75) κ _ hQ dX5_worstKnot_75 ⟨_, _, _, rfl, rfl, h⟩
    · have h := h.2 c4
      refine xr_aload_n (pc := 40) κ 0 (x := 0) dX5_worstKnot_40 rfl rfl ?_
      refine xr_get (pc := 41) κ xc5 (k := 0) (f := 1) (v := .ref 7) kw_1_183 (by decide) rfl (by decide) rfl dX5_worstKnot_41 ?_
      refine xr_aload_n (pc := 44) κ 0 (x := 0) dX5_worstKnot_44 rfl rfl ?_
      refine xr_get (pc := 45) κ xc5 (k := 0) (f := 2) (v := .ref (xb 0)) kw_1_184 (by decide) rfl (by decide) rfl dX5_worstKnot_45 ?_
      refine xr_iload (pc := 48) κ 3 (x := v4) dX5_worstKnot_48 rfl ?_
      refine xr_callVN (pc := 50) κ [.ref (xb 0), .int v4] kw_2_111 tg_X1_worstAbove (snd_X1_worstAbove _ _ _ _ h) rfl (by decide) (by decide) (by decide) rfl (ci := 1) rfl rfl (Nat.le_of_ble_eq_true rfl) dX5_worstKnot_50 (fun v9 ω9 hk9 => ?_)
      obtain ⟨r5, c5_, x5_, rfl, rfl, h⟩ := hk9
      skip
      show Wat κ 53 [(0, .ref 0), (1, .int v1), (2, .long v2), (4, .int v4)] [.long r5] (wX c5_ x5_)
      refine xr_lstore (pc := 53) κ [1, 2, 3, 4, 0] (lv' := [(0, .ref 0), (1, .int v1), (2, .long v2), (4, .int v4), (5, .long r5)]) dX5_worstKnot_53 (by decide) rfl ?_
      refine xr_lload (pc := 55) κ 4 (x := r5) dX5_worstKnot_55 rfl ?_
      refine xr_lload_n (pc := 57) κ 2 (x := v2) dX5_worstKnot_57 rfl rfl ?_
      refine xr_lcmp_le (pc := 58) κ (tgt := 68) dX5_worstKnot_58 dX5_worstKnot_59 (by decide) (fun c6 => ?_) (fun c6 => ?_)
      · have h := h.1 c6
        refine xr_sub (pc := 68) κ [0, 1, 2, 3] (lv' := [(0, .ref 0), (1, .int v1), (2, .long v2), (4, .int v4)]) rfl ?_
        exact snd_X5_worstKnot_68 κ K hQ _ ih _ _ _ _ _ h
      · have h := h.2 c6
        refine xr_iload (pc := 62) κ 3 (x := v4) dX5_worstKnot_62 rfl ?_
        refine xr_istore_n (pc := 64) κ [1, 0, 2, 3, 4] (lv' := [(0, .ref 0), (1, .int v4), (2, .long v2), (4, .int v4), (5, .long r5)]) dX5_worstKnot_64 rfl (by decide) rfl ?_
        refine xr_lload (pc := 65) κ 4 (x := r5) dX5_worstKnot_65 rfl ?_
        refine xr_lstore_n (pc := 67) κ [1, 2, 0, 3, 4] (lv' := [(0, .ref 0), (1, .int v4), (2, .long r5), (4, .int v4), (5, .long r5)]) dX5_worstKnot_67 rfl (by decide) rfl ?_
        refine xr_sub (pc := 68) κ [0, 1, 2, 3] (lv' := [(0, .ref 0), (1, .int v4), (2, .long r5), (4, .int v4)]) rfl ?_
        exact snd_X5_worstKnot_68 κ K hQ _ ih _ _ _ _ _ h
def wp_X5_worstKnot (c : CS) (x : XT) (K : Int32 → CS → XT → Prop) : Prop :=
    wp_X5_settled c x (fun r1 c1_ x1_ =>
      (¬ r1 = 0 →
        wp_X1_worstAbove (0 : Int32) c1_ x1_ (fun r3 c3_ x3_ =>
          ∃ n28 : Nat, nd_X5_worstKnot_28 K n28 (0 : Int32) r3 (1 : Int32) c3_ x3_)) ∧
      (r1 = 0 →
        K (-3 : Int32) c1_ x1_))
set_option maxHeartbeats 4000000 in
set_option maxRecDepth 100000 in
theorem snd_X5_worstKnot {l : Launch} (c : CS) (x : XT) (K : Int32 → CS → XT → Prop) (h : wp_X5_worstKnot  c x K) : XM l xTX yX5_worstKnot cX5_worstKnot 7 (some .int) 4 [.ref 0] (wX c x) (fun v ω' => ∃ (r : Int32) (c' : CS) (t' : XT), v = some (.int r) ∧ ω' = wX c' t' ∧ K r c' t') := by
    refine XM.of (by decide) (Nat.le_of_ble_eq_true rfl) (fun κ hQ => ?_)
    show Wat κ 0 [(0, .ref 0)] [] (wX c x)
    unfold wp_X5_worstKnot at h
    refine xr_aload_n (pc := 0) κ 0 (x := 0) dX5_worstKnot_0 rfl rfl ?_
    refine xr_callV (pc := 1) κ [] kw_2_19 tg_X5_settled (snd_X5_settled  _ _ _ h) rfl (by decide) (by decide) (by decide) rfl (ci := 5) rfl rfl (Nat.le_of_ble_eq_true rfl) dX5_worstKnot_1 (fun v9 ω9 hk9 => ?_)
    obtain ⟨r1, c1_, x1_, rfl, rfl, h⟩ := hk9
    skip
    show Wat κ 4 [(0, .ref 0)] [.int r1] (wX c1_ x1_)
    refine xr_if_ne (pc := 4) κ (tgt := 10) dX5_worstKnot_4 (by decide) (fun c2 => ?_) (fun c2 => ?_)
    · have h := h.1 c2
      refine xr_iconst (pc := 10) κ (v := 0) dX5_worstKnot_10 (by decide) ?_
      refine xr_istore_n (pc := 11) κ [1, 0] (lv' := [(0, .ref 0), (1, .int (0 : Int32))]) dX5_worstKnot_11 rfl (by decide) rfl ?_
      refine xr_aload_n (pc := 12) κ 0 (x := 0) dX5_worstKnot_12 rfl rfl ?_
      refine xr_get (pc := 13) κ xc5 (k := 0) (f := 1) (v := .ref 7) kw_1_183 (by decide) rfl (by decide) rfl dX5_worstKnot_13 ?_
      refine xr_aload_n (pc := 16) κ 0 (x := 0) dX5_worstKnot_16 rfl rfl ?_
      refine xr_get (pc := 17) κ xc5 (k := 0) (f := 2) (v := .ref (xb 0)) kw_1_184 (by decide) rfl (by decide) rfl dX5_worstKnot_17 ?_
      refine xr_iconst (pc := 20) κ (v := 0) dX5_worstKnot_20 (by decide) ?_
      refine xr_callVN (pc := 21) κ [.ref (xb 0), .int (0 : Int32)] kw_2_111 tg_X1_worstAbove (snd_X1_worstAbove _ _ _ _ h) rfl (by decide) (by decide) (by decide) rfl (ci := 1) rfl rfl (Nat.le_of_ble_eq_true rfl) dX5_worstKnot_21 (fun v9 ω9 hk9 => ?_)
      obtain ⟨r3, c3_, x3_, rfl, rfl, h⟩ := hk9
      skip
      show Wat κ 24 [(0, .ref 0), (1, .int (0 : Int32))] [.long r3] (wX c3_ x3_)
      refine xr_lstore_n (pc := 24) κ [1, 2, 0] (lv' := [(0, .ref 0), (1, .int (0 : Int32)), (2, .long r3)]) dX5_worstKnot_24 rfl (by decide) rfl ?_
      refine xr_iconst (pc := 25) κ (v := 1) dX5_worstKnot_25 (by decide) ?_
      refine xr_istore (pc := 26) κ [1, 2, 3, 0] (lv' := [(0, .ref 0), (1, .int (0 : Int32)), (2, .long r3), (4, .int (1 : Int32))]) dX5_worstKnot_26 (by decide) rfl ?_
      obtain ⟨n0, h⟩ := h
      exact snd_X5_worstKnot_28 κ K hQ n0 _ _ _ _ _ h
    · have h := h.2 c2
      refine xr_bipush (pc := 7) κ (v := -3) dX5_worstKnot_7 (by decide) ?_
      exact xr_iret (pc := 9) κ _ hQ dX5_worstKnot_9 ⟨_, _, _, rfl, rfl, h⟩
-- ChipVolts.open(II)J, level 4
def wp_X5_open (w : Int32) (what : Int32) (c : CS) (x : XT) (K : Int64 → CS → XT → Prop) : Prop :=
    wp_X2_isWire w c x (fun r1 c1_ x1_ =>
      (r1 = 0 →
        K (-2 : Int64) c1_ x1_) ∧
      (¬ r1 = 0 →
        wp_X5_isPart what (fun r3 =>
          (¬ r3 = 0 →
            wp_X5_settled c1_ x1_ (fun r5 c5_ x5_ =>
              (r5 = 0 →
                K (-3 : Int64) c5_ x5_) ∧
              (¬ r5 = 0 →
                wp_X5_opened w c5_ x5_ (fun r7 c7_ x7_ =>
                  (¬ r7 = 0 →
                    wp_X0_highestAbove 1 c7_ x7_ (fun r9 c9_ x9_ =>
                      wp_X5_part r9 (b_below (x_bal x9_ 1)) what (fun r10 =>
                        K r10 c9_ x9_))) ∧
                  (r7 = 0 →
                    K (-3 : Int64) c7_ x7_))))) ∧
          (r3 = 0 →
            K (-2 : Int64) c1_ x1_))))
set_option maxHeartbeats 4000000 in
set_option maxRecDepth 100000 in
theorem snd_X5_open {l : Launch} (w : Int32) (what : Int32) (c : CS) (x : XT) (K : Int64 → CS → XT → Prop) (h : wp_X5_open w what c x K) : XM l xTX yX5_open cX5_open 3 (some .long) 4 [.ref 0, .int w, .int what] (wX c x) (fun v ω' => ∃ (r : Int64) (c' : CS) (t' : XT), v = some (.long r) ∧ ω' = wX c' t' ∧ K r c' t') := by
    refine XM.of (by decide) (Nat.le_of_ble_eq_true rfl) (fun κ hQ => ?_)
    show Wat κ 0 [(0, .ref 0), (1, .int w), (2, .int what)] [] (wX c x)
    unfold wp_X5_open at h
    refine xr_aload_n (pc := 0) κ 0 (x := 0) dX5_open_0 rfl rfl ?_
    refine xr_get (pc := 1) κ xc5 (k := 0) (f := 0) (v := .ref 1) kw_1_182 (by decide) rfl (by decide) rfl dX5_open_1 ?_
    refine xr_iload_n (pc := 4) κ 1 (x := w) dX5_open_4 rfl rfl ?_
    refine xr_callVN (pc := 5) κ [.int w] kw_1_232 tg_X2_isWire (snd_X2_isWire _ _ _ _ h) rfl (by decide) (by decide) (by decide) rfl (ci := 2) rfl rfl (Nat.le_of_ble_eq_true rfl) dX5_open_5 (fun v9 ω9 hk9 => ?_)
    obtain ⟨r1, c1_, x1_, rfl, rfl, h⟩ := hk9
    skip
    show Wat κ 8 [(0, .ref 0), (1, .int w), (2, .int what)] [.int r1] (wX c1_ x1_)
    refine xr_if_eq (pc := 8) κ (tgt := 18) dX5_open_8 (by decide) (fun c2 => ?_) (fun c2 => ?_)
    · have h := h.1 c2
      refine xr_ldc2 (pc := 18) κ (v := -2) kw_2_18 dX5_open_18 ?_
      exact xr_lret (pc := 21) κ _ hQ dX5_open_21 ⟨_, _, _, rfl, rfl, h⟩
    · have h := h.2 c2
      refine xr_iload_n (pc := 11) κ 2 (x := what) dX5_open_11 rfl rfl ?_
      refine xr_callS (pc := 12) κ [.int what] kw_2_15 tg_X5_isPart (snd_X5_isPart _ _ h) rfl (by decide) (by decide) (Nat.le_of_ble_eq_true rfl) dX5_open_12 (fun v9 ω9 hk9 => ?_)
      obtain ⟨r3, rfl, e9, h⟩ := hk9
      rw [e9]
      show Wat κ 15 [(0, .ref 0), (1, .int w), (2, .int what)] [.int r3] (wX c1_ x1_)
      refine xr_if_ne (pc := 15) κ (tgt := 22) dX5_open_15 (by decide) (fun c4 => ?_) (fun c4 => ?_)
      · have h := h.1 c4
        refine xr_aload_n (pc := 22) κ 0 (x := 0) dX5_open_22 rfl rfl ?_
        refine xr_callV (pc := 23) κ [] kw_2_19 tg_X5_settled (snd_X5_settled  _ _ _ h) rfl (by decide) (by decide) (by decide) rfl (ci := 5) rfl rfl (Nat.le_of_ble_eq_true rfl) dX5_open_23 (fun v9 ω9 hk9 => ?_)
        obtain ⟨r5, c5_, x5_, rfl, rfl, h⟩ := hk9
        skip
        show Wat κ 26 [(0, .ref 0), (1, .int w), (2, .int what)] [.int r5] (wX c5_ x5_)
        refine xr_if_eq (pc := 26) κ (tgt := 37) dX5_open_26 (by decide) (fun c6 => ?_) (fun c6 => ?_)
        · have h := h.1 c6
          refine xr_ldc2 (pc := 37) κ (v := -3) kw_2_48 dX5_open_37 ?_
          exact xr_lret (pc := 40) κ _ hQ dX5_open_40 ⟨_, _, _, rfl, rfl, h⟩
        · have h := h.2 c6
          refine xr_aload_n (pc := 29) κ 0 (x := 0) dX5_open_29 rfl rfl ?_
          refine xr_iload_n (pc := 30) κ 1 (x := w) dX5_open_30 rfl rfl ?_
          refine xr_callV (pc := 31) κ [.int w] kw_2_124 tg_X5_opened (snd_X5_opened _ _ _ _ h) rfl (by decide) (by decide) (by decide) rfl (ci := 5) rfl rfl (Nat.le_of_ble_eq_true rfl) dX5_open_31 (fun v9 ω9 hk9 => ?_)
          obtain ⟨r7, c7_, x7_, rfl, rfl, h⟩ := hk9
          skip
          show Wat κ 34 [(0, .ref 0), (1, .int w), (2, .int what)] [.int r7] (wX c7_ x7_)
          refine xr_if_ne (pc := 34) κ (tgt := 41) dX5_open_34 (by decide) (fun c8 => ?_) (fun c8 => ?_)
          · have h := h.1 c8
            refine xr_aload_n (pc := 41) κ 0 (x := 0) dX5_open_41 rfl rfl ?_
            refine xr_get (pc := 42) κ xc5 (k := 0) (f := 3) (v := .ref (xb 1)) kw_1_185 (by decide) rfl (by decide) rfl dX5_open_42 ?_
            refine xr_callVN (pc := 45) κ [] kw_2_132 tg_X0_highestAbove (snd_X0_highestAbove 1 (by decide)  _ _ _ h) rfl (by decide) (by decide) (xb_lt (j := 0) (by decide) (by decide)) (wXb_obj _ _ (by decide)) (ci := 0) rfl rfl (Nat.le_of_ble_eq_true rfl) dX5_open_45 (fun v9 ω9 hk9 => ?_)
            obtain ⟨r9, c9_, x9_, rfl, rfl, h⟩ := hk9
            skip
            show Wat κ 48 [(0, .ref 0), (1, .int w), (2, .int what)] [.long r9] (wX c9_ x9_)
            refine xr_aload_n (pc := 48) κ 0 (x := 0) dX5_open_48 rfl rfl ?_
            refine xr_get (pc := 49) κ xc5 (k := 0) (f := 3) (v := .ref (xb 1)) kw_1_185 (by decide) rfl (by decide) rfl dX5_open_49 ?_
            refine xr_getN (pc := 52) κ xc0 (k := (xb 1)) (f := 1) (v := .long (b_below (x_bal x9_ 1))) kw_1_112 (xb_lt (j := 0) (by decide) (by decide)) (wXb_obj _ _ (by decide)) (by decide) rfl dX5_open_52 ?_
            refine xr_iload_n (pc := 55) κ 2 (x := what) dX5_open_55 rfl rfl ?_
            refine xr_callS (pc := 56) κ [.long r9, .long (b_below (x_bal x9_ 1)), .int what] kw_2_49 tg_X5_part (snd_X5_part _ _ _ _ h) rfl (by decide) (by decide) (Nat.le_of_ble_eq_true rfl) dX5_open_56 (fun v9 ω9 hk9 => ?_)
            obtain ⟨r10, rfl, e9, h⟩ := hk9
            rw [e9]
            show Wat κ 59 [(0, .ref 0), (1, .int w), (2, .int what)] [.long r10] (wX c9_ x9_)
            exact xr_lret (pc := 59) κ _ hQ dX5_open_59 ⟨_, _, _, rfl, rfl, h⟩
          · have h := h.2 c8
            refine xr_ldc2 (pc := 37) κ (v := -3) kw_2_48 dX5_open_37 ?_
            exact xr_lret (pc := 40) κ _ hQ dX5_open_40 ⟨_, _, _, rfl, rfl, h⟩
      · have h := h.2 c4
        refine xr_ldc2 (pc := 18) κ (v := -2) kw_2_18 dX5_open_18 ?_
        exact xr_lret (pc := 21) κ _ hQ dX5_open_21 ⟨_, _, _, rfl, rfl, h⟩
-- ChipVolts.weakest()I, level 4
def nd_X5_weakest_102 (K : Int32 → CS → XT → Prop) (L31 : Int32 → Int64 → Int64 → Int32 → CS → XT → Prop) (v1 : Int32) (v2 : Int64) (v4 : Int64) (v6 : Int32) (c : CS) (x : XT) : Prop :=
    L31 v1 v2 v4 (v6 + 1) c x
set_option maxHeartbeats 4000000 in
set_option maxRecDepth 100000 in
theorem snd_X5_weakest_102 {l : Launch} (κ : XC l xTX cX5_weakest yX5_weakest.cls 9 (some .int) 4) (K : Int32 → CS → XT → Prop) (hQ : xRet κ (fun v ω' => ∃ (r : Int32) (c' : CS) (t' : XT), v = some (.int r) ∧ ω' = wX c' t' ∧ K r c' t')) (L31 : Int32 → Int64 → Int64 → Int32 → CS → XT → Prop) (hL31 : ∀ (v1 : Int32) (v2 : Int64) (v4 : Int64) (v6 : Int32) (c : CS) (x : XT), L31 v1 v2 v4 v6 c x → Wat κ 31 [(0, .ref 0), (1, .int v1), (2, .long v2), (4, .long v4), (6, .int v6)] [] (wX c x)) (v1 : Int32) (v2 : Int64) (v4 : Int64) (v6 : Int32) (c : CS) (x : XT) (h : nd_X5_weakest_102 K L31 v1 v2 v4 v6 c x) : Wat κ 102 [(0, .ref 0), (1, .int v1), (2, .long v2), (4, .long v4), (6, .int v6)] [] (wX c x) := by
    unfold nd_X5_weakest_102 at h
    refine xr_iinc (pc := 102) κ 4 [1, 2, 3, 4, 0] (lv' := [(0, .ref 0), (1, .int v1), (2, .long v2), (4, .long v4), (6, .int (v6 + 1))]) (x := v6) (v := v6 + 1) dX5_weakest_102 rfl rfl (by decide) rfl ?_
    refine xr_goto (pc := 105) κ (tgt := 31) dX5_weakest_105 (by decide) ?_
    exact hL31 _ _ _ _ _ _ h
def nd_X5_weakest_87 (K : Int32 → CS → XT → Prop) (L31 : Int32 → Int64 → Int64 → Int32 → CS → XT → Prop) (v6 : Int32) (v7 : Int64) (c : CS) (x : XT) : Prop :=
    nd_X5_weakest_102 K L31 v6 v7 (b_below (x_bal x 1)) v6 c x
set_option maxHeartbeats 4000000 in
set_option maxRecDepth 100000 in
theorem snd_X5_weakest_87 {l : Launch} (κ : XC l xTX cX5_weakest yX5_weakest.cls 9 (some .int) 4) (K : Int32 → CS → XT → Prop) (hQ : xRet κ (fun v ω' => ∃ (r : Int32) (c' : CS) (t' : XT), v = some (.int r) ∧ ω' = wX c' t' ∧ K r c' t')) (L31 : Int32 → Int64 → Int64 → Int32 → CS → XT → Prop) (hL31 : ∀ (v1 : Int32) (v2 : Int64) (v4 : Int64) (v6 : Int32) (c : CS) (x : XT), L31 v1 v2 v4 v6 c x → Wat κ 31 [(0, .ref 0), (1, .int v1), (2, .long v2), (4, .long v4), (6, .int v6)] [] (wX c x)) (v6 : Int32) (v7 : Int64) (c : CS) (x : XT) (h : nd_X5_weakest_87 K L31 v6 v7 c x) : Wat κ 87 [(0, .ref 0), (6, .int v6), (7, .long v7)] [] (wX c x) := by
    unfold nd_X5_weakest_87 at h
    refine xr_iload (pc := 87) κ 1 (x := v6) dX5_weakest_87 rfl ?_
    refine xr_istore_n (pc := 89) κ [1, 0, 2, 3] (lv' := [(0, .ref 0), (1, .int v6), (6, .int v6), (7, .long v7)]) dX5_weakest_89 rfl (by decide) rfl ?_
    refine xr_lload (pc := 90) κ 3 (x := v7) dX5_weakest_90 rfl ?_
    refine xr_lstore_n (pc := 92) κ [1, 2, 0, 3, 4] (lv' := [(0, .ref 0), (1, .int v6), (2, .long v7), (6, .int v6), (7, .long v7)]) dX5_weakest_92 rfl (by decide) rfl ?_
    refine xr_aload_n (pc := 93) κ 0 (x := 0) dX5_weakest_93 rfl rfl ?_
    refine xr_get (pc := 94) κ xc5 (k := 0) (f := 3) (v := .ref (xb 1)) kw_1_185 (by decide) rfl (by decide) rfl dX5_weakest_94 ?_
    refine xr_getN (pc := 97) κ xc0 (k := (xb 1)) (f := 1) (v := .long (b_below (x_bal x 1))) kw_1_112 (xb_lt (j := 0) (by decide) (by decide)) (wXb_obj _ _ (by decide)) (by decide) rfl dX5_weakest_97 ?_
    refine xr_lstore (pc := 100) κ [1, 2, 3, 0, 4, 5] (lv' := [(0, .ref 0), (1, .int v6), (2, .long v7), (4, .long (b_below (x_bal x 1))), (6, .int v6), (7, .long v7)]) dX5_weakest_100 (by decide) rfl ?_
    refine xr_sub (pc := 102) κ [0, 1, 2, 3, 4] (lv' := [(0, .ref 0), (1, .int v6), (2, .long v7), (4, .long (b_below (x_bal x 1))), (6, .int v6)]) rfl ?_
    exact snd_X5_weakest_102 κ K hQ _ hL31 _ _ _ _ _ _ h
def nd_X5_weakest_31 (K : Int32 → CS → XT → Prop) : Nat → Int32 → Int64 → Int64 → Int32 → CS → XT → Prop
  | 0 => fun _ _ _ _ _ _ => False
  | n + 1 => fun v1 v2 v4 v6 c x =>
    ((c_wires c) ≤ v6 →
      K v1 c x) ∧
    (¬ (c_wires c) ≤ v6 →
      wp_X5_opened v6 c x (fun r5 c5_ x5_ =>
        (¬ r5 = 0 →
          wp_X0_highestAbove 1 c5_ x5_ (fun r7 c7_ x7_ =>
            (v1 = (-1 : Int32) →
              nd_X5_weakest_87 K (fun v1 v2 v4 v6 c x => nd_X5_weakest_31 K n v1 v2 v4 v6 c x) v6 r7 c7_ x7_) ∧
            (¬ v1 = (-1 : Int32) →
              wp_X5_isLess v2 v4 r7 (b_below (x_bal x7_ 1)) (fun r9 =>
                (r9 = 0 →
                  nd_X5_weakest_102 K (fun v1 v2 v4 v6 c x => nd_X5_weakest_31 K n v1 v2 v4 v6 c x) v1 v2 v4 v6 c7_ x7_) ∧
                (¬ r9 = 0 →
                  nd_X5_weakest_87 K (fun v1 v2 v4 v6 c x => nd_X5_weakest_31 K n v1 v2 v4 v6 c x) v6 r7 c7_ x7_))))) ∧
        (r5 = 0 →
          K v6 c5_ x5_)))
set_option maxHeartbeats 4000000 in
set_option maxRecDepth 100000 in
theorem snd_X5_weakest_31 {l : Launch} (κ : XC l xTX cX5_weakest yX5_weakest.cls 9 (some .int) 4) (K : Int32 → CS → XT → Prop) (hQ : xRet κ (fun v ω' => ∃ (r : Int32) (c' : CS) (t' : XT), v = some (.int r) ∧ ω' = wX c' t' ∧ K r c' t')) : ∀ (n : Nat) (v1 : Int32) (v2 : Int64) (v4 : Int64) (v6 : Int32) (c : CS) (x : XT), nd_X5_weakest_31 K n v1 v2 v4 v6 c x → Wat κ 31 [(0, .ref 0), (1, .int v1), (2, .long v2), (4, .long v4), (6, .int v6)] [] (wX c x) := by
  intro n
  induction n with
  | zero => intro v1 v2 v4 v6 c x h; exact h.elim
  | succ n ih =>
    intro v1 v2 v4 v6 c x h
    unfold nd_X5_weakest_31 at h
    refine xr_iload (pc := 31) κ 4 (x := v6) dX5_weakest_31 rfl ?_
    refine xr_aload_n (pc := 33) κ 0 (x := 0) dX5_weakest_33 rfl rfl ?_
    refine xr_get (pc := 34) κ xc5 (k := 0) (f := 0) (v := .ref 1) kw_1_182 (by decide) rfl (by decide) rfl dX5_weakest_34 ?_
    refine xr_getN (pc := 37) κ xc2 (k := 1) (f := 1) (v := .int (c_wires c)) kw_1_30 (by decide) rfl (by decide) rfl dX5_weakest_37 ?_
    refine xr_icmp_ge (pc := 40) κ (tgt := 108) dX5_weakest_40 (by decide) (fun c4 => ?_) (fun c4 => ?_)
    · have h := h.1 c4
      refine xr_iload_n (pc := 108) κ 1 (x := v1) dX5_weakest_108 rfl rfl ?_
      exact xr_iret (pc := 109) κ _ hQ dX5_weakest_109 ⟨_, _, _, rfl, rfl, h⟩
    · have h := h.2 c4
      refine xr_aload_n (pc := 43) κ 0 (x := 0) dX5_weakest_43 rfl rfl ?_
      refine xr_iload (pc := 44) κ 4 (x := v6) dX5_weakest_44 rfl ?_
      refine xr_callV (pc := 46) κ [.int v6] kw_2_124 tg_X5_opened (snd_X5_opened _ _ _ _ h) rfl (by decide) (by decide) (by decide) rfl (ci := 5) rfl rfl (Nat.le_of_ble_eq_true rfl) dX5_weakest_46 (fun v9 ω9 hk9 => ?_)
      obtain ⟨r5, c5_, x5_, rfl, rfl, h⟩ := hk9
      skip
      show Wat κ 49 [(0, .ref 0), (1, .int v1), (2, .long v2), (4, .long v4), (6, .int v6)] [.int r5] (wX c5_ x5_)
      refine xr_if_ne (pc := 49) κ (tgt := 55) dX5_weakest_49 (by decide) (fun c6 => ?_) (fun c6 => ?_)
      · have h := h.1 c6
        refine xr_aload_n (pc := 55) κ 0 (x := 0) dX5_weakest_55 rfl rfl ?_
        refine xr_get (pc := 56) κ xc5 (k := 0) (f := 3) (v := .ref (xb 1)) kw_1_185 (by decide) rfl (by decide) rfl dX5_weakest_56 ?_
        refine xr_callVN (pc := 59) κ [] kw_2_132 tg_X0_highestAbove (snd_X0_highestAbove 1 (by decide)  _ _ _ h) rfl (by decide) (by decide) (xb_lt (j := 0) (by decide) (by decide)) (wXb_obj _ _ (by decide)) (ci := 0) rfl rfl (Nat.le_of_ble_eq_true rfl) dX5_weakest_59 (fun v9 ω9 hk9 => ?_)
        obtain ⟨r7, c7_, x7_, rfl, rfl, h⟩ := hk9
        skip
        show Wat κ 62 [(0, .ref 0), (1, .int v1), (2, .long v2), (4, .long v4), (6, .int v6)] [.long r7] (wX c7_ x7_)
        refine xr_lstore (pc := 62) κ [1, 2, 3, 4, 5, 0] (lv' := [(0, .ref 0), (1, .int v1), (2, .long v2), (4, .long v4), (6, .int v6), (7, .long r7)]) dX5_weakest_62 (by decide) rfl ?_
        refine xr_iload_n (pc := 64) κ 1 (x := v1) dX5_weakest_64 rfl rfl ?_
        refine xr_iconst (pc := 65) κ (v := -1) dX5_weakest_65 (by decide) ?_
        refine xr_icmp_eq (pc := 66) κ (tgt := 87) dX5_weakest_66 (by decide) (fun c8 => ?_) (fun c8 => ?_)
        · have h := h.1 c8
          refine xr_sub (pc := 87) κ [0, 4, 5] (lv' := [(0, .ref 0), (6, .int v6), (7, .long r7)]) rfl ?_
          exact snd_X5_weakest_87 κ K hQ _ ih _ _ _ _ h
        · have h := h.2 c8
          refine xr_lload_n (pc := 69) κ 2 (x := v2) dX5_weakest_69 rfl rfl ?_
          refine xr_lload (pc := 70) κ 3 (x := v4) dX5_weakest_70 rfl ?_
          refine xr_lload (pc := 72) κ 5 (x := r7) dX5_weakest_72 rfl ?_
          refine xr_aload_n (pc := 74) κ 0 (x := 0) dX5_weakest_74 rfl rfl ?_
          refine xr_get (pc := 75) κ xc5 (k := 0) (f := 3) (v := .ref (xb 1)) kw_1_185 (by decide) rfl (by decide) rfl dX5_weakest_75 ?_
          refine xr_getN (pc := 78) κ xc0 (k := (xb 1)) (f := 1) (v := .long (b_below (x_bal x7_ 1))) kw_1_112 (xb_lt (j := 0) (by decide) (by decide)) (wXb_obj _ _ (by decide)) (by decide) rfl dX5_weakest_78 ?_
          refine xr_callS (pc := 81) κ [.long v2, .long v4, .long r7, .long (b_below (x_bal x7_ 1))] kw_2_141 tg_X5_isLess (snd_X5_isLess _ _ _ _ _ h) rfl (by decide) (by decide) (Nat.le_of_ble_eq_true rfl) dX5_weakest_81 (fun v9 ω9 hk9 => ?_)
          obtain ⟨r9, rfl, e9, h⟩ := hk9
          rw [e9]
          show Wat κ 84 [(0, .ref 0), (1, .int v1), (2, .long v2), (4, .long v4), (6, .int v6), (7, .long r7)] [.int r9] (wX c7_ x7_)
          refine xr_if_eq (pc := 84) κ (tgt := 102) dX5_weakest_84 (by decide) (fun c10 => ?_) (fun c10 => ?_)
          · have h := h.1 c10
            refine xr_sub (pc := 102) κ [0, 1, 2, 3, 4] (lv' := [(0, .ref 0), (1, .int v1), (2, .long v2), (4, .long v4), (6, .int v6)]) rfl ?_
            exact snd_X5_weakest_102 κ K hQ _ ih _ _ _ _ _ _ h
          · have h := h.2 c10
            refine xr_sub (pc := 87) κ [0, 4, 5] (lv' := [(0, .ref 0), (6, .int v6), (7, .long r7)]) rfl ?_
            exact snd_X5_weakest_87 κ K hQ _ ih _ _ _ _ h
      · have h := h.2 c6
        refine xr_iload (pc := 52) κ 4 (x := v6) dX5_weakest_52 rfl ?_
        exact xr_iret (pc := 54) κ _ hQ dX5_weakest_54 ⟨_, _, _, rfl, rfl, h⟩
def wp_X5_weakest (c : CS) (x : XT) (K : Int32 → CS → XT → Prop) : Prop :=
    (¬ (c_wires c) = 0 →
      wp_X5_settled c x (fun r2 c2_ x2_ =>
        (¬ r2 = 0 →
          ∃ n31 : Nat, nd_X5_weakest_31 K n31 (-1 : Int32) (0 : Int64) (1 : Int64) (0 : Int32) c2_ x2_) ∧
        (r2 = 0 →
          K (0 : Int32) c2_ x2_))) ∧
    ((c_wires c) = 0 →
      K (-1 : Int32) c x)
set_option maxHeartbeats 4000000 in
set_option maxRecDepth 100000 in
theorem snd_X5_weakest {l : Launch} (c : CS) (x : XT) (K : Int32 → CS → XT → Prop) (h : wp_X5_weakest  c x K) : XM l xTX yX5_weakest cX5_weakest 9 (some .int) 4 [.ref 0] (wX c x) (fun v ω' => ∃ (r : Int32) (c' : CS) (t' : XT), v = some (.int r) ∧ ω' = wX c' t' ∧ K r c' t') := by
    refine XM.of (by decide) (Nat.le_of_ble_eq_true rfl) (fun κ hQ => ?_)
    show Wat κ 0 [(0, .ref 0)] [] (wX c x)
    unfold wp_X5_weakest at h
    refine xr_aload_n (pc := 0) κ 0 (x := 0) dX5_weakest_0 rfl rfl ?_
    refine xr_get (pc := 1) κ xc5 (k := 0) (f := 0) (v := .ref 1) kw_1_182 (by decide) rfl (by decide) rfl dX5_weakest_1 ?_
    refine xr_getN (pc := 4) κ xc2 (k := 1) (f := 1) (v := .int (c_wires c)) kw_1_30 (by decide) rfl (by decide) rfl dX5_weakest_4 ?_
    refine xr_if_ne (pc := 7) κ (tgt := 12) dX5_weakest_7 (by decide) (fun c1 => ?_) (fun c1 => ?_)
    · have h := h.1 c1
      refine xr_aload_n (pc := 12) κ 0 (x := 0) dX5_weakest_12 rfl rfl ?_
      refine xr_callV (pc := 13) κ [] kw_2_19 tg_X5_settled (snd_X5_settled  _ _ _ h) rfl (by decide) (by decide) (by decide) rfl (ci := 5) rfl rfl (Nat.le_of_ble_eq_true rfl) dX5_weakest_13 (fun v9 ω9 hk9 => ?_)
      obtain ⟨r2, c2_, x2_, rfl, rfl, h⟩ := hk9
      skip
      show Wat κ 16 [(0, .ref 0)] [.int r2] (wX c2_ x2_)
      refine xr_if_ne (pc := 16) κ (tgt := 21) dX5_weakest_16 (by decide) (fun c3 => ?_) (fun c3 => ?_)
      · have h := h.1 c3
        refine xr_iconst (pc := 21) κ (v := -1) dX5_weakest_21 (by decide) ?_
        refine xr_istore_n (pc := 22) κ [1, 0] (lv' := [(0, .ref 0), (1, .int (-1 : Int32))]) dX5_weakest_22 rfl (by decide) rfl ?_
        refine xr_lconst (pc := 23) κ (v := 0) dX5_weakest_23 (by decide) ?_
        refine xr_lstore_n (pc := 24) κ [1, 2, 0] (lv' := [(0, .ref 0), (1, .int (-1 : Int32)), (2, .long (0 : Int64))]) dX5_weakest_24 rfl (by decide) rfl ?_
        refine xr_lconst (pc := 25) κ (v := 1) dX5_weakest_25 (by decide) ?_
        refine xr_lstore (pc := 26) κ [1, 2, 3, 0] (lv' := [(0, .ref 0), (1, .int (-1 : Int32)), (2, .long (0 : Int64)), (4, .long (1 : Int64))]) dX5_weakest_26 (by decide) rfl ?_
        refine xr_iconst (pc := 28) κ (v := 0) dX5_weakest_28 (by decide) ?_
        refine xr_istore (pc := 29) κ [1, 2, 3, 4, 0] (lv' := [(0, .ref 0), (1, .int (-1 : Int32)), (2, .long (0 : Int64)), (4, .long (1 : Int64)), (6, .int (0 : Int32))]) dX5_weakest_29 (by decide) rfl ?_
        obtain ⟨n0, h⟩ := h
        exact snd_X5_weakest_31 κ K hQ n0 _ _ _ _ _ _ h
      · have h := h.2 c3
        refine xr_iconst (pc := 19) κ (v := 0) dX5_weakest_19 (by decide) ?_
        exact xr_iret (pc := 20) κ _ hQ dX5_weakest_20 ⟨_, _, _, rfl, rfl, h⟩
    · have h := h.2 c1
      refine xr_iconst (pc := 10) κ (v := -1) dX5_weakest_10 (by decide) ?_
      exact xr_iret (pc := 11) κ _ hQ dX5_weakest_11 ⟨_, _, _, rfl, rfl, h⟩
-- ChipVolts.shrunk(IIII)J, level 2
def wp_X5_shrunk (po : Int32) (a : Int32) (b : Int32) (what : Int32) (c : CS) (x : XT) (K : Int64 → CS → XT → Prop) : Prop :=
    wp_X2_allBits c x (fun r1 c1_ x1_ =>
      wp_X5_between po (1 : Int32) r1 (fun r2 =>
        (r2 = 0 →
          K (-2 : Int64) c1_ x1_) ∧
        (¬ r2 = 0 →
          wp_X5_isPart what (fun r4 =>
            (¬ r4 = 0 →
              wp_X2_isKnot a c1_ x1_ (fun r6 c6_ x6_ =>
                (r6 = 0 →
                  K (-2 : Int64) c6_ x6_) ∧
                (¬ r6 = 0 →
                  wp_X2_isKnot b c6_ x6_ (fun r8 c8_ x8_ =>
                    (r8 = 0 →
                      K (-2 : Int64) c8_ x8_) ∧
                    (¬ r8 = 0 →
                      (¬ a = b →
                        wp_X5_has po a (fun r11 =>
                          (r11 = 0 →
                            K (-2 : Int64) c8_ x8_) ∧
                          (¬ r11 = 0 →
                            wp_X5_has po b (fun r13 =>
                              (¬ r13 = 0 →
                                (((c_pads c8_) &&& (po ^^^ (-1 : Int32))) = 0 →
                                  wp_X0_lay 1 c8_ x8_ (fun c16_ x16_ =>
                                    wp_X0_takeOutAllBut 1 po c16_ x16_ (fun r17 c17_ x17_ =>
                                      (¬ r17 = 0 →
                                        vp_in a 7 ∧
                                        vp_in b 7 ∧
                                        wp_X5_part (-((b_cell (x_bal x17_ 1)) a.toNatClampNeg b.toNatClampNeg)) (b_below (x_bal x17_ 1)) what (fun r21 =>
                                          K r21 c17_ x17_)) ∧
                                      (r17 = 0 →
                                        K (-3 : Int64) c17_ x17_)))) ∧
                                (¬ ((c_pads c8_) &&& (po ^^^ (-1 : Int32))) = 0 →
                                  K (-3 : Int64) c8_ x8_)) ∧
                              (r13 = 0 →
                                K (-2 : Int64) c8_ x8_))))) ∧
                      (a = b →
                        K (-2 : Int64) c8_ x8_)))))) ∧
            (r4 = 0 →
              K (-2 : Int64) c1_ x1_)))))
set_option maxHeartbeats 4000000 in
set_option maxRecDepth 100000 in
theorem snd_X5_shrunk {l : Launch} (po : Int32) (a : Int32) (b : Int32) (what : Int32) (c : CS) (x : XT) (K : Int64 → CS → XT → Prop) (h : wp_X5_shrunk po a b what c x K) : XM l xTX yX5_shrunk cX5_shrunk 5 (some .long) 2 [.ref 0, .int po, .int a, .int b, .int what] (wX c x) (fun v ω' => ∃ (r : Int64) (c' : CS) (t' : XT), v = some (.long r) ∧ ω' = wX c' t' ∧ K r c' t') := by
    refine XM.of (by decide) (Nat.le_of_ble_eq_true rfl) (fun κ hQ => ?_)
    show Wat κ 0 [(0, .ref 0), (1, .int po), (2, .int a), (3, .int b), (4, .int what)] [] (wX c x)
    unfold wp_X5_shrunk at h
    refine xr_iload_n (pc := 0) κ 1 (x := po) dX5_shrunk_0 rfl rfl ?_
    refine xr_iconst (pc := 1) κ (v := 1) dX5_shrunk_1 (by decide) ?_
    refine xr_aload_n (pc := 2) κ 0 (x := 0) dX5_shrunk_2 rfl rfl ?_
    refine xr_get (pc := 3) κ xc5 (k := 0) (f := 0) (v := .ref 1) kw_1_182 (by decide) rfl (by decide) rfl dX5_shrunk_3 ?_
    refine xr_callVN (pc := 6) κ [] kw_2_148 tg_X2_allBits (snd_X2_allBits  _ _ _ h) rfl (by decide) (by decide) (by decide) rfl (ci := 2) rfl rfl (Nat.le_of_ble_eq_true rfl) dX5_shrunk_6 (fun v9 ω9 hk9 => ?_)
    obtain ⟨r1, c1_, x1_, rfl, rfl, h⟩ := hk9
    skip
    show Wat κ 9 [(0, .ref 0), (1, .int po), (2, .int a), (3, .int b), (4, .int what)] [.int r1, .int (1 : Int32), .int po] (wX c1_ x1_)
    refine xr_callS (pc := 9) κ [.int po, .int (1 : Int32), .int r1] kw_1_205 tg_X5_between (snd_X5_between _ _ _ _ h) rfl (by decide) (by decide) (Nat.le_of_ble_eq_true rfl) dX5_shrunk_9 (fun v9 ω9 hk9 => ?_)
    obtain ⟨r2, rfl, e9, h⟩ := hk9
    rw [e9]
    show Wat κ 12 [(0, .ref 0), (1, .int po), (2, .int a), (3, .int b), (4, .int what)] [.int r2] (wX c1_ x1_)
    refine xr_if_eq (pc := 12) κ (tgt := 23) dX5_shrunk_12 (by decide) (fun c3 => ?_) (fun c3 => ?_)
    · have h := h.1 c3
      refine xr_ldc2 (pc := 23) κ (v := -2) kw_2_18 dX5_shrunk_23 ?_
      exact xr_lret (pc := 26) κ _ hQ dX5_shrunk_26 ⟨_, _, _, rfl, rfl, h⟩
    · have h := h.2 c3
      refine xr_iload (pc := 15) κ 4 (x := what) dX5_shrunk_15 rfl ?_
      refine xr_callS (pc := 17) κ [.int what] kw_2_15 tg_X5_isPart (snd_X5_isPart _ _ h) rfl (by decide) (by decide) (Nat.le_of_ble_eq_true rfl) dX5_shrunk_17 (fun v9 ω9 hk9 => ?_)
      obtain ⟨r4, rfl, e9, h⟩ := hk9
      rw [e9]
      show Wat κ 20 [(0, .ref 0), (1, .int po), (2, .int a), (3, .int b), (4, .int what)] [.int r4] (wX c1_ x1_)
      refine xr_if_ne (pc := 20) κ (tgt := 27) dX5_shrunk_20 (by decide) (fun c5 => ?_) (fun c5 => ?_)
      · have h := h.1 c5
        refine xr_aload_n (pc := 27) κ 0 (x := 0) dX5_shrunk_27 rfl rfl ?_
        refine xr_get (pc := 28) κ xc5 (k := 0) (f := 0) (v := .ref 1) kw_1_182 (by decide) rfl (by decide) rfl dX5_shrunk_28 ?_
        refine xr_iload_n (pc := 31) κ 2 (x := a) dX5_shrunk_31 rfl rfl ?_
        refine xr_callVN (pc := 32) κ [.int a] kw_1_220 tg_X2_isKnot (snd_X2_isKnot _ _ _ _ h) rfl (by decide) (by decide) (by decide) rfl (ci := 2) rfl rfl (Nat.le_of_ble_eq_true rfl) dX5_shrunk_32 (fun v9 ω9 hk9 => ?_)
        obtain ⟨r6, c6_, x6_, rfl, rfl, h⟩ := hk9
        skip
        show Wat κ 35 [(0, .ref 0), (1, .int po), (2, .int a), (3, .int b), (4, .int what)] [.int r6] (wX c6_ x6_)
        refine xr_if_eq (pc := 35) κ (tgt := 54) dX5_shrunk_35 (by decide) (fun c7 => ?_) (fun c7 => ?_)
        · have h := h.1 c7
          refine xr_ldc2 (pc := 54) κ (v := -2) kw_2_18 dX5_shrunk_54 ?_
          exact xr_lret (pc := 57) κ _ hQ dX5_shrunk_57 ⟨_, _, _, rfl, rfl, h⟩
        · have h := h.2 c7
          refine xr_aload_n (pc := 38) κ 0 (x := 0) dX5_shrunk_38 rfl rfl ?_
          refine xr_get (pc := 39) κ xc5 (k := 0) (f := 0) (v := .ref 1) kw_1_182 (by decide) rfl (by decide) rfl dX5_shrunk_39 ?_
          refine xr_iload_n (pc := 42) κ 3 (x := b) dX5_shrunk_42 rfl rfl ?_
          refine xr_callVN (pc := 43) κ [.int b] kw_1_220 tg_X2_isKnot (snd_X2_isKnot _ _ _ _ h) rfl (by decide) (by decide) (by decide) rfl (ci := 2) rfl rfl (Nat.le_of_ble_eq_true rfl) dX5_shrunk_43 (fun v9 ω9 hk9 => ?_)
          obtain ⟨r8, c8_, x8_, rfl, rfl, h⟩ := hk9
          skip
          show Wat κ 46 [(0, .ref 0), (1, .int po), (2, .int a), (3, .int b), (4, .int what)] [.int r8] (wX c8_ x8_)
          refine xr_if_eq (pc := 46) κ (tgt := 54) dX5_shrunk_46 (by decide) (fun c9 => ?_) (fun c9 => ?_)
          · have h := h.1 c9
            refine xr_ldc2 (pc := 54) κ (v := -2) kw_2_18 dX5_shrunk_54 ?_
            exact xr_lret (pc := 57) κ _ hQ dX5_shrunk_57 ⟨_, _, _, rfl, rfl, h⟩
          · have h := h.2 c9
            refine xr_iload_n (pc := 49) κ 2 (x := a) dX5_shrunk_49 rfl rfl ?_
            refine xr_iload_n (pc := 50) κ 3 (x := b) dX5_shrunk_50 rfl rfl ?_
            refine xr_icmp_ne (pc := 51) κ (tgt := 58) dX5_shrunk_51 (by decide) (fun c10 => ?_) (fun c10 => ?_)
            · have h := h.1 c10
              refine xr_iload_n (pc := 58) κ 1 (x := po) dX5_shrunk_58 rfl rfl ?_
              refine xr_iload_n (pc := 59) κ 2 (x := a) dX5_shrunk_59 rfl rfl ?_
              refine xr_callS (pc := 60) κ [.int po, .int a] kw_2_152 tg_X5_has (snd_X5_has _ _ _ h) rfl (by decide) (by decide) (Nat.le_of_ble_eq_true rfl) dX5_shrunk_60 (fun v9 ω9 hk9 => ?_)
              obtain ⟨r11, rfl, e9, h⟩ := hk9
              rw [e9]
              show Wat κ 63 [(0, .ref 0), (1, .int po), (2, .int a), (3, .int b), (4, .int what)] [.int r11] (wX c8_ x8_)
              refine xr_if_eq (pc := 63) κ (tgt := 74) dX5_shrunk_63 (by decide) (fun c12 => ?_) (fun c12 => ?_)
              · have h := h.1 c12
                refine xr_ldc2 (pc := 74) κ (v := -2) kw_2_18 dX5_shrunk_74 ?_
                exact xr_lret (pc := 77) κ _ hQ dX5_shrunk_77 ⟨_, _, _, rfl, rfl, h⟩
              · have h := h.2 c12
                refine xr_iload_n (pc := 66) κ 1 (x := po) dX5_shrunk_66 rfl rfl ?_
                refine xr_iload_n (pc := 67) κ 3 (x := b) dX5_shrunk_67 rfl rfl ?_
                refine xr_callS (pc := 68) κ [.int po, .int b] kw_2_152 tg_X5_has (snd_X5_has _ _ _ h) rfl (by decide) (by decide) (Nat.le_of_ble_eq_true rfl) dX5_shrunk_68 (fun v9 ω9 hk9 => ?_)
                obtain ⟨r13, rfl, e9, h⟩ := hk9
                rw [e9]
                show Wat κ 71 [(0, .ref 0), (1, .int po), (2, .int a), (3, .int b), (4, .int what)] [.int r13] (wX c8_ x8_)
                refine xr_if_ne (pc := 71) κ (tgt := 78) dX5_shrunk_71 (by decide) (fun c14 => ?_) (fun c14 => ?_)
                · have h := h.1 c14
                  refine xr_aload_n (pc := 78) κ 0 (x := 0) dX5_shrunk_78 rfl rfl ?_
                  refine xr_get (pc := 79) κ xc5 (k := 0) (f := 0) (v := .ref 1) kw_1_182 (by decide) rfl (by decide) rfl dX5_shrunk_79 ?_
                  refine xr_getN (pc := 82) κ xc2 (k := 1) (f := 2) (v := .int (c_pads c8_)) kw_1_34 (by decide) rfl (by decide) rfl dX5_shrunk_82 ?_
                  refine xr_iload_n (pc := 85) κ 1 (x := po) dX5_shrunk_85 rfl rfl ?_
                  refine xr_iconst (pc := 86) κ (v := -1) dX5_shrunk_86 (by decide) ?_
                  refine xr_ixor (pc := 87) κ dX5_shrunk_87 ?_
                  refine xr_iand (pc := 88) κ dX5_shrunk_88 ?_
                  refine xr_if_eq (pc := 89) κ (tgt := 96) dX5_shrunk_89 (by decide) (fun c15 => ?_) (fun c15 => ?_)
                  · have h := h.1 c15
                    refine xr_aload_n (pc := 96) κ 0 (x := 0) dX5_shrunk_96 rfl rfl ?_
                    refine xr_get (pc := 97) κ xc5 (k := 0) (f := 3) (v := .ref (xb 1)) kw_1_185 (by decide) rfl (by decide) rfl dX5_shrunk_97 ?_
                    refine xr_aload_n (pc := 100) κ 0 (x := 0) dX5_shrunk_100 rfl rfl ?_
                    refine xr_get (pc := 101) κ xc5 (k := 0) (f := 0) (v := .ref 1) kw_1_182 (by decide) rfl (by decide) rfl dX5_shrunk_101 ?_
                    refine xr_callVN (pc := 104) κ [.ref 1] kw_2_153 tg_X0_lay (snd_X0_lay 1 (by decide)  _ _ _ h) rfl (by decide) (by decide) (xb_lt (j := 0) (by decide) (by decide)) (wXb_obj _ _ (by decide)) (ci := 0) rfl rfl (Nat.le_of_ble_eq_true rfl) dX5_shrunk_104 (fun v9 ω9 hk9 => ?_)
                    obtain ⟨c16_, x16_, rfl, rfl, h⟩ := hk9
                    skip
                    show Wat κ 107 [(0, .ref 0), (1, .int po), (2, .int a), (3, .int b), (4, .int what)] [] (wX c16_ x16_)
                    refine xr_aload_n (pc := 107) κ 0 (x := 0) dX5_shrunk_107 rfl rfl ?_
                    refine xr_get (pc := 108) κ xc5 (k := 0) (f := 3) (v := .ref (xb 1)) kw_1_185 (by decide) rfl (by decide) rfl dX5_shrunk_108 ?_
                    refine xr_iload_n (pc := 111) κ 1 (x := po) dX5_shrunk_111 rfl rfl ?_
                    refine xr_callVN (pc := 112) κ [.int po] kw_2_154 tg_X0_takeOutAllBut (snd_X0_takeOutAllBut 1 (by decide) _ _ _ _ h) rfl (by decide) (by decide) (xb_lt (j := 0) (by decide) (by decide)) (wXb_obj _ _ (by decide)) (ci := 0) rfl rfl (Nat.le_of_ble_eq_true rfl) dX5_shrunk_112 (fun v9 ω9 hk9 => ?_)
                    obtain ⟨r17, c17_, x17_, rfl, rfl, h⟩ := hk9
                    skip
                    show Wat κ 115 [(0, .ref 0), (1, .int po), (2, .int a), (3, .int b), (4, .int what)] [.int r17] (wX c17_ x17_)
                    refine xr_if_ne (pc := 115) κ (tgt := 122) dX5_shrunk_115 (by decide) (fun c18 => ?_) (fun c18 => ?_)
                    · have h := h.1 c18
                      refine xr_aload_n (pc := 122) κ 0 (x := 0) dX5_shrunk_122 rfl rfl ?_
                      refine xr_get (pc := 123) κ xc5 (k := 0) (f := 3) (v := .ref (xb 1)) kw_1_185 (by decide) rfl (by decide) rfl dX5_shrunk_123 ?_
                      refine xr_getN (pc := 126) κ xc0 (k := (xb 1)) (f := 2) (v := .ref (xb 1 + 1)) kw_1_116 (xb_lt (j := 0) (by decide) (by decide)) (wXb_obj _ _ (by decide)) (by decide) rfl dX5_shrunk_126 ?_
                      refine xr_iload_n (pc := 129) κ 2 (x := a) dX5_shrunk_129 rfl rfl ?_
                      obtain ⟨i19, h⟩ := h
                      refine xr_aald (pc := 130) κ (k := (xb 1 + 1)) (n := 7) (j := xb 1 + 2 + a.toNatClampNeg) (xb_lt (j := 1) (by decide) (by decide)) (xTX_out (by decide)) rfl (wXb_out _ _ (by decide)) i19 (if_pos (vp_lt i19)) dX5_shrunk_130 ?_
                      refine xr_iload_n (pc := 131) κ 3 (x := b) dX5_shrunk_131 rfl rfl ?_
                      obtain ⟨i20, h⟩ := h
                      refine xr_lald (pc := 132) κ (k := (xb 1 + 2 + a.toNatClampNeg)) (n := 7) (f := (b_cell (x_bal x17_ 1)) a.toNatClampNeg) (xb_row_lt (by decide) (vp_lt i19)) (xTX_row (by decide) (vp_lt i19)) (wXb_row _ _ (by decide) (vp_lt i19)) i20 dX5_shrunk_132 ?_
                      refine xr_lneg (pc := 133) κ dX5_shrunk_133 ?_
                      refine xr_aload_n (pc := 134) κ 0 (x := 0) dX5_shrunk_134 rfl rfl ?_
                      refine xr_get (pc := 135) κ xc5 (k := 0) (f := 3) (v := .ref (xb 1)) kw_1_185 (by decide) rfl (by decide) rfl dX5_shrunk_135 ?_
                      refine xr_getN (pc := 138) κ xc0 (k := (xb 1)) (f := 1) (v := .long (b_below (x_bal x17_ 1))) kw_1_112 (xb_lt (j := 0) (by decide) (by decide)) (wXb_obj _ _ (by decide)) (by decide) rfl dX5_shrunk_138 ?_
                      refine xr_iload (pc := 141) κ 4 (x := what) dX5_shrunk_141 rfl ?_
                      refine xr_callS (pc := 143) κ [.long (-((b_cell (x_bal x17_ 1)) a.toNatClampNeg b.toNatClampNeg)), .long (b_below (x_bal x17_ 1)), .int what] kw_2_49 tg_X5_part (snd_X5_part _ _ _ _ h) rfl (by decide) (by decide) (Nat.le_of_ble_eq_true rfl) dX5_shrunk_143 (fun v9 ω9 hk9 => ?_)
                      obtain ⟨r21, rfl, e9, h⟩ := hk9
                      rw [e9]
                      show Wat κ 146 [(0, .ref 0), (1, .int po), (2, .int a), (3, .int b), (4, .int what)] [.long r21] (wX c17_ x17_)
                      exact xr_lret (pc := 146) κ _ hQ dX5_shrunk_146 ⟨_, _, _, rfl, rfl, h⟩
                    · have h := h.2 c18
                      refine xr_ldc2 (pc := 118) κ (v := -3) kw_2_48 dX5_shrunk_118 ?_
                      exact xr_lret (pc := 121) κ _ hQ dX5_shrunk_121 ⟨_, _, _, rfl, rfl, h⟩
                  · have h := h.2 c15
                    refine xr_ldc2 (pc := 92) κ (v := -3) kw_2_48 dX5_shrunk_92 ?_
                    exact xr_lret (pc := 95) κ _ hQ dX5_shrunk_95 ⟨_, _, _, rfl, rfl, h⟩
                · have h := h.2 c14
                  refine xr_ldc2 (pc := 74) κ (v := -2) kw_2_18 dX5_shrunk_74 ?_
                  exact xr_lret (pc := 77) κ _ hQ dX5_shrunk_77 ⟨_, _, _, rfl, rfl, h⟩
            · have h := h.2 c10
              refine xr_ldc2 (pc := 54) κ (v := -2) kw_2_18 dX5_shrunk_54 ?_
              exact xr_lret (pc := 57) κ _ hQ dX5_shrunk_57 ⟨_, _, _, rfl, rfl, h⟩
      · have h := h.2 c5
        refine xr_ldc2 (pc := 23) κ (v := -2) kw_2_18 dX5_shrunk_23 ?_
        exact xr_lret (pc := 26) κ _ hQ dX5_shrunk_26 ⟨_, _, _, rfl, rfl, h⟩
-- ChipVolts.pads(I)I, level 3
def nd_X5_pads_122 (K : Int32 → CS → XT → Prop) (L34 : Int32 → Int32 → Int64 → Int64 → Int32 → CS → XT → Prop) (v1 : Int32) (v2 : Int32) (v3 : Int64) (v5 : Int64) (v7 : Int32) (c : CS) (x : XT) : Prop :=
    L34 v1 v2 v3 v5 (v7 + 1) c x
set_option maxHeartbeats 4000000 in
set_option maxRecDepth 100000 in
theorem snd_X5_pads_122 {l : Launch} (κ : XC l xTX cX5_pads yX5_pads.cls 10 (some .int) 3) (K : Int32 → CS → XT → Prop) (hQ : xRet κ (fun v ω' => ∃ (r : Int32) (c' : CS) (t' : XT), v = some (.int r) ∧ ω' = wX c' t' ∧ K r c' t')) (L34 : Int32 → Int32 → Int64 → Int64 → Int32 → CS → XT → Prop) (hL34 : ∀ (v1 : Int32) (v2 : Int32) (v3 : Int64) (v5 : Int64) (v7 : Int32) (c : CS) (x : XT), L34 v1 v2 v3 v5 v7 c x → Wat κ 34 [(0, .ref 0), (1, .int v1), (2, .int v2), (3, .long v3), (5, .long v5), (7, .int v7)] [] (wX c x)) (v1 : Int32) (v2 : Int32) (v3 : Int64) (v5 : Int64) (v7 : Int32) (c : CS) (x : XT) (h : nd_X5_pads_122 K L34 v1 v2 v3 v5 v7 c x) : Wat κ 122 [(0, .ref 0), (1, .int v1), (2, .int v2), (3, .long v3), (5, .long v5), (7, .int v7)] [] (wX c x) := by
    unfold nd_X5_pads_122 at h
    refine xr_iinc (pc := 122) κ 5 [1, 2, 3, 4, 5, 0] (lv' := [(0, .ref 0), (1, .int v1), (2, .int v2), (3, .long v3), (5, .long v5), (7, .int (v7 + 1))]) (x := v7) (v := v7 + 1) dX5_pads_122 rfl rfl (by decide) rfl ?_
    refine xr_goto (pc := 125) κ (tgt := 34) dX5_pads_125 (by decide) ?_
    exact hL34 _ _ _ _ _ _ _ h
def nd_X5_pads_107 (K : Int32 → CS → XT → Prop) (L34 : Int32 → Int32 → Int64 → Int64 → Int32 → CS → XT → Prop) (v1 : Int32) (v7 : Int32) (v8 : Int64) (c : CS) (x : XT) : Prop :=
    nd_X5_pads_122 K L34 v1 v7 v8 (b_below (x_bal x 1)) v7 c x
set_option maxHeartbeats 4000000 in
set_option maxRecDepth 100000 in
theorem snd_X5_pads_107 {l : Launch} (κ : XC l xTX cX5_pads yX5_pads.cls 10 (some .int) 3) (K : Int32 → CS → XT → Prop) (hQ : xRet κ (fun v ω' => ∃ (r : Int32) (c' : CS) (t' : XT), v = some (.int r) ∧ ω' = wX c' t' ∧ K r c' t')) (L34 : Int32 → Int32 → Int64 → Int64 → Int32 → CS → XT → Prop) (hL34 : ∀ (v1 : Int32) (v2 : Int32) (v3 : Int64) (v5 : Int64) (v7 : Int32) (c : CS) (x : XT), L34 v1 v2 v3 v5 v7 c x → Wat κ 34 [(0, .ref 0), (1, .int v1), (2, .int v2), (3, .long v3), (5, .long v5), (7, .int v7)] [] (wX c x)) (v1 : Int32) (v7 : Int32) (v8 : Int64) (c : CS) (x : XT) (h : nd_X5_pads_107 K L34 v1 v7 v8 c x) : Wat κ 107 [(0, .ref 0), (1, .int v1), (7, .int v7), (8, .long v8)] [] (wX c x) := by
    unfold nd_X5_pads_107 at h
    refine xr_iload (pc := 107) κ 2 (x := v7) dX5_pads_107 rfl ?_
    refine xr_istore_n (pc := 109) κ [1, 2, 0, 3, 4] (lv' := [(0, .ref 0), (1, .int v1), (2, .int v7), (7, .int v7), (8, .long v8)]) dX5_pads_109 rfl (by decide) rfl ?_
    refine xr_lload (pc := 110) κ 4 (x := v8) dX5_pads_110 rfl ?_
    refine xr_lstore_n (pc := 112) κ [1, 2, 3, 0, 4, 5] (lv' := [(0, .ref 0), (1, .int v1), (2, .int v7), (3, .long v8), (7, .int v7), (8, .long v8)]) dX5_pads_112 rfl (by decide) rfl ?_
    refine xr_aload_n (pc := 113) κ 0 (x := 0) dX5_pads_113 rfl rfl ?_
    refine xr_get (pc := 114) κ xc5 (k := 0) (f := 3) (v := .ref (xb 1)) kw_1_185 (by decide) rfl (by decide) rfl dX5_pads_114 ?_
    refine xr_getN (pc := 117) κ xc0 (k := (xb 1)) (f := 1) (v := .long (b_below (x_bal x 1))) kw_1_112 (xb_lt (j := 0) (by decide) (by decide)) (wXb_obj _ _ (by decide)) (by decide) rfl dX5_pads_117 ?_
    refine xr_lstore (pc := 120) κ [1, 2, 3, 4, 0, 5, 6] (lv' := [(0, .ref 0), (1, .int v1), (2, .int v7), (3, .long v8), (5, .long (b_below (x_bal x 1))), (7, .int v7), (8, .long v8)]) dX5_pads_120 (by decide) rfl ?_
    refine xr_sub (pc := 122) κ [0, 1, 2, 3, 4, 5] (lv' := [(0, .ref 0), (1, .int v1), (2, .int v7), (3, .long v8), (5, .long (b_below (x_bal x 1))), (7, .int v7)]) rfl ?_
    exact snd_X5_pads_122 κ K hQ _ hL34 _ _ _ _ _ _ _ h
def nd_X5_pads_34 (K : Int32 → CS → XT → Prop) : Nat → Int32 → Int32 → Int64 → Int64 → Int32 → CS → XT → Prop
  | 0 => fun _ _ _ _ _ _ _ => False
  | n + 1 => fun v1 v2 v3 v5 v7 c x =>
    wp_X2_allBits c x (fun r4 c4_ x4_ =>
      (r4 < v7 →
        K v2 c4_ x4_) ∧
      (¬ r4 < v7 →
        wp_J6_bitCount_0f7a4 v7 (fun r6 =>
          (¬ r6 = v1 →
            nd_X5_pads_122 K (fun v1 v2 v3 v5 v7 c x => nd_X5_pads_34 K n v1 v2 v3 v5 v7 c x) v1 v2 v3 v5 v7 c4_ x4_) ∧
          (r6 = v1 →
            wp_X0_settle 1 v7 c4_ x4_ (fun r8 c8_ x8_ =>
              (¬ r8 = 0 →
                wp_X0_highestAbove 1 c8_ x8_ (fun r10 c10_ x10_ =>
                  (v2 = (-3 : Int32) →
                    nd_X5_pads_107 K (fun v1 v2 v3 v5 v7 c x => nd_X5_pads_34 K n v1 v2 v3 v5 v7 c x) v1 v7 r10 c10_ x10_) ∧
                  (¬ v2 = (-3 : Int32) →
                    wp_X5_isLess r10 (b_below (x_bal x10_ 1)) v3 v5 (fun r12 =>
                      (r12 = 0 →
                        nd_X5_pads_122 K (fun v1 v2 v3 v5 v7 c x => nd_X5_pads_34 K n v1 v2 v3 v5 v7 c x) v1 v2 v3 v5 v7 c10_ x10_) ∧
                      (¬ r12 = 0 →
                        nd_X5_pads_107 K (fun v1 v2 v3 v5 v7 c x => nd_X5_pads_34 K n v1 v2 v3 v5 v7 c x) v1 v7 r10 c10_ x10_))))) ∧
              (r8 = 0 →
                nd_X5_pads_122 K (fun v1 v2 v3 v5 v7 c x => nd_X5_pads_34 K n v1 v2 v3 v5 v7 c x) v1 v2 v3 v5 v7 c8_ x8_))))))
set_option maxHeartbeats 4000000 in
set_option maxRecDepth 100000 in
theorem snd_X5_pads_34 {l : Launch} (κ : XC l xTX cX5_pads yX5_pads.cls 10 (some .int) 3) (K : Int32 → CS → XT → Prop) (hQ : xRet κ (fun v ω' => ∃ (r : Int32) (c' : CS) (t' : XT), v = some (.int r) ∧ ω' = wX c' t' ∧ K r c' t')) : ∀ (n : Nat) (v1 : Int32) (v2 : Int32) (v3 : Int64) (v5 : Int64) (v7 : Int32) (c : CS) (x : XT), nd_X5_pads_34 K n v1 v2 v3 v5 v7 c x → Wat κ 34 [(0, .ref 0), (1, .int v1), (2, .int v2), (3, .long v3), (5, .long v5), (7, .int v7)] [] (wX c x) := by
  intro n
  induction n with
  | zero => intro v1 v2 v3 v5 v7 c x h; exact h.elim
  | succ n ih =>
    intro v1 v2 v3 v5 v7 c x h
    unfold nd_X5_pads_34 at h
    refine xr_iload (pc := 34) κ 5 (x := v7) dX5_pads_34 rfl ?_
    refine xr_aload_n (pc := 36) κ 0 (x := 0) dX5_pads_36 rfl rfl ?_
    refine xr_get (pc := 37) κ xc5 (k := 0) (f := 0) (v := .ref 1) kw_1_182 (by decide) rfl (by decide) rfl dX5_pads_37 ?_
    refine xr_callVN (pc := 40) κ [] kw_2_148 tg_X2_allBits (snd_X2_allBits  _ _ _ h) rfl (by decide) (by decide) (by decide) rfl (ci := 2) rfl rfl (Nat.le_of_ble_eq_true rfl) dX5_pads_40 (fun v9 ω9 hk9 => ?_)
    obtain ⟨r4, c4_, x4_, rfl, rfl, h⟩ := hk9
    skip
    show Wat κ 43 [(0, .ref 0), (1, .int v1), (2, .int v2), (3, .long v3), (5, .long v5), (7, .int v7)] [.int r4, .int v7] (wX c4_ x4_)
    refine xr_icmp_gt (pc := 43) κ (tgt := 128) dX5_pads_43 (by decide) (fun c5 => ?_) (fun c5 => ?_)
    · have h := h.1 c5
      refine xr_iload_n (pc := 128) κ 2 (x := v2) dX5_pads_128 rfl rfl ?_
      exact xr_iret (pc := 129) κ _ hQ dX5_pads_129 ⟨_, _, _, rfl, rfl, h⟩
    · have h := h.2 c5
      refine xr_iload (pc := 46) κ 5 (x := v7) dX5_pads_46 rfl ?_
      refine xr_callS (pc := 48) κ [.int v7] kw_2_159 tg_J6_bitCount_0f7a4 (snd_J6_bitCount_0f7a4 _ _ h) rfl (by decide) (by decide) (Nat.le_of_ble_eq_true rfl) dX5_pads_48 (fun v9 ω9 hk9 => ?_)
      obtain ⟨r6, rfl, e9, h⟩ := hk9
      rw [e9]
      show Wat κ 51 [(0, .ref 0), (1, .int v1), (2, .int v2), (3, .long v3), (5, .long v5), (7, .int v7)] [.int r6] (wX c4_ x4_)
      refine xr_iload_n (pc := 51) κ 1 (x := v1) dX5_pads_51 rfl rfl ?_
      refine xr_icmp_ne (pc := 52) κ (tgt := 122) dX5_pads_52 (by decide) (fun c7 => ?_) (fun c7 => ?_)
      · have h := h.1 c7
        exact snd_X5_pads_122 κ K hQ _ ih _ _ _ _ _ _ _ h
      · have h := h.2 c7
        refine xr_aload_n (pc := 55) κ 0 (x := 0) dX5_pads_55 rfl rfl ?_
        refine xr_get (pc := 56) κ xc5 (k := 0) (f := 3) (v := .ref (xb 1)) kw_1_185 (by decide) rfl (by decide) rfl dX5_pads_56 ?_
        refine xr_aload_n (pc := 59) κ 0 (x := 0) dX5_pads_59 rfl rfl ?_
        refine xr_get (pc := 60) κ xc5 (k := 0) (f := 0) (v := .ref 1) kw_1_182 (by decide) rfl (by decide) rfl dX5_pads_60 ?_
        refine xr_iload (pc := 63) κ 5 (x := v7) dX5_pads_63 rfl ?_
        refine xr_callVN (pc := 65) κ [.ref 1, .int v7] kw_2_23 tg_X0_settle (snd_X0_settle 1 (by decide) _ _ _ _ h) rfl (by decide) (by decide) (xb_lt (j := 0) (by decide) (by decide)) (wXb_obj _ _ (by decide)) (ci := 0) rfl rfl (Nat.le_of_ble_eq_true rfl) dX5_pads_65 (fun v9 ω9 hk9 => ?_)
        obtain ⟨r8, c8_, x8_, rfl, rfl, h⟩ := hk9
        skip
        show Wat κ 68 [(0, .ref 0), (1, .int v1), (2, .int v2), (3, .long v3), (5, .long v5), (7, .int v7)] [.int r8] (wX c8_ x8_)
        refine xr_if_ne (pc := 68) κ (tgt := 74) dX5_pads_68 (by decide) (fun c9 => ?_) (fun c9 => ?_)
        · have h := h.1 c9
          refine xr_aload_n (pc := 74) κ 0 (x := 0) dX5_pads_74 rfl rfl ?_
          refine xr_get (pc := 75) κ xc5 (k := 0) (f := 3) (v := .ref (xb 1)) kw_1_185 (by decide) rfl (by decide) rfl dX5_pads_75 ?_
          refine xr_callVN (pc := 78) κ [] kw_2_132 tg_X0_highestAbove (snd_X0_highestAbove 1 (by decide)  _ _ _ h) rfl (by decide) (by decide) (xb_lt (j := 0) (by decide) (by decide)) (wXb_obj _ _ (by decide)) (ci := 0) rfl rfl (Nat.le_of_ble_eq_true rfl) dX5_pads_78 (fun v9 ω9 hk9 => ?_)
          obtain ⟨r10, c10_, x10_, rfl, rfl, h⟩ := hk9
          skip
          show Wat κ 81 [(0, .ref 0), (1, .int v1), (2, .int v2), (3, .long v3), (5, .long v5), (7, .int v7)] [.long r10] (wX c10_ x10_)
          refine xr_lstore (pc := 81) κ [1, 2, 3, 4, 5, 6, 0] (lv' := [(0, .ref 0), (1, .int v1), (2, .int v2), (3, .long v3), (5, .long v5), (7, .int v7), (8, .long r10)]) dX5_pads_81 (by decide) rfl ?_
          refine xr_iload_n (pc := 83) κ 2 (x := v2) dX5_pads_83 rfl rfl ?_
          refine xr_bipush (pc := 84) κ (v := -3) dX5_pads_84 (by decide) ?_
          refine xr_icmp_eq (pc := 86) κ (tgt := 107) dX5_pads_86 (by decide) (fun c11 => ?_) (fun c11 => ?_)
          · have h := h.1 c11
            refine xr_sub (pc := 107) κ [0, 1, 5, 6] (lv' := [(0, .ref 0), (1, .int v1), (7, .int v7), (8, .long r10)]) rfl ?_
            exact snd_X5_pads_107 κ K hQ _ ih _ _ _ _ _ h
          · have h := h.2 c11
            refine xr_lload (pc := 89) κ 6 (x := r10) dX5_pads_89 rfl ?_
            refine xr_aload_n (pc := 91) κ 0 (x := 0) dX5_pads_91 rfl rfl ?_
            refine xr_get (pc := 92) κ xc5 (k := 0) (f := 3) (v := .ref (xb 1)) kw_1_185 (by decide) rfl (by decide) rfl dX5_pads_92 ?_
            refine xr_getN (pc := 95) κ xc0 (k := (xb 1)) (f := 1) (v := .long (b_below (x_bal x10_ 1))) kw_1_112 (xb_lt (j := 0) (by decide) (by decide)) (wXb_obj _ _ (by decide)) (by decide) rfl dX5_pads_95 ?_
            refine xr_lload_n (pc := 98) κ 3 (x := v3) dX5_pads_98 rfl rfl ?_
            refine xr_lload (pc := 99) κ 4 (x := v5) dX5_pads_99 rfl ?_
            refine xr_callS (pc := 101) κ [.long r10, .long (b_below (x_bal x10_ 1)), .long v3, .long v5] kw_2_141 tg_X5_isLess (snd_X5_isLess _ _ _ _ _ h) rfl (by decide) (by decide) (Nat.le_of_ble_eq_true rfl) dX5_pads_101 (fun v9 ω9 hk9 => ?_)
            obtain ⟨r12, rfl, e9, h⟩ := hk9
            rw [e9]
            show Wat κ 104 [(0, .ref 0), (1, .int v1), (2, .int v2), (3, .long v3), (5, .long v5), (7, .int v7), (8, .long r10)] [.int r12] (wX c10_ x10_)
            refine xr_if_eq (pc := 104) κ (tgt := 122) dX5_pads_104 (by decide) (fun c13 => ?_) (fun c13 => ?_)
            · have h := h.1 c13
              refine xr_sub (pc := 122) κ [0, 1, 2, 3, 4, 5] (lv' := [(0, .ref 0), (1, .int v1), (2, .int v2), (3, .long v3), (5, .long v5), (7, .int v7)]) rfl ?_
              exact snd_X5_pads_122 κ K hQ _ ih _ _ _ _ _ _ _ h
            · have h := h.2 c13
              refine xr_sub (pc := 107) κ [0, 1, 5, 6] (lv' := [(0, .ref 0), (1, .int v1), (7, .int v7), (8, .long r10)]) rfl ?_
              exact snd_X5_pads_107 κ K hQ _ ih _ _ _ _ _ h
        · have h := h.2 c9
          refine xr_goto (pc := 71) κ (tgt := 122) dX5_pads_71 (by decide) ?_
          exact snd_X5_pads_122 κ K hQ _ ih _ _ _ _ _ _ _ h
def wp_X5_pads (j : Int32) (c : CS) (x : XT) (K : Int32 → CS → XT → Prop) : Prop :=
    wp_X5_between j (1 : Int32) (3 : Int32) (fun r1 =>
      (r1 = 0 →
        K (-2 : Int32) c x) ∧
      (¬ r1 = 0 →
        (j ≤ (c_n c) →
          ∃ n34 : Nat, nd_X5_pads_34 K n34 j (-3 : Int32) (0 : Int64) (1 : Int64) (1 : Int32) c x) ∧
        (¬ j ≤ (c_n c) →
          K (-2 : Int32) c x)))
set_option maxHeartbeats 4000000 in
set_option maxRecDepth 100000 in
theorem snd_X5_pads {l : Launch} (j : Int32) (c : CS) (x : XT) (K : Int32 → CS → XT → Prop) (h : wp_X5_pads j c x K) : XM l xTX yX5_pads cX5_pads 10 (some .int) 3 [.ref 0, .int j] (wX c x) (fun v ω' => ∃ (r : Int32) (c' : CS) (t' : XT), v = some (.int r) ∧ ω' = wX c' t' ∧ K r c' t') := by
    refine XM.of (by decide) (Nat.le_of_ble_eq_true rfl) (fun κ hQ => ?_)
    show Wat κ 0 [(0, .ref 0), (1, .int j)] [] (wX c x)
    unfold wp_X5_pads at h
    refine xr_iload_n (pc := 0) κ 1 (x := j) dX5_pads_0 rfl rfl ?_
    refine xr_iconst (pc := 1) κ (v := 1) dX5_pads_1 (by decide) ?_
    refine xr_iconst (pc := 2) κ (v := 3) dX5_pads_2 (by decide) ?_
    refine xr_callS (pc := 3) κ [.int j, .int (1 : Int32), .int (3 : Int32)] kw_1_205 tg_X5_between (snd_X5_between _ _ _ _ h) rfl (by decide) (by decide) (Nat.le_of_ble_eq_true rfl) dX5_pads_3 (fun v9 ω9 hk9 => ?_)
    obtain ⟨r1, rfl, e9, h⟩ := hk9
    rw [e9]
    show Wat κ 6 [(0, .ref 0), (1, .int j)] [.int r1] (wX c x)
    refine xr_if_eq (pc := 6) κ (tgt := 20) dX5_pads_6 (by decide) (fun c2 => ?_) (fun c2 => ?_)
    · have h := h.1 c2
      refine xr_bipush (pc := 20) κ (v := -2) dX5_pads_20 (by decide) ?_
      exact xr_iret (pc := 22) κ _ hQ dX5_pads_22 ⟨_, _, _, rfl, rfl, h⟩
    · have h := h.2 c2
      refine xr_iload_n (pc := 9) κ 1 (x := j) dX5_pads_9 rfl rfl ?_
      refine xr_aload_n (pc := 10) κ 0 (x := 0) dX5_pads_10 rfl rfl ?_
      refine xr_get (pc := 11) κ xc5 (k := 0) (f := 0) (v := .ref 1) kw_1_182 (by decide) rfl (by decide) rfl dX5_pads_11 ?_
      refine xr_getN (pc := 14) κ xc2 (k := 1) (f := 0) (v := .int (c_n c)) kw_1_27 (by decide) rfl (by decide) rfl dX5_pads_14 ?_
      refine xr_icmp_le (pc := 17) κ (tgt := 23) dX5_pads_17 (by decide) (fun c3 => ?_) (fun c3 => ?_)
      · have h := h.1 c3
        refine xr_bipush (pc := 23) κ (v := -3) dX5_pads_23 (by decide) ?_
        refine xr_istore_n (pc := 25) κ [1, 2, 0] (lv' := [(0, .ref 0), (1, .int j), (2, .int (-3 : Int32))]) dX5_pads_25 rfl (by decide) rfl ?_
        refine xr_lconst (pc := 26) κ (v := 0) dX5_pads_26 (by decide) ?_
        refine xr_lstore_n (pc := 27) κ [1, 2, 3, 0] (lv' := [(0, .ref 0), (1, .int j), (2, .int (-3 : Int32)), (3, .long (0 : Int64))]) dX5_pads_27 rfl (by decide) rfl ?_
        refine xr_lconst (pc := 28) κ (v := 1) dX5_pads_28 (by decide) ?_
        refine xr_lstore (pc := 29) κ [1, 2, 3, 4, 0] (lv' := [(0, .ref 0), (1, .int j), (2, .int (-3 : Int32)), (3, .long (0 : Int64)), (5, .long (1 : Int64))]) dX5_pads_29 (by decide) rfl ?_
        refine xr_iconst (pc := 31) κ (v := 1) dX5_pads_31 (by decide) ?_
        refine xr_istore (pc := 32) κ [1, 2, 3, 4, 5, 0] (lv' := [(0, .ref 0), (1, .int j), (2, .int (-3 : Int32)), (3, .long (0 : Int64)), (5, .long (1 : Int64)), (7, .int (1 : Int32))]) dX5_pads_32 (by decide) rfl ?_
        obtain ⟨n0, h⟩ := h
        exact snd_X5_pads_34 κ K hQ n0 _ _ _ _ _ _ _ h
      · have h := h.2 c3
        refine xr_bipush (pc := 20) κ (v := -2) dX5_pads_20 (by decide) ?_
        exact xr_iret (pc := 22) κ _ hQ dX5_pads_22 ⟨_, _, _, rfl, rfl, h⟩
-- ChipVolts.widen(II)I, level 10
def wp_X5_widen (lim : Int32) (u : Int32) (c : CS) (x : XT) (K : Int32 → CS → XT → Prop) : Prop :=
    wp_X5_between lim (0 : Int32) (1000 : Int32) (fun r1 =>
      (r1 = 0 →
        K (-2 : Int32) c x) ∧
      (¬ r1 = 0 →
        wp_X5_between u (0 : Int32) (3 : Int32) (fun r3 =>
          (¬ r3 = 0 →
            wp_X4_search lim u c x (fun r5 c5_ x5_ =>
              K r5 c5_ x5_)) ∧
          (r3 = 0 →
            K (-2 : Int32) c x))))
set_option maxHeartbeats 4000000 in
set_option maxRecDepth 100000 in
theorem snd_X5_widen {l : Launch} (lim : Int32) (u : Int32) (c : CS) (x : XT) (K : Int32 → CS → XT → Prop) (h : wp_X5_widen lim u c x K) : XM l xTX yX5_widen cX5_widen 3 (some .int) 10 [.ref 0, .int lim, .int u] (wX c x) (fun v ω' => ∃ (r : Int32) (c' : CS) (t' : XT), v = some (.int r) ∧ ω' = wX c' t' ∧ K r c' t') := by
    refine XM.of (by decide) (Nat.le_of_ble_eq_true rfl) (fun κ hQ => ?_)
    show Wat κ 0 [(0, .ref 0), (1, .int lim), (2, .int u)] [] (wX c x)
    unfold wp_X5_widen at h
    refine xr_iload_n (pc := 0) κ 1 (x := lim) dX5_widen_0 rfl rfl ?_
    refine xr_iconst (pc := 1) κ (v := 0) dX5_widen_1 (by decide) ?_
    refine xr_sipush (pc := 2) κ (v := 1000) dX5_widen_2 (by decide) ?_
    refine xr_callS (pc := 5) κ [.int lim, .int (0 : Int32), .int (1000 : Int32)] kw_1_205 tg_X5_between (snd_X5_between _ _ _ _ h) rfl (by decide) (by decide) (Nat.le_of_ble_eq_true rfl) dX5_widen_5 (fun v9 ω9 hk9 => ?_)
    obtain ⟨r1, rfl, e9, h⟩ := hk9
    rw [e9]
    show Wat κ 8 [(0, .ref 0), (1, .int lim), (2, .int u)] [.int r1] (wX c x)
    refine xr_if_eq (pc := 8) κ (tgt := 20) dX5_widen_8 (by decide) (fun c2 => ?_) (fun c2 => ?_)
    · have h := h.1 c2
      refine xr_bipush (pc := 20) κ (v := -2) dX5_widen_20 (by decide) ?_
      exact xr_iret (pc := 22) κ _ hQ dX5_widen_22 ⟨_, _, _, rfl, rfl, h⟩
    · have h := h.2 c2
      refine xr_iload_n (pc := 11) κ 2 (x := u) dX5_widen_11 rfl rfl ?_
      refine xr_iconst (pc := 12) κ (v := 0) dX5_widen_12 (by decide) ?_
      refine xr_iconst (pc := 13) κ (v := 3) dX5_widen_13 (by decide) ?_
      refine xr_callS (pc := 14) κ [.int u, .int (0 : Int32), .int (3 : Int32)] kw_1_205 tg_X5_between (snd_X5_between _ _ _ _ h) rfl (by decide) (by decide) (Nat.le_of_ble_eq_true rfl) dX5_widen_14 (fun v9 ω9 hk9 => ?_)
      obtain ⟨r3, rfl, e9, h⟩ := hk9
      rw [e9]
      show Wat κ 17 [(0, .ref 0), (1, .int lim), (2, .int u)] [.int r3] (wX c x)
      refine xr_if_ne (pc := 17) κ (tgt := 23) dX5_widen_17 (by decide) (fun c4 => ?_) (fun c4 => ?_)
      · have h := h.1 c4
        refine xr_aload_n (pc := 23) κ 0 (x := 0) dX5_widen_23 rfl rfl ?_
        refine xr_get (pc := 24) κ xc5 (k := 0) (f := 4) (v := .ref 33) kw_1_186 (by decide) rfl (by decide) rfl dX5_widen_24 ?_
        refine xr_aload_n (pc := 27) κ 0 (x := 0) dX5_widen_27 rfl rfl ?_
        refine xr_get (pc := 28) κ xc5 (k := 0) (f := 0) (v := .ref 1) kw_1_182 (by decide) rfl (by decide) rfl dX5_widen_28 ?_
        refine xr_iload_n (pc := 31) κ 1 (x := lim) dX5_widen_31 rfl rfl ?_
        refine xr_iload_n (pc := 32) κ 2 (x := u) dX5_widen_32 rfl rfl ?_
        refine xr_callVN (pc := 33) κ [.ref 1, .int lim, .int u] kw_2_169 tg_X4_search (snd_X4_search _ _ _ _ _ h) rfl (by decide) (by decide) (by decide) rfl (ci := 4) rfl rfl (Nat.le_of_ble_eq_true rfl) dX5_widen_33 (fun v9 ω9 hk9 => ?_)
        obtain ⟨r5, c5_, x5_, rfl, rfl, h⟩ := hk9
        skip
        show Wat κ 36 [(0, .ref 0), (1, .int lim), (2, .int u)] [.int r5] (wX c5_ x5_)
        exact xr_iret (pc := 36) κ _ hQ dX5_widen_36 ⟨_, _, _, rfl, rfl, h⟩
      · have h := h.2 c4
        refine xr_bipush (pc := 20) κ (v := -2) dX5_widen_20 (by decide) ?_
        exact xr_iret (pc := 22) κ _ hQ dX5_widen_22 ⟨_, _, _, rfl, rfl, h⟩
-- ChipVolts.widened(III)I, level 10
def wp_X5_widened (lim : Int32) (u : Int32) (w : Int32) (c : CS) (x : XT) (K : Int32 → CS → XT → Prop) : Prop :=
    wp_X5_between lim (0 : Int32) (1000 : Int32) (fun r1 =>
      (r1 = 0 →
        K (-2 : Int32) c x) ∧
      (¬ r1 = 0 →
        wp_X5_between u (0 : Int32) (3 : Int32) (fun r3 =>
          (r3 = 0 →
            K (-2 : Int32) c x) ∧
          (¬ r3 = 0 →
            wp_X2_isWire w c x (fun r5 c5_ x5_ =>
              (¬ r5 = 0 →
                wp_X4_search lim u c5_ x5_ (fun r7 c7_ x7_ =>
                  (0 ≤ r7 →
                    vp_in w 12 ∧
                    K (x_bestRow x7_ w.toNatClampNeg) c7_ x7_) ∧
                  (¬ 0 ≤ r7 →
                    K r7 c7_ x7_))) ∧
              (r5 = 0 →
                K (-2 : Int32) c5_ x5_))))))
set_option maxHeartbeats 4000000 in
set_option maxRecDepth 100000 in
theorem snd_X5_widened {l : Launch} (lim : Int32) (u : Int32) (w : Int32) (c : CS) (x : XT) (K : Int32 → CS → XT → Prop) (h : wp_X5_widened lim u w c x K) : XM l xTX yX5_widened cX5_widened 5 (some .int) 10 [.ref 0, .int lim, .int u, .int w] (wX c x) (fun v ω' => ∃ (r : Int32) (c' : CS) (t' : XT), v = some (.int r) ∧ ω' = wX c' t' ∧ K r c' t') := by
    refine XM.of (by decide) (Nat.le_of_ble_eq_true rfl) (fun κ hQ => ?_)
    show Wat κ 0 [(0, .ref 0), (1, .int lim), (2, .int u), (3, .int w)] [] (wX c x)
    unfold wp_X5_widened at h
    refine xr_iload_n (pc := 0) κ 1 (x := lim) dX5_widened_0 rfl rfl ?_
    refine xr_iconst (pc := 1) κ (v := 0) dX5_widened_1 (by decide) ?_
    refine xr_sipush (pc := 2) κ (v := 1000) dX5_widened_2 (by decide) ?_
    refine xr_callS (pc := 5) κ [.int lim, .int (0 : Int32), .int (1000 : Int32)] kw_1_205 tg_X5_between (snd_X5_between _ _ _ _ h) rfl (by decide) (by decide) (Nat.le_of_ble_eq_true rfl) dX5_widened_5 (fun v9 ω9 hk9 => ?_)
    obtain ⟨r1, rfl, e9, h⟩ := hk9
    rw [e9]
    show Wat κ 8 [(0, .ref 0), (1, .int lim), (2, .int u), (3, .int w)] [.int r1] (wX c x)
    refine xr_if_eq (pc := 8) κ (tgt := 31) dX5_widened_8 (by decide) (fun c2 => ?_) (fun c2 => ?_)
    · have h := h.1 c2
      refine xr_bipush (pc := 31) κ (v := -2) dX5_widened_31 (by decide) ?_
      exact xr_iret (pc := 33) κ _ hQ dX5_widened_33 ⟨_, _, _, rfl, rfl, h⟩
    · have h := h.2 c2
      refine xr_iload_n (pc := 11) κ 2 (x := u) dX5_widened_11 rfl rfl ?_
      refine xr_iconst (pc := 12) κ (v := 0) dX5_widened_12 (by decide) ?_
      refine xr_iconst (pc := 13) κ (v := 3) dX5_widened_13 (by decide) ?_
      refine xr_callS (pc := 14) κ [.int u, .int (0 : Int32), .int (3 : Int32)] kw_1_205 tg_X5_between (snd_X5_between _ _ _ _ h) rfl (by decide) (by decide) (Nat.le_of_ble_eq_true rfl) dX5_widened_14 (fun v9 ω9 hk9 => ?_)
      obtain ⟨r3, rfl, e9, h⟩ := hk9
      rw [e9]
      show Wat κ 17 [(0, .ref 0), (1, .int lim), (2, .int u), (3, .int w)] [.int r3] (wX c x)
      refine xr_if_eq (pc := 17) κ (tgt := 31) dX5_widened_17 (by decide) (fun c4 => ?_) (fun c4 => ?_)
      · have h := h.1 c4
        refine xr_bipush (pc := 31) κ (v := -2) dX5_widened_31 (by decide) ?_
        exact xr_iret (pc := 33) κ _ hQ dX5_widened_33 ⟨_, _, _, rfl, rfl, h⟩
      · have h := h.2 c4
        refine xr_aload_n (pc := 20) κ 0 (x := 0) dX5_widened_20 rfl rfl ?_
        refine xr_get (pc := 21) κ xc5 (k := 0) (f := 0) (v := .ref 1) kw_1_182 (by decide) rfl (by decide) rfl dX5_widened_21 ?_
        refine xr_iload_n (pc := 24) κ 3 (x := w) dX5_widened_24 rfl rfl ?_
        refine xr_callVN (pc := 25) κ [.int w] kw_1_232 tg_X2_isWire (snd_X2_isWire _ _ _ _ h) rfl (by decide) (by decide) (by decide) rfl (ci := 2) rfl rfl (Nat.le_of_ble_eq_true rfl) dX5_widened_25 (fun v9 ω9 hk9 => ?_)
        obtain ⟨r5, c5_, x5_, rfl, rfl, h⟩ := hk9
        skip
        show Wat κ 28 [(0, .ref 0), (1, .int lim), (2, .int u), (3, .int w)] [.int r5] (wX c5_ x5_)
        refine xr_if_ne (pc := 28) κ (tgt := 34) dX5_widened_28 (by decide) (fun c6 => ?_) (fun c6 => ?_)
        · have h := h.1 c6
          refine xr_aload_n (pc := 34) κ 0 (x := 0) dX5_widened_34 rfl rfl ?_
          refine xr_get (pc := 35) κ xc5 (k := 0) (f := 4) (v := .ref 33) kw_1_186 (by decide) rfl (by decide) rfl dX5_widened_35 ?_
          refine xr_aload_n (pc := 38) κ 0 (x := 0) dX5_widened_38 rfl rfl ?_
          refine xr_get (pc := 39) κ xc5 (k := 0) (f := 0) (v := .ref 1) kw_1_182 (by decide) rfl (by decide) rfl dX5_widened_39 ?_
          refine xr_iload_n (pc := 42) κ 1 (x := lim) dX5_widened_42 rfl rfl ?_
          refine xr_iload_n (pc := 43) κ 2 (x := u) dX5_widened_43 rfl rfl ?_
          refine xr_callVN (pc := 44) κ [.ref 1, .int lim, .int u] kw_2_169 tg_X4_search (snd_X4_search _ _ _ _ _ h) rfl (by decide) (by decide) (by decide) rfl (ci := 4) rfl rfl (Nat.le_of_ble_eq_true rfl) dX5_widened_44 (fun v9 ω9 hk9 => ?_)
          obtain ⟨r7, c7_, x7_, rfl, rfl, h⟩ := hk9
          skip
          show Wat κ 47 [(0, .ref 0), (1, .int lim), (2, .int u), (3, .int w)] [.int r7] (wX c7_ x7_)
          refine xr_istore (pc := 47) κ [1, 2, 3, 4, 0] (lv' := [(0, .ref 0), (1, .int lim), (2, .int u), (3, .int w), (4, .int r7)]) dX5_widened_47 (by decide) rfl ?_
          refine xr_iload (pc := 49) κ 4 (x := r7) dX5_widened_49 rfl ?_
          refine xr_if_ge (pc := 51) κ (tgt := 59) dX5_widened_51 (by decide) (fun c8 => ?_) (fun c8 => ?_)
          · have h := h.1 c8
            refine xr_aload_n (pc := 59) κ 0 (x := 0) dX5_widened_59 rfl rfl ?_
            refine xr_get (pc := 60) κ xc5 (k := 0) (f := 4) (v := .ref 33) kw_1_186 (by decide) rfl (by decide) rfl dX5_widened_60 ?_
            refine xr_getN (pc := 63) κ xc4 (k := 33) (f := 2) (v := .ref 80) kw_1_144 (by decide) rfl (by decide) rfl dX5_widened_63 ?_
            refine xr_iload_n (pc := 66) κ 3 (x := w) dX5_widened_66 rfl rfl ?_
            obtain ⟨i9, h⟩ := h
            refine xr_iald (pc := 67) κ (k := 80) (n := 12) (f := x_bestRow x7_) (by decide) rfl rfl i9 dX5_widened_67 ?_
            exact xr_iret (pc := 68) κ _ hQ dX5_widened_68 ⟨_, _, _, rfl, rfl, h⟩
          · have h := h.2 c8
            refine xr_iload (pc := 54) κ 4 (x := r7) dX5_widened_54 rfl ?_
            refine xr_goto (pc := 56) κ (tgt := 68) dX5_widened_56 (by decide) ?_
            exact xr_iret (pc := 68) κ _ hQ dX5_widened_68 ⟨_, _, _, rfl, rfl, h⟩
        · have h := h.2 c6
          refine xr_bipush (pc := 31) κ (v := -2) dX5_widened_31 (by decide) ?_
          exact xr_iret (pc := 33) κ _ hQ dX5_widened_33 ⟨_, _, _, rfl, rfl, h⟩
-- ChipVolts.woken(I)I, level 4
def wp_X5_woken (i : Int32) (c : CS) (x : XT) (K : Int32 → CS → XT → Prop) : Prop :=
    wp_X5_settled c x (fun r1 c1_ x1_ =>
      (¬ r1 = 0 →
        wp_X1_isBlock i c1_ x1_ (fun r3 c3_ x3_ =>
          (¬ r3 = 0 →
            wp_X3_search c3_ x3_ (fun c5_ x5_ =>
              vp_in i 6 ∧
              K (x_order x5_ i.toNatClampNeg) c5_ x5_)) ∧
          (r3 = 0 →
            K (-1 : Int32) c3_ x3_))) ∧
      (r1 = 0 →
        K (-3 : Int32) c1_ x1_))
set_option maxHeartbeats 4000000 in
set_option maxRecDepth 100000 in
theorem snd_X5_woken {l : Launch} (i : Int32) (c : CS) (x : XT) (K : Int32 → CS → XT → Prop) (h : wp_X5_woken i c x K) : XM l xTX yX5_woken cX5_woken 2 (some .int) 4 [.ref 0, .int i] (wX c x) (fun v ω' => ∃ (r : Int32) (c' : CS) (t' : XT), v = some (.int r) ∧ ω' = wX c' t' ∧ K r c' t') := by
    refine XM.of (by decide) (Nat.le_of_ble_eq_true rfl) (fun κ hQ => ?_)
    show Wat κ 0 [(0, .ref 0), (1, .int i)] [] (wX c x)
    unfold wp_X5_woken at h
    refine xr_aload_n (pc := 0) κ 0 (x := 0) dX5_woken_0 rfl rfl ?_
    refine xr_callV (pc := 1) κ [] kw_2_19 tg_X5_settled (snd_X5_settled  _ _ _ h) rfl (by decide) (by decide) (by decide) rfl (ci := 5) rfl rfl (Nat.le_of_ble_eq_true rfl) dX5_woken_1 (fun v9 ω9 hk9 => ?_)
    obtain ⟨r1, c1_, x1_, rfl, rfl, h⟩ := hk9
    skip
    show Wat κ 4 [(0, .ref 0), (1, .int i)] [.int r1] (wX c1_ x1_)
    refine xr_if_ne (pc := 4) κ (tgt := 10) dX5_woken_4 (by decide) (fun c2 => ?_) (fun c2 => ?_)
    · have h := h.1 c2
      refine xr_aload_n (pc := 10) κ 0 (x := 0) dX5_woken_10 rfl rfl ?_
      refine xr_get (pc := 11) κ xc5 (k := 0) (f := 1) (v := .ref 7) kw_1_183 (by decide) rfl (by decide) rfl dX5_woken_11 ?_
      refine xr_iload_n (pc := 14) κ 1 (x := i) dX5_woken_14 rfl rfl ?_
      refine xr_callVN (pc := 15) κ [.int i] kw_2_92 tg_X1_isBlock (snd_X1_isBlock _ _ _ _ h) rfl (by decide) (by decide) (by decide) rfl (ci := 1) rfl rfl (Nat.le_of_ble_eq_true rfl) dX5_woken_15 (fun v9 ω9 hk9 => ?_)
      obtain ⟨r3, c3_, x3_, rfl, rfl, h⟩ := hk9
      skip
      show Wat κ 18 [(0, .ref 0), (1, .int i)] [.int r3] (wX c3_ x3_)
      refine xr_if_ne (pc := 18) κ (tgt := 23) dX5_woken_18 (by decide) (fun c4 => ?_) (fun c4 => ?_)
      · have h := h.1 c4
        refine xr_aload_n (pc := 23) κ 0 (x := 0) dX5_woken_23 rfl rfl ?_
        refine xr_get (pc := 24) κ xc5 (k := 0) (f := 5) (v := .ref 81) kw_1_187 (by decide) rfl (by decide) rfl dX5_woken_24 ?_
        refine xr_aload_n (pc := 27) κ 0 (x := 0) dX5_woken_27 rfl rfl ?_
        refine xr_get (pc := 28) κ xc5 (k := 0) (f := 2) (v := .ref (xb 0)) kw_1_184 (by decide) rfl (by decide) rfl dX5_woken_28 ?_
        refine xr_aload_n (pc := 31) κ 0 (x := 0) dX5_woken_31 rfl rfl ?_
        refine xr_get (pc := 32) κ xc5 (k := 0) (f := 1) (v := .ref 7) kw_1_183 (by decide) rfl (by decide) rfl dX5_woken_32 ?_
        refine xr_callVN (pc := 35) κ [.ref (xb 0), .ref 7] kw_2_210 tg_X3_search (snd_X3_search  _ _ _ h) rfl (by decide) (by decide) (by decide) rfl (ci := 3) rfl rfl (Nat.le_of_ble_eq_true rfl) dX5_woken_35 (fun v9 ω9 hk9 => ?_)
        obtain ⟨c5_, x5_, rfl, rfl, h⟩ := hk9
        skip
        show Wat κ 38 [(0, .ref 0), (1, .int i)] [] (wX c5_ x5_)
        refine xr_aload_n (pc := 38) κ 0 (x := 0) dX5_woken_38 rfl rfl ?_
        refine xr_get (pc := 39) κ xc5 (k := 0) (f := 5) (v := .ref 81) kw_1_187 (by decide) rfl (by decide) rfl dX5_woken_39 ?_
        refine xr_getN (pc := 42) κ xc3 (k := 81) (f := 2) (v := .ref 84) kw_1_174 (by decide) rfl (by decide) rfl dX5_woken_42 ?_
        refine xr_iload_n (pc := 45) κ 1 (x := i) dX5_woken_45 rfl rfl ?_
        obtain ⟨i6, h⟩ := h
        refine xr_iald (pc := 46) κ (k := 84) (n := 6) (f := x_order x5_) (by decide) rfl rfl i6 dX5_woken_46 ?_
        exact xr_iret (pc := 47) κ _ hQ dX5_woken_47 ⟨_, _, _, rfl, rfl, h⟩
      · have h := h.2 c4
        refine xr_iconst (pc := 21) κ (v := -1) dX5_woken_21 (by decide) ?_
        exact xr_iret (pc := 22) κ _ hQ dX5_woken_22 ⟨_, _, _, rfl, rfl, h⟩
    · have h := h.2 c2
      refine xr_bipush (pc := 7) κ (v := -3) dX5_woken_7 (by decide) ?_
      exact xr_iret (pc := 9) κ _ hQ dX5_woken_9 ⟨_, _, _, rfl, rfl, h⟩
-- ChipVolts.wokenFall(I)J, level 4
def wp_X5_wokenFall (what : Int32) (c : CS) (x : XT) (K : Int64 → CS → XT → Prop) : Prop :=
    wp_X5_isPart what (fun r1 =>
      (¬ r1 = 0 →
        wp_X5_settled c x (fun r3 c3_ x3_ =>
          (¬ r3 = 0 →
            wp_X3_search c3_ x3_ (fun c5_ x5_ =>
              vp_in (0 : Int32) 64 ∧
              wp_X5_part (x_least x5_ (((0 : Int32)).toNatClampNeg)) (b_below (x_bal x5_ 0)) what (fun r7 =>
                K r7 c5_ x5_))) ∧
          (r3 = 0 →
            K (-3 : Int64) c3_ x3_))) ∧
      (r1 = 0 →
        K (-2 : Int64) c x))
set_option maxHeartbeats 4000000 in
set_option maxRecDepth 100000 in
theorem snd_X5_wokenFall {l : Launch} (what : Int32) (c : CS) (x : XT) (K : Int64 → CS → XT → Prop) (h : wp_X5_wokenFall what c x K) : XM l xTX yX5_wokenFall cX5_wokenFall 2 (some .long) 4 [.ref 0, .int what] (wX c x) (fun v ω' => ∃ (r : Int64) (c' : CS) (t' : XT), v = some (.long r) ∧ ω' = wX c' t' ∧ K r c' t') := by
    refine XM.of (by decide) (Nat.le_of_ble_eq_true rfl) (fun κ hQ => ?_)
    show Wat κ 0 [(0, .ref 0), (1, .int what)] [] (wX c x)
    unfold wp_X5_wokenFall at h
    refine xr_iload_n (pc := 0) κ 1 (x := what) dX5_wokenFall_0 rfl rfl ?_
    refine xr_callS (pc := 1) κ [.int what] kw_2_15 tg_X5_isPart (snd_X5_isPart _ _ h) rfl (by decide) (by decide) (Nat.le_of_ble_eq_true rfl) dX5_wokenFall_1 (fun v9 ω9 hk9 => ?_)
    obtain ⟨r1, rfl, e9, h⟩ := hk9
    rw [e9]
    show Wat κ 4 [(0, .ref 0), (1, .int what)] [.int r1] (wX c x)
    refine xr_if_ne (pc := 4) κ (tgt := 11) dX5_wokenFall_4 (by decide) (fun c2 => ?_) (fun c2 => ?_)
    · have h := h.1 c2
      refine xr_aload_n (pc := 11) κ 0 (x := 0) dX5_wokenFall_11 rfl rfl ?_
      refine xr_callV (pc := 12) κ [] kw_2_19 tg_X5_settled (snd_X5_settled  _ _ _ h) rfl (by decide) (by decide) (by decide) rfl (ci := 5) rfl rfl (Nat.le_of_ble_eq_true rfl) dX5_wokenFall_12 (fun v9 ω9 hk9 => ?_)
      obtain ⟨r3, c3_, x3_, rfl, rfl, h⟩ := hk9
      skip
      show Wat κ 15 [(0, .ref 0), (1, .int what)] [.int r3] (wX c3_ x3_)
      refine xr_if_ne (pc := 15) κ (tgt := 22) dX5_wokenFall_15 (by decide) (fun c4 => ?_) (fun c4 => ?_)
      · have h := h.1 c4
        refine xr_aload_n (pc := 22) κ 0 (x := 0) dX5_wokenFall_22 rfl rfl ?_
        refine xr_get (pc := 23) κ xc5 (k := 0) (f := 5) (v := .ref 81) kw_1_187 (by decide) rfl (by decide) rfl dX5_wokenFall_23 ?_
        refine xr_aload_n (pc := 26) κ 0 (x := 0) dX5_wokenFall_26 rfl rfl ?_
        refine xr_get (pc := 27) κ xc5 (k := 0) (f := 2) (v := .ref (xb 0)) kw_1_184 (by decide) rfl (by decide) rfl dX5_wokenFall_27 ?_
        refine xr_aload_n (pc := 30) κ 0 (x := 0) dX5_wokenFall_30 rfl rfl ?_
        refine xr_get (pc := 31) κ xc5 (k := 0) (f := 1) (v := .ref 7) kw_1_183 (by decide) rfl (by decide) rfl dX5_wokenFall_31 ?_
        refine xr_callVN (pc := 34) κ [.ref (xb 0), .ref 7] kw_2_210 tg_X3_search (snd_X3_search  _ _ _ h) rfl (by decide) (by decide) (by decide) rfl (ci := 3) rfl rfl (Nat.le_of_ble_eq_true rfl) dX5_wokenFall_34 (fun v9 ω9 hk9 => ?_)
        obtain ⟨c5_, x5_, rfl, rfl, h⟩ := hk9
        skip
        show Wat κ 37 [(0, .ref 0), (1, .int what)] [] (wX c5_ x5_)
        refine xr_aload_n (pc := 37) κ 0 (x := 0) dX5_wokenFall_37 rfl rfl ?_
        refine xr_get (pc := 38) κ xc5 (k := 0) (f := 5) (v := .ref 81) kw_1_187 (by decide) rfl (by decide) rfl dX5_wokenFall_38 ?_
        refine xr_getN (pc := 41) κ xc3 (k := 81) (f := 0) (v := .ref 82) kw_1_171 (by decide) rfl (by decide) rfl dX5_wokenFall_41 ?_
        refine xr_iconst (pc := 44) κ (v := 0) dX5_wokenFall_44 (by decide) ?_
        obtain ⟨i6, h⟩ := h
        refine xr_lald (pc := 45) κ (k := 82) (n := 64) (f := x_least x5_) (by decide) rfl rfl i6 dX5_wokenFall_45 ?_
        refine xr_aload_n (pc := 46) κ 0 (x := 0) dX5_wokenFall_46 rfl rfl ?_
        refine xr_get (pc := 47) κ xc5 (k := 0) (f := 2) (v := .ref (xb 0)) kw_1_184 (by decide) rfl (by decide) rfl dX5_wokenFall_47 ?_
        refine xr_getN (pc := 50) κ xc0 (k := (xb 0)) (f := 1) (v := .long (b_below (x_bal x5_ 0))) kw_1_112 (xb_lt (j := 0) (by decide) (by decide)) (wXb_obj _ _ (by decide)) (by decide) rfl dX5_wokenFall_50 ?_
        refine xr_iload_n (pc := 53) κ 1 (x := what) dX5_wokenFall_53 rfl rfl ?_
        refine xr_callS (pc := 54) κ [.long (x_least x5_ (((0 : Int32)).toNatClampNeg)), .long (b_below (x_bal x5_ 0)), .int what] kw_2_49 tg_X5_part (snd_X5_part _ _ _ _ h) rfl (by decide) (by decide) (Nat.le_of_ble_eq_true rfl) dX5_wokenFall_54 (fun v9 ω9 hk9 => ?_)
        obtain ⟨r7, rfl, e9, h⟩ := hk9
        rw [e9]
        show Wat κ 57 [(0, .ref 0), (1, .int what)] [.long r7] (wX c5_ x5_)
        exact xr_lret (pc := 57) κ _ hQ dX5_wokenFall_57 ⟨_, _, _, rfl, rfl, h⟩
      · have h := h.2 c4
        refine xr_ldc2 (pc := 18) κ (v := -3) kw_2_48 dX5_wokenFall_18 ?_
        exact xr_lret (pc := 21) κ _ hQ dX5_wokenFall_21 ⟨_, _, _, rfl, rfl, h⟩
    · have h := h.2 c2
      refine xr_ldc2 (pc := 7) κ (v := -2) kw_2_18 dX5_wokenFall_7 ?_
      exact xr_lret (pc := 10) κ _ hQ dX5_wokenFall_10 ⟨_, _, _, rfl, rfl, h⟩
-- ChipVolts.count(I)I, level 4
def wp_X5_count (what : Int32) (c : CS) (x : XT) (K : Int32 → CS → XT → Prop) : Prop :=
    (what = nI 0 →
      K (c_n c) c x) ∧
    (what = nI 1 →
      K (c_wires c) c x) ∧
    (what = nI 2 →
      wp_J6_bitCount_0f7a4 (c_pads c) (fun r2 =>
        K r2 c x)) ∧
    (what = nI 3 →
      K (c_nb c) c x) ∧
    (what = nI 4 →
      K (c_budget c) c x) ∧
    (what = nI 5 →
      wp_X5_settled c x (fun r3 c3_ x3_ =>
        (r3 = 0 →
          K (0 : Int32) c3_ x3_) ∧
        (¬ r3 = 0 →
          K (1 : Int32) c3_ x3_))) ∧
    ((∀ j : Nat, j < 6 → ¬ what = nI j) →
      K (-2 : Int32) c x)
set_option maxHeartbeats 4000000 in
set_option maxRecDepth 100000 in
theorem snd_X5_count {l : Launch} (what : Int32) (c : CS) (x : XT) (K : Int32 → CS → XT → Prop) (h : wp_X5_count what c x K) : XM l xTX yX5_count cX5_count 2 (some .int) 4 [.ref 0, .int what] (wX c x) (fun v ω' => ∃ (r : Int32) (c' : CS) (t' : XT), v = some (.int r) ∧ ω' = wX c' t' ∧ K r c' t') := by
    refine XM.of (by decide) (Nat.le_of_ble_eq_true rfl) (fun κ hQ => ?_)
    show Wat κ 0 [(0, .ref 0), (1, .int what)] [] (wX c x)
    unfold wp_X5_count at h
    refine xr_iload_n (pc := 0) κ 1 (x := what) dX5_count_0 rfl rfl ?_
    refine xr_tsw (pc := 1) κ 6 (fun j => [40, 48, 56, 67, 75, 83].getD j 0) 96 dX5_count_1 (by decide) (by decide) (by decide) (by decide) (fun j hj ej => ?_) (fun c1 => ?_)
    rotate_left
    · have h := h.2.2.2.2.2.2 c1
      refine xr_bipush (pc := 96) κ (v := -2) dX5_count_96 (by decide) ?_
      exact xr_iret (pc := 98) κ _ hQ dX5_count_98 ⟨_, _, _, rfl, rfl, h⟩
    rcases (show j = 0 ∨ j = 1 ∨ j = 2 ∨ j = 3 ∨ j = 4 ∨ j = 5 by omega) with rfl | rfl | rfl | rfl | rfl | rfl
    · have h := h.1 ej
      refine xr_aload_n (pc := 40) κ 0 (x := 0) dX5_count_40 rfl rfl ?_
      refine xr_get (pc := 41) κ xc5 (k := 0) (f := 0) (v := .ref 1) kw_1_182 (by decide) rfl (by decide) rfl dX5_count_41 ?_
      refine xr_getN (pc := 44) κ xc2 (k := 1) (f := 0) (v := .int (c_n c)) kw_1_27 (by decide) rfl (by decide) rfl dX5_count_44 ?_
      exact xr_iret (pc := 47) κ _ hQ dX5_count_47 ⟨_, _, _, rfl, rfl, h⟩
    · have h := h.2.1 ej
      refine xr_aload_n (pc := 48) κ 0 (x := 0) dX5_count_48 rfl rfl ?_
      refine xr_get (pc := 49) κ xc5 (k := 0) (f := 0) (v := .ref 1) kw_1_182 (by decide) rfl (by decide) rfl dX5_count_49 ?_
      refine xr_getN (pc := 52) κ xc2 (k := 1) (f := 1) (v := .int (c_wires c)) kw_1_30 (by decide) rfl (by decide) rfl dX5_count_52 ?_
      exact xr_iret (pc := 55) κ _ hQ dX5_count_55 ⟨_, _, _, rfl, rfl, h⟩
    · have h := h.2.2.1 ej
      refine xr_aload_n (pc := 56) κ 0 (x := 0) dX5_count_56 rfl rfl ?_
      refine xr_get (pc := 57) κ xc5 (k := 0) (f := 0) (v := .ref 1) kw_1_182 (by decide) rfl (by decide) rfl dX5_count_57 ?_
      refine xr_getN (pc := 60) κ xc2 (k := 1) (f := 2) (v := .int (c_pads c)) kw_1_34 (by decide) rfl (by decide) rfl dX5_count_60 ?_
      refine xr_callS (pc := 63) κ [.int (c_pads c)] kw_2_159 tg_J6_bitCount_0f7a4 (snd_J6_bitCount_0f7a4 _ _ h) rfl (by decide) (by decide) (Nat.le_of_ble_eq_true rfl) dX5_count_63 (fun v9 ω9 hk9 => ?_)
      obtain ⟨r2, rfl, e9, h⟩ := hk9
      rw [e9]
      show Wat κ 66 [(0, .ref 0), (1, .int what)] [.int r2] (wX c x)
      exact xr_iret (pc := 66) κ _ hQ dX5_count_66 ⟨_, _, _, rfl, rfl, h⟩
    · have h := h.2.2.2.1 ej
      refine xr_aload_n (pc := 67) κ 0 (x := 0) dX5_count_67 rfl rfl ?_
      refine xr_get (pc := 68) κ xc5 (k := 0) (f := 1) (v := .ref 7) kw_1_183 (by decide) rfl (by decide) rfl dX5_count_68 ?_
      refine xr_getN (pc := 71) κ xc1 (k := 7) (f := 0) (v := .int (c_nb c)) kw_1_79 (by decide) rfl (by decide) rfl dX5_count_71 ?_
      exact xr_iret (pc := 74) κ _ hQ dX5_count_74 ⟨_, _, _, rfl, rfl, h⟩
    · have h := h.2.2.2.2.1 ej
      refine xr_aload_n (pc := 75) κ 0 (x := 0) dX5_count_75 rfl rfl ?_
      refine xr_get (pc := 76) κ xc5 (k := 0) (f := 1) (v := .ref 7) kw_1_183 (by decide) rfl (by decide) rfl dX5_count_76 ?_
      refine xr_getN (pc := 79) κ xc1 (k := 7) (f := 1) (v := .int (c_budget c)) kw_1_81 (by decide) rfl (by decide) rfl dX5_count_79 ?_
      exact xr_iret (pc := 82) κ _ hQ dX5_count_82 ⟨_, _, _, rfl, rfl, h⟩
    · have h := h.2.2.2.2.2.1 ej
      refine xr_aload_n (pc := 83) κ 0 (x := 0) dX5_count_83 rfl rfl ?_
      refine xr_callV (pc := 84) κ [] kw_2_19 tg_X5_settled (snd_X5_settled  _ _ _ h) rfl (by decide) (by decide) (by decide) rfl (ci := 5) rfl rfl (Nat.le_of_ble_eq_true rfl) dX5_count_84 (fun v9 ω9 hk9 => ?_)
      obtain ⟨r3, c3_, x3_, rfl, rfl, h⟩ := hk9
      skip
      show Wat κ 87 [(0, .ref 0), (1, .int what)] [.int r3] (wX c3_ x3_)
      refine xr_if_eq (pc := 87) κ (tgt := 94) dX5_count_87 (by decide) (fun c4 => ?_) (fun c4 => ?_)
      · have h := h.1 c4
        refine xr_iconst (pc := 94) κ (v := 0) dX5_count_94 (by decide) ?_
        exact xr_iret (pc := 95) κ _ hQ dX5_count_95 ⟨_, _, _, rfl, rfl, h⟩
      · have h := h.2 c4
        refine xr_iconst (pc := 90) κ (v := 1) dX5_count_90 (by decide) ?_
        refine xr_goto (pc := 91) κ (tgt := 95) dX5_count_91 (by decide) ?_
        exact xr_iret (pc := 95) κ _ hQ dX5_count_95 ⟨_, _, _, rfl, rfl, h⟩
-- ChipVolts.digestOfKnots(J)J, level 4
def nd_X5_digestOfKnots_147 (K : Int64 → CS → XT → Prop) (L11 : Int32 → Int64 → Int32 → CS → XT → Prop) (v3 : Int32) (v6 : Int32) (s0 : Int64) (s1 : Int64) (c : CS) (x : XT) : Prop :=
    L11 v3 (s1 + s0) (v6 + 1) c x
set_option maxHeartbeats 4000000 in
set_option maxRecDepth 100000 in
theorem snd_X5_digestOfKnots_147 {l : Launch} (κ : XC l xTX cX5_digestOfKnots yX5_digestOfKnots.cls 7 (some .long) 4) (K : Int64 → CS → XT → Prop) (hQ : xRet κ (fun v ω' => ∃ (r : Int64) (c' : CS) (t' : XT), v = some (.long r) ∧ ω' = wX c' t' ∧ K r c' t')) (L11 : Int32 → Int64 → Int32 → CS → XT → Prop) (hL11 : ∀ (v3 : Int32) (v4 : Int64) (v6 : Int32) (c : CS) (x : XT), L11 v3 v4 v6 c x → Wat κ 11 [(0, .ref 0), (3, .int v3), (4, .long v4), (6, .int v6)] [] (wX c x)) (v3 : Int32) (v6 : Int32) (s0 : Int64) (s1 : Int64) (c : CS) (x : XT) (h : nd_X5_digestOfKnots_147 K L11 v3 v6 s0 s1 c x) : Wat κ 147 [(0, .ref 0), (3, .int v3), (6, .int v6)] [.long s0, .long s1] (wX c x) := by
    unfold nd_X5_digestOfKnots_147 at h
    refine xr_ladd (pc := 147) κ dX5_digestOfKnots_147 ?_
    refine xr_lstore (pc := 148) κ [1, 2, 0, 3] (lv' := [(0, .ref 0), (3, .int v3), (4, .long (s1 + s0)), (6, .int v6)]) dX5_digestOfKnots_148 (by decide) rfl ?_
    refine xr_iinc (pc := 150) κ 3 [1, 2, 3, 0] (lv' := [(0, .ref 0), (3, .int v3), (4, .long (s1 + s0)), (6, .int (v6 + 1))]) (x := v6) (v := v6 + 1) dX5_digestOfKnots_150 rfl rfl (by decide) rfl ?_
    refine xr_goto (pc := 153) κ (tgt := 11) dX5_digestOfKnots_153 (by decide) ?_
    exact hL11 _ _ _ _ _ h
def nd_X5_digestOfKnots_107 (K : Int64 → CS → XT → Prop) (L11 : Int32 → Int64 → Int32 → CS → XT → Prop) (v3 : Int32) (v6 : Int32) (s0 : Int64) (s1 : Int64) (c : CS) (x : XT) : Prop :=
    (v3 = 0 →
      nd_X5_digestOfKnots_147 K L11 v3 v6 (-3 : Int64) ((31 : Int64) * (s1 + s0)) c x) ∧
    (¬ v3 = 0 →
      vp_in v6 7 ∧
      wp_X5_part (b_above (x_bal x 0) v6.toNatClampNeg) (b_below (x_bal x 0)) (1 : Int32) (fun r9 =>
        nd_X5_digestOfKnots_147 K L11 v3 v6 r9 ((31 : Int64) * (s1 + s0)) c x))
set_option maxHeartbeats 4000000 in
set_option maxRecDepth 100000 in
theorem snd_X5_digestOfKnots_107 {l : Launch} (κ : XC l xTX cX5_digestOfKnots yX5_digestOfKnots.cls 7 (some .long) 4) (K : Int64 → CS → XT → Prop) (hQ : xRet κ (fun v ω' => ∃ (r : Int64) (c' : CS) (t' : XT), v = some (.long r) ∧ ω' = wX c' t' ∧ K r c' t')) (L11 : Int32 → Int64 → Int32 → CS → XT → Prop) (hL11 : ∀ (v3 : Int32) (v4 : Int64) (v6 : Int32) (c : CS) (x : XT), L11 v3 v4 v6 c x → Wat κ 11 [(0, .ref 0), (3, .int v3), (4, .long v4), (6, .int v6)] [] (wX c x)) (v3 : Int32) (v6 : Int32) (s0 : Int64) (s1 : Int64) (c : CS) (x : XT) (h : nd_X5_digestOfKnots_107 K L11 v3 v6 s0 s1 c x) : Wat κ 107 [(0, .ref 0), (3, .int v3), (6, .int v6)] [.long s0, .long s1] (wX c x) := by
    unfold nd_X5_digestOfKnots_107 at h
    refine xr_ladd (pc := 107) κ dX5_digestOfKnots_107 ?_
    refine xr_lstore (pc := 108) κ [1, 2, 0, 3] (lv' := [(0, .ref 0), (3, .int v3), (4, .long (s1 + s0)), (6, .int v6)]) dX5_digestOfKnots_108 (by decide) rfl ?_
    refine xr_ldc2 (pc := 110) κ (v := 31) kw_3_11 dX5_digestOfKnots_110 ?_
    refine xr_lload (pc := 113) κ 2 (x := (s1 + s0)) dX5_digestOfKnots_113 rfl ?_
    refine xr_lmul (pc := 115) κ dX5_digestOfKnots_115 ?_
    refine xr_iload_n (pc := 116) κ 1 (x := v3) dX5_digestOfKnots_116 rfl rfl ?_
    refine xr_if_eq (pc := 117) κ (tgt := 144) dX5_digestOfKnots_117 (by decide) (fun c7 => ?_) (fun c7 => ?_)
    · have h := h.1 c7
      refine xr_ldc2 (pc := 144) κ (v := -3) kw_2_48 dX5_digestOfKnots_144 ?_
      refine xr_sub (pc := 147) κ [0, 1, 3] (lv' := [(0, .ref 0), (3, .int v3), (6, .int v6)]) rfl ?_
      exact snd_X5_digestOfKnots_147 κ K hQ _ hL11 _ _ _ _ _ _ h
    · have h := h.2 c7
      refine xr_aload_n (pc := 120) κ 0 (x := 0) dX5_digestOfKnots_120 rfl rfl ?_
      refine xr_get (pc := 121) κ xc5 (k := 0) (f := 2) (v := .ref (xb 0)) kw_1_184 (by decide) rfl (by decide) rfl dX5_digestOfKnots_121 ?_
      refine xr_getN (pc := 124) κ xc0 (k := (xb 0)) (f := 3) (v := .ref (xb 0 + 9)) kw_1_118 (xb_lt (j := 0) (by decide) (by decide)) (wXb_obj _ _ (by decide)) (by decide) rfl dX5_digestOfKnots_124 ?_
      refine xr_iload (pc := 127) κ 3 (x := v6) dX5_digestOfKnots_127 rfl ?_
      obtain ⟨i8, h⟩ := h
      refine xr_lald (pc := 129) κ (k := (xb 0 + 9)) (n := 7) (f := b_above (x_bal x 0)) (xb_lt (j := 9) (by decide) (by decide)) (xTX_long (j := 9) (by decide) (by decide) (by decide)) (wXb_above _ _ (by decide)) i8 dX5_digestOfKnots_129 ?_
      refine xr_aload_n (pc := 130) κ 0 (x := 0) dX5_digestOfKnots_130 rfl rfl ?_
      refine xr_get (pc := 131) κ xc5 (k := 0) (f := 2) (v := .ref (xb 0)) kw_1_184 (by decide) rfl (by decide) rfl dX5_digestOfKnots_131 ?_
      refine xr_getN (pc := 134) κ xc0 (k := (xb 0)) (f := 1) (v := .long (b_below (x_bal x 0))) kw_1_112 (xb_lt (j := 0) (by decide) (by decide)) (wXb_obj _ _ (by decide)) (by decide) rfl dX5_digestOfKnots_134 ?_
      refine xr_iconst (pc := 137) κ (v := 1) dX5_digestOfKnots_137 (by decide) ?_
      refine xr_callS (pc := 138) κ [.long (b_above (x_bal x 0) v6.toNatClampNeg), .long (b_below (x_bal x 0)), .int (1 : Int32)] kw_2_49 tg_X5_part (snd_X5_part _ _ _ _ h) rfl (by decide) (by decide) (Nat.le_of_ble_eq_true rfl) dX5_digestOfKnots_138 (fun v9 ω9 hk9 => ?_)
      obtain ⟨r9, rfl, e9, h⟩ := hk9
      rw [e9]
      show Wat κ 141 [(0, .ref 0), (3, .int v3), (4, .long (s1 + s0)), (6, .int v6)] [.long r9, .long ((31 : Int64) * (s1 + s0))] (wX c x)
      refine xr_goto (pc := 141) κ (tgt := 147) dX5_digestOfKnots_141 (by decide) ?_
      refine xr_sub (pc := 147) κ [0, 1, 3] (lv' := [(0, .ref 0), (3, .int v3), (6, .int v6)]) rfl ?_
      exact snd_X5_digestOfKnots_147 κ K hQ _ hL11 _ _ _ _ _ _ h
def nd_X5_digestOfKnots_66 (K : Int64 → CS → XT → Prop) (L11 : Int32 → Int64 → Int32 → CS → XT → Prop) (v3 : Int32) (v6 : Int32) (s0 : Int32) (s1 : Int64) (c : CS) (x : XT) : Prop :=
    (v3 = 0 →
      nd_X5_digestOfKnots_107 K L11 v3 v6 (-3 : Int64) ((31 : Int64) * (s1 + (Int32.toInt64 s0))) c x) ∧
    (¬ v3 = 0 →
      vp_in v6 7 ∧
      wp_X5_part (b_above (x_bal x 0) v6.toNatClampNeg) (b_below (x_bal x 0)) (0 : Int32) (fun r11 =>
        nd_X5_digestOfKnots_107 K L11 v3 v6 r11 ((31 : Int64) * (s1 + (Int32.toInt64 s0))) c x))
set_option maxHeartbeats 4000000 in
set_option maxRecDepth 100000 in
theorem snd_X5_digestOfKnots_66 {l : Launch} (κ : XC l xTX cX5_digestOfKnots yX5_digestOfKnots.cls 7 (some .long) 4) (K : Int64 → CS → XT → Prop) (hQ : xRet κ (fun v ω' => ∃ (r : Int64) (c' : CS) (t' : XT), v = some (.long r) ∧ ω' = wX c' t' ∧ K r c' t')) (L11 : Int32 → Int64 → Int32 → CS → XT → Prop) (hL11 : ∀ (v3 : Int32) (v4 : Int64) (v6 : Int32) (c : CS) (x : XT), L11 v3 v4 v6 c x → Wat κ 11 [(0, .ref 0), (3, .int v3), (4, .long v4), (6, .int v6)] [] (wX c x)) (v3 : Int32) (v6 : Int32) (s0 : Int32) (s1 : Int64) (c : CS) (x : XT) (h : nd_X5_digestOfKnots_66 K L11 v3 v6 s0 s1 c x) : Wat κ 66 [(0, .ref 0), (3, .int v3), (6, .int v6)] [.int s0, .long s1] (wX c x) := by
    unfold nd_X5_digestOfKnots_66 at h
    refine xr_i2l (pc := 66) κ dX5_digestOfKnots_66 ?_
    refine xr_ladd (pc := 67) κ dX5_digestOfKnots_67 ?_
    refine xr_lstore (pc := 68) κ [1, 2, 0, 3] (lv' := [(0, .ref 0), (3, .int v3), (4, .long (s1 + (Int32.toInt64 s0))), (6, .int v6)]) dX5_digestOfKnots_68 (by decide) rfl ?_
    refine xr_ldc2 (pc := 70) κ (v := 31) kw_3_11 dX5_digestOfKnots_70 ?_
    refine xr_lload (pc := 73) κ 2 (x := (s1 + (Int32.toInt64 s0))) dX5_digestOfKnots_73 rfl ?_
    refine xr_lmul (pc := 75) κ dX5_digestOfKnots_75 ?_
    refine xr_iload_n (pc := 76) κ 1 (x := v3) dX5_digestOfKnots_76 rfl rfl ?_
    refine xr_if_eq (pc := 77) κ (tgt := 104) dX5_digestOfKnots_77 (by decide) (fun c6 => ?_) (fun c6 => ?_)
    · have h := h.1 c6
      refine xr_ldc2 (pc := 104) κ (v := -3) kw_2_48 dX5_digestOfKnots_104 ?_
      refine xr_sub (pc := 107) κ [0, 1, 3] (lv' := [(0, .ref 0), (3, .int v3), (6, .int v6)]) rfl ?_
      exact snd_X5_digestOfKnots_107 κ K hQ _ hL11 _ _ _ _ _ _ h
    · have h := h.2 c6
      refine xr_aload_n (pc := 80) κ 0 (x := 0) dX5_digestOfKnots_80 rfl rfl ?_
      refine xr_get (pc := 81) κ xc5 (k := 0) (f := 2) (v := .ref (xb 0)) kw_1_184 (by decide) rfl (by decide) rfl dX5_digestOfKnots_81 ?_
      refine xr_getN (pc := 84) κ xc0 (k := (xb 0)) (f := 3) (v := .ref (xb 0 + 9)) kw_1_118 (xb_lt (j := 0) (by decide) (by decide)) (wXb_obj _ _ (by decide)) (by decide) rfl dX5_digestOfKnots_84 ?_
      refine xr_iload (pc := 87) κ 3 (x := v6) dX5_digestOfKnots_87 rfl ?_
      obtain ⟨i10, h⟩ := h
      refine xr_lald (pc := 89) κ (k := (xb 0 + 9)) (n := 7) (f := b_above (x_bal x 0)) (xb_lt (j := 9) (by decide) (by decide)) (xTX_long (j := 9) (by decide) (by decide) (by decide)) (wXb_above _ _ (by decide)) i10 dX5_digestOfKnots_89 ?_
      refine xr_aload_n (pc := 90) κ 0 (x := 0) dX5_digestOfKnots_90 rfl rfl ?_
      refine xr_get (pc := 91) κ xc5 (k := 0) (f := 2) (v := .ref (xb 0)) kw_1_184 (by decide) rfl (by decide) rfl dX5_digestOfKnots_91 ?_
      refine xr_getN (pc := 94) κ xc0 (k := (xb 0)) (f := 1) (v := .long (b_below (x_bal x 0))) kw_1_112 (xb_lt (j := 0) (by decide) (by decide)) (wXb_obj _ _ (by decide)) (by decide) rfl dX5_digestOfKnots_94 ?_
      refine xr_iconst (pc := 97) κ (v := 0) dX5_digestOfKnots_97 (by decide) ?_
      refine xr_callS (pc := 98) κ [.long (b_above (x_bal x 0) v6.toNatClampNeg), .long (b_below (x_bal x 0)), .int (0 : Int32)] kw_2_49 tg_X5_part (snd_X5_part _ _ _ _ h) rfl (by decide) (by decide) (Nat.le_of_ble_eq_true rfl) dX5_digestOfKnots_98 (fun v9 ω9 hk9 => ?_)
      obtain ⟨r11, rfl, e9, h⟩ := hk9
      rw [e9]
      show Wat κ 101 [(0, .ref 0), (3, .int v3), (4, .long (s1 + (Int32.toInt64 s0))), (6, .int v6)] [.long r11, .long ((31 : Int64) * (s1 + (Int32.toInt64 s0)))] (wX c x)
      refine xr_goto (pc := 101) κ (tgt := 107) dX5_digestOfKnots_101 (by decide) ?_
      refine xr_sub (pc := 107) κ [0, 1, 3] (lv' := [(0, .ref 0), (3, .int v3), (6, .int v6)]) rfl ?_
      exact snd_X5_digestOfKnots_107 κ K hQ _ hL11 _ _ _ _ _ _ h
def nd_X5_digestOfKnots_11 (K : Int64 → CS → XT → Prop) : Nat → Int32 → Int64 → Int32 → CS → XT → Prop
  | 0 => fun _ _ _ _ _ => False
  | n + 1 => fun v3 v4 v6 c x =>
    ((c_n c) ≤ v6 →
      K v4 c x) ∧
    (¬ (c_n c) ≤ v6 →
      vp_in v6 7 ∧
      wp_X2_isPad v6 c x (fun r4 c4_ x4_ =>
        (r4 = 0 →
          nd_X5_digestOfKnots_66 K (fun v3 v4 v6 c x => nd_X5_digestOfKnots_11 K n v3 v4 v6 c x) v3 v6 (0 : Int32) ((31 : Int64) * (((31 : Int64) * v4) + (Int32.toInt64 (c_pulls c v6.toNatClampNeg)))) c4_ x4_) ∧
        (¬ r4 = 0 →
          nd_X5_digestOfKnots_66 K (fun v3 v4 v6 c x => nd_X5_digestOfKnots_11 K n v3 v4 v6 c x) v3 v6 (1 : Int32) ((31 : Int64) * (((31 : Int64) * v4) + (Int32.toInt64 (c_pulls c v6.toNatClampNeg)))) c4_ x4_)))
set_option maxHeartbeats 4000000 in
set_option maxRecDepth 100000 in
theorem snd_X5_digestOfKnots_11 {l : Launch} (κ : XC l xTX cX5_digestOfKnots yX5_digestOfKnots.cls 7 (some .long) 4) (K : Int64 → CS → XT → Prop) (hQ : xRet κ (fun v ω' => ∃ (r : Int64) (c' : CS) (t' : XT), v = some (.long r) ∧ ω' = wX c' t' ∧ K r c' t')) : ∀ (n : Nat) (v3 : Int32) (v4 : Int64) (v6 : Int32) (c : CS) (x : XT), nd_X5_digestOfKnots_11 K n v3 v4 v6 c x → Wat κ 11 [(0, .ref 0), (3, .int v3), (4, .long v4), (6, .int v6)] [] (wX c x) := by
  intro n
  induction n with
  | zero => intro v3 v4 v6 c x h; exact h.elim
  | succ n ih =>
    intro v3 v4 v6 c x h
    unfold nd_X5_digestOfKnots_11 at h
    refine xr_iload (pc := 11) κ 3 (x := v6) dX5_digestOfKnots_11 rfl ?_
    refine xr_aload_n (pc := 13) κ 0 (x := 0) dX5_digestOfKnots_13 rfl rfl ?_
    refine xr_get (pc := 14) κ xc5 (k := 0) (f := 0) (v := .ref 1) kw_1_182 (by decide) rfl (by decide) rfl dX5_digestOfKnots_14 ?_
    refine xr_getN (pc := 17) κ xc2 (k := 1) (f := 0) (v := .int (c_n c)) kw_1_27 (by decide) rfl (by decide) rfl dX5_digestOfKnots_17 ?_
    refine xr_icmp_ge (pc := 20) κ (tgt := 156) dX5_digestOfKnots_20 (by decide) (fun c2 => ?_) (fun c2 => ?_)
    · have h := h.1 c2
      refine xr_lload (pc := 156) κ 2 (x := v4) dX5_digestOfKnots_156 rfl ?_
      exact xr_lret (pc := 158) κ _ hQ dX5_digestOfKnots_158 ⟨_, _, _, rfl, rfl, h⟩
    · have h := h.2 c2
      refine xr_ldc2 (pc := 23) κ (v := 31) kw_3_11 dX5_digestOfKnots_23 ?_
      refine xr_lload (pc := 26) κ 2 (x := v4) dX5_digestOfKnots_26 rfl ?_
      refine xr_lmul (pc := 28) κ dX5_digestOfKnots_28 ?_
      refine xr_aload_n (pc := 29) κ 0 (x := 0) dX5_digestOfKnots_29 rfl rfl ?_
      refine xr_get (pc := 30) κ xc5 (k := 0) (f := 0) (v := .ref 1) kw_1_182 (by decide) rfl (by decide) rfl dX5_digestOfKnots_30 ?_
      refine xr_getN (pc := 33) κ xc2 (k := 1) (f := 3) (v := .ref 2) kw_1_37 (by decide) rfl (by decide) rfl dX5_digestOfKnots_33 ?_
      refine xr_iload (pc := 36) κ 3 (x := v6) dX5_digestOfKnots_36 rfl ?_
      obtain ⟨i3, h⟩ := h
      refine xr_iald (pc := 38) κ (k := 2) (n := 7) (f := c_pulls c) (by decide) rfl rfl i3 dX5_digestOfKnots_38 ?_
      refine xr_i2l (pc := 39) κ dX5_digestOfKnots_39 ?_
      refine xr_ladd (pc := 40) κ dX5_digestOfKnots_40 ?_
      refine xr_lstore (pc := 41) κ [1, 2, 0, 3] (lv' := [(0, .ref 0), (3, .int v3), (4, .long (((31 : Int64) * v4) + (Int32.toInt64 (c_pulls c v6.toNatClampNeg)))), (6, .int v6)]) dX5_digestOfKnots_41 (by decide) rfl ?_
      refine xr_ldc2 (pc := 43) κ (v := 31) kw_3_11 dX5_digestOfKnots_43 ?_
      refine xr_lload (pc := 46) κ 2 (x := (((31 : Int64) * v4) + (Int32.toInt64 (c_pulls c v6.toNatClampNeg)))) dX5_digestOfKnots_46 rfl ?_
      refine xr_lmul (pc := 48) κ dX5_digestOfKnots_48 ?_
      refine xr_aload_n (pc := 49) κ 0 (x := 0) dX5_digestOfKnots_49 rfl rfl ?_
      refine xr_get (pc := 50) κ xc5 (k := 0) (f := 0) (v := .ref 1) kw_1_182 (by decide) rfl (by decide) rfl dX5_digestOfKnots_50 ?_
      refine xr_iload (pc := 53) κ 3 (x := v6) dX5_digestOfKnots_53 rfl ?_
      refine xr_callVN (pc := 55) κ [.int v6] kw_2_0 tg_X2_isPad (snd_X2_isPad _ _ _ _ h) rfl (by decide) (by decide) (by decide) rfl (ci := 2) rfl rfl (Nat.le_of_ble_eq_true rfl) dX5_digestOfKnots_55 (fun v9 ω9 hk9 => ?_)
      obtain ⟨r4, c4_, x4_, rfl, rfl, h⟩ := hk9
      skip
      show Wat κ 58 [(0, .ref 0), (3, .int v3), (4, .long (((31 : Int64) * v4) + (Int32.toInt64 (c_pulls c v6.toNatClampNeg)))), (6, .int v6)] [.int r4, .long ((31 : Int64) * (((31 : Int64) * v4) + (Int32.toInt64 (c_pulls c v6.toNatClampNeg))))] (wX c4_ x4_)
      refine xr_if_eq (pc := 58) κ (tgt := 65) dX5_digestOfKnots_58 (by decide) (fun c5 => ?_) (fun c5 => ?_)
      · have h := h.1 c5
        refine xr_iconst (pc := 65) κ (v := 0) dX5_digestOfKnots_65 (by decide) ?_
        refine xr_sub (pc := 66) κ [0, 1, 3] (lv' := [(0, .ref 0), (3, .int v3), (6, .int v6)]) rfl ?_
        exact snd_X5_digestOfKnots_66 κ K hQ _ ih _ _ _ _ _ _ h
      · have h := h.2 c5
        refine xr_iconst (pc := 61) κ (v := 1) dX5_digestOfKnots_61 (by decide) ?_
        refine xr_goto (pc := 62) κ (tgt := 66) dX5_digestOfKnots_62 (by decide) ?_
        refine xr_sub (pc := 66) κ [0, 1, 3] (lv' := [(0, .ref 0), (3, .int v3), (6, .int v6)]) rfl ?_
        exact snd_X5_digestOfKnots_66 κ K hQ _ ih _ _ _ _ _ _ h
def wp_X5_digestOfKnots (st : Int64) (c : CS) (x : XT) (K : Int64 → CS → XT → Prop) : Prop :=
    wp_X5_settled c x (fun r1 c1_ x1_ =>
      ∃ n11 : Nat, nd_X5_digestOfKnots_11 K n11 r1 st (0 : Int32) c1_ x1_)
set_option maxHeartbeats 4000000 in
set_option maxRecDepth 100000 in
theorem snd_X5_digestOfKnots {l : Launch} (st : Int64) (c : CS) (x : XT) (K : Int64 → CS → XT → Prop) (h : wp_X5_digestOfKnots st c x K) : XM l xTX yX5_digestOfKnots cX5_digestOfKnots 7 (some .long) 4 [.ref 0, .long st] (wX c x) (fun v ω' => ∃ (r : Int64) (c' : CS) (t' : XT), v = some (.long r) ∧ ω' = wX c' t' ∧ K r c' t') := by
    refine XM.of (by decide) (Nat.le_of_ble_eq_true rfl) (fun κ hQ => ?_)
    show Wat κ 0 [(0, .ref 0), (1, .long st)] [] (wX c x)
    unfold wp_X5_digestOfKnots at h
    refine xr_aload_n (pc := 0) κ 0 (x := 0) dX5_digestOfKnots_0 rfl rfl ?_
    refine xr_callV (pc := 1) κ [] kw_2_19 tg_X5_settled (snd_X5_settled  _ _ _ h) rfl (by decide) (by decide) (by decide) rfl (ci := 5) rfl rfl (Nat.le_of_ble_eq_true rfl) dX5_digestOfKnots_1 (fun v9 ω9 hk9 => ?_)
    obtain ⟨r1, c1_, x1_, rfl, rfl, h⟩ := hk9
    skip
    show Wat κ 4 [(0, .ref 0), (1, .long st)] [.int r1] (wX c1_ x1_)
    refine xr_istore_n (pc := 4) κ [1, 2, 0] (lv' := [(0, .ref 0), (1, .long st), (3, .int r1)]) dX5_digestOfKnots_4 rfl (by decide) rfl ?_
    refine xr_lload_n (pc := 5) κ 1 (x := st) dX5_digestOfKnots_5 rfl rfl ?_
    refine xr_lstore (pc := 6) κ [1, 2, 3, 0] (lv' := [(0, .ref 0), (1, .long st), (3, .int r1), (4, .long st)]) dX5_digestOfKnots_6 (by decide) rfl ?_
    refine xr_iconst (pc := 8) κ (v := 0) dX5_digestOfKnots_8 (by decide) ?_
    refine xr_istore (pc := 9) κ [1, 2, 3, 4, 0] (lv' := [(0, .ref 0), (1, .long st), (3, .int r1), (4, .long st), (6, .int (0 : Int32))]) dX5_digestOfKnots_9 (by decide) rfl ?_
    refine xr_sub (pc := 11) κ [0, 2, 3, 4] (lv' := [(0, .ref 0), (3, .int r1), (4, .long st), (6, .int (0 : Int32))]) rfl ?_
    obtain ⟨n0, h⟩ := h
    exact snd_X5_digestOfKnots_11 κ K hQ n0 _ _ _ _ _ h
-- ChipVolts.digest()J, level 5
def nd_X5_digest_125 (K : Int64 → CS → XT → Prop) : Nat → Int64 → Int32 → CS → XT → Prop
  | 0 => fun _ _ _ _ => False
  | n + 1 => fun v1 v3 c x =>
    ((c_nb c) ≤ v3 →
      K v1 c x) ∧
    (¬ (c_nb c) ≤ v3 →
      vp_in v3 6 ∧
      vp_in v3 6 ∧
      nd_X5_digest_125 K n (((31 : Int64) * (((31 : Int64) * v1) + (Int32.toInt64 (c_sits c v3.toNatClampNeg)))) + (Int32.toInt64 (c_most c v3.toNatClampNeg))) (v3 + 1) c x)
set_option maxHeartbeats 4000000 in
set_option maxRecDepth 100000 in
theorem snd_X5_digest_125 {l : Launch} (κ : XC l xTX cX5_digest yX5_digest.cls 4 (some .long) 5) (K : Int64 → CS → XT → Prop) (hQ : xRet κ (fun v ω' => ∃ (r : Int64) (c' : CS) (t' : XT), v = some (.long r) ∧ ω' = wX c' t' ∧ K r c' t')) : ∀ (n : Nat) (v1 : Int64) (v3 : Int32) (c : CS) (x : XT), nd_X5_digest_125 K n v1 v3 c x → Wat κ 125 [(0, .ref 0), (1, .long v1), (3, .int v3)] [] (wX c x) := by
  intro n
  induction n with
  | zero => intro v1 v3 c x h; exact h.elim
  | succ n ih =>
    intro v1 v3 c x h
    unfold nd_X5_digest_125 at h
    refine xr_iload_n (pc := 125) κ 2 (x := v3) dX5_digest_125 rfl rfl ?_
    refine xr_aload_n (pc := 126) κ 0 (x := 0) dX5_digest_126 rfl rfl ?_
    refine xr_get (pc := 127) κ xc5 (k := 0) (f := 1) (v := .ref 7) kw_1_183 (by decide) rfl (by decide) rfl dX5_digest_127 ?_
    refine xr_getN (pc := 130) κ xc1 (k := 7) (f := 0) (v := .int (c_nb c)) kw_1_79 (by decide) rfl (by decide) rfl dX5_digest_130 ?_
    refine xr_icmp_ge (pc := 133) κ (tgt := 176) dX5_digest_133 (by decide) (fun c4 => ?_) (fun c4 => ?_)
    · have h := h.1 c4
      refine xr_lload_n (pc := 176) κ 1 (x := v1) dX5_digest_176 rfl rfl ?_
      exact xr_lret (pc := 177) κ _ hQ dX5_digest_177 ⟨_, _, _, rfl, rfl, h⟩
    · have h := h.2 c4
      refine xr_ldc2 (pc := 136) κ (v := 31) kw_3_11 dX5_digest_136 ?_
      refine xr_lload_n (pc := 139) κ 1 (x := v1) dX5_digest_139 rfl rfl ?_
      refine xr_lmul (pc := 140) κ dX5_digest_140 ?_
      refine xr_aload_n (pc := 141) κ 0 (x := 0) dX5_digest_141 rfl rfl ?_
      refine xr_get (pc := 142) κ xc5 (k := 0) (f := 1) (v := .ref 7) kw_1_183 (by decide) rfl (by decide) rfl dX5_digest_142 ?_
      refine xr_getN (pc := 145) κ xc1 (k := 7) (f := 2) (v := .ref 8) kw_1_84 (by decide) rfl (by decide) rfl dX5_digest_145 ?_
      refine xr_iload_n (pc := 148) κ 2 (x := v3) dX5_digest_148 rfl rfl ?_
      obtain ⟨i5, h⟩ := h
      refine xr_iald (pc := 149) κ (k := 8) (n := 6) (f := c_sits c) (by decide) rfl rfl i5 dX5_digest_149 ?_
      refine xr_i2l (pc := 150) κ dX5_digest_150 ?_
      refine xr_ladd (pc := 151) κ dX5_digest_151 ?_
      refine xr_lstore_n (pc := 152) κ [1, 0, 2] (lv' := [(0, .ref 0), (1, .long (((31 : Int64) * v1) + (Int32.toInt64 (c_sits c v3.toNatClampNeg)))), (3, .int v3)]) dX5_digest_152 rfl (by decide) rfl ?_
      refine xr_ldc2 (pc := 153) κ (v := 31) kw_3_11 dX5_digest_153 ?_
      refine xr_lload_n (pc := 156) κ 1 (x := (((31 : Int64) * v1) + (Int32.toInt64 (c_sits c v3.toNatClampNeg)))) dX5_digest_156 rfl rfl ?_
      refine xr_lmul (pc := 157) κ dX5_digest_157 ?_
      refine xr_aload_n (pc := 158) κ 0 (x := 0) dX5_digest_158 rfl rfl ?_
      refine xr_get (pc := 159) κ xc5 (k := 0) (f := 1) (v := .ref 7) kw_1_183 (by decide) rfl (by decide) rfl dX5_digest_159 ?_
      refine xr_getN (pc := 162) κ xc1 (k := 7) (f := 3) (v := .ref 9) kw_1_87 (by decide) rfl (by decide) rfl dX5_digest_162 ?_
      refine xr_iload_n (pc := 165) κ 2 (x := v3) dX5_digest_165 rfl rfl ?_
      obtain ⟨i6, h⟩ := h
      refine xr_iald (pc := 166) κ (k := 9) (n := 6) (f := c_most c) (by decide) rfl rfl i6 dX5_digest_166 ?_
      refine xr_i2l (pc := 167) κ dX5_digest_167 ?_
      refine xr_ladd (pc := 168) κ dX5_digest_168 ?_
      refine xr_lstore_n (pc := 169) κ [1, 0, 2] (lv' := [(0, .ref 0), (1, .long (((31 : Int64) * (((31 : Int64) * v1) + (Int32.toInt64 (c_sits c v3.toNatClampNeg)))) + (Int32.toInt64 (c_most c v3.toNatClampNeg)))), (3, .int v3)]) dX5_digest_169 rfl (by decide) rfl ?_
      refine xr_iinc (pc := 170) κ 2 [1, 2, 0] (lv' := [(0, .ref 0), (1, .long (((31 : Int64) * (((31 : Int64) * v1) + (Int32.toInt64 (c_sits c v3.toNatClampNeg)))) + (Int32.toInt64 (c_most c v3.toNatClampNeg)))), (3, .int (v3 + 1))]) (x := v3) (v := v3 + 1) dX5_digest_170 rfl rfl (by decide) rfl ?_
      refine xr_goto (pc := 173) κ (tgt := 125) dX5_digest_173 (by decide) ?_
      exact ih _ _ _ _ h
def nd_X5_digest_38 (K : Int64 → CS → XT → Prop) : Nat → Int64 → Int32 → CS → XT → Prop
  | 0 => fun _ _ _ _ => False
  | n + 1 => fun v1 v3 c x =>
    ((c_wires c) ≤ v3 →
      ∃ n125 : Nat, nd_X5_digest_125 K n125 v1 (0 : Int32) c x) ∧
    (¬ (c_wires c) ≤ v3 →
      vp_in v3 12 ∧
      vp_in v3 12 ∧
      vp_in v3 12 ∧
      vp_in v3 12 ∧
      nd_X5_digest_38 K n (((31 : Int64) * (((31 : Int64) * (((31 : Int64) * (((31 : Int64) * v1) + (Int32.toInt64 (c_from c v3.toNatClampNeg)))) + (Int32.toInt64 (c_to c v3.toNatClampNeg)))) + (Int32.toInt64 (c_wide c v3.toNatClampNeg)))) + (Int32.toInt64 (c_price c v3.toNatClampNeg))) (v3 + 1) c x)
set_option maxHeartbeats 4000000 in
set_option maxRecDepth 100000 in
theorem snd_X5_digest_38 {l : Launch} (κ : XC l xTX cX5_digest yX5_digest.cls 4 (some .long) 5) (K : Int64 → CS → XT → Prop) (hQ : xRet κ (fun v ω' => ∃ (r : Int64) (c' : CS) (t' : XT), v = some (.long r) ∧ ω' = wX c' t' ∧ K r c' t')) : ∀ (n : Nat) (v1 : Int64) (v3 : Int32) (c : CS) (x : XT), nd_X5_digest_38 K n v1 v3 c x → Wat κ 38 [(0, .ref 0), (1, .long v1), (3, .int v3)] [] (wX c x) := by
  intro n
  induction n with
  | zero => intro v1 v3 c x h; exact h.elim
  | succ n ih =>
    intro v1 v3 c x h
    unfold nd_X5_digest_38 at h
    refine xr_iload_n (pc := 38) κ 2 (x := v3) dX5_digest_38 rfl rfl ?_
    refine xr_aload_n (pc := 39) κ 0 (x := 0) dX5_digest_39 rfl rfl ?_
    refine xr_get (pc := 40) κ xc5 (k := 0) (f := 0) (v := .ref 1) kw_1_182 (by decide) rfl (by decide) rfl dX5_digest_40 ?_
    refine xr_getN (pc := 43) κ xc2 (k := 1) (f := 1) (v := .int (c_wires c)) kw_1_30 (by decide) rfl (by decide) rfl dX5_digest_43 ?_
    refine xr_icmp_ge (pc := 46) κ (tgt := 123) dX5_digest_46 (by decide) (fun c3 => ?_) (fun c3 => ?_)
    · have h := h.1 c3
      refine xr_iconst (pc := 123) κ (v := 0) dX5_digest_123 (by decide) ?_
      refine xr_istore_n (pc := 124) κ [1, 2, 0] (lv' := [(0, .ref 0), (1, .long v1), (3, .int (0 : Int32))]) dX5_digest_124 rfl (by decide) rfl ?_
      obtain ⟨n0, h⟩ := h
      exact snd_X5_digest_125 κ K hQ n0 _ _ _ _ h
    · have h := h.2 c3
      refine xr_ldc2 (pc := 49) κ (v := 31) kw_3_11 dX5_digest_49 ?_
      refine xr_lload_n (pc := 52) κ 1 (x := v1) dX5_digest_52 rfl rfl ?_
      refine xr_lmul (pc := 53) κ dX5_digest_53 ?_
      refine xr_aload_n (pc := 54) κ 0 (x := 0) dX5_digest_54 rfl rfl ?_
      refine xr_get (pc := 55) κ xc5 (k := 0) (f := 0) (v := .ref 1) kw_1_182 (by decide) rfl (by decide) rfl dX5_digest_55 ?_
      refine xr_getN (pc := 58) κ xc2 (k := 1) (f := 4) (v := .ref 3) kw_1_41 (by decide) rfl (by decide) rfl dX5_digest_58 ?_
      refine xr_iload_n (pc := 61) κ 2 (x := v3) dX5_digest_61 rfl rfl ?_
      obtain ⟨i7, h⟩ := h
      refine xr_iald (pc := 62) κ (k := 3) (n := 12) (f := c_from c) (by decide) rfl rfl i7 dX5_digest_62 ?_
      refine xr_i2l (pc := 63) κ dX5_digest_63 ?_
      refine xr_ladd (pc := 64) κ dX5_digest_64 ?_
      refine xr_lstore_n (pc := 65) κ [1, 0, 2] (lv' := [(0, .ref 0), (1, .long (((31 : Int64) * v1) + (Int32.toInt64 (c_from c v3.toNatClampNeg)))), (3, .int v3)]) dX5_digest_65 rfl (by decide) rfl ?_
      refine xr_ldc2 (pc := 66) κ (v := 31) kw_3_11 dX5_digest_66 ?_
      refine xr_lload_n (pc := 69) κ 1 (x := (((31 : Int64) * v1) + (Int32.toInt64 (c_from c v3.toNatClampNeg)))) dX5_digest_69 rfl rfl ?_
      refine xr_lmul (pc := 70) κ dX5_digest_70 ?_
      refine xr_aload_n (pc := 71) κ 0 (x := 0) dX5_digest_71 rfl rfl ?_
      refine xr_get (pc := 72) κ xc5 (k := 0) (f := 0) (v := .ref 1) kw_1_182 (by decide) rfl (by decide) rfl dX5_digest_72 ?_
      refine xr_getN (pc := 75) κ xc2 (k := 1) (f := 5) (v := .ref 4) kw_1_45 (by decide) rfl (by decide) rfl dX5_digest_75 ?_
      refine xr_iload_n (pc := 78) κ 2 (x := v3) dX5_digest_78 rfl rfl ?_
      obtain ⟨i8, h⟩ := h
      refine xr_iald (pc := 79) κ (k := 4) (n := 12) (f := c_to c) (by decide) rfl rfl i8 dX5_digest_79 ?_
      refine xr_i2l (pc := 80) κ dX5_digest_80 ?_
      refine xr_ladd (pc := 81) κ dX5_digest_81 ?_
      refine xr_lstore_n (pc := 82) κ [1, 0, 2] (lv' := [(0, .ref 0), (1, .long (((31 : Int64) * (((31 : Int64) * v1) + (Int32.toInt64 (c_from c v3.toNatClampNeg)))) + (Int32.toInt64 (c_to c v3.toNatClampNeg)))), (3, .int v3)]) dX5_digest_82 rfl (by decide) rfl ?_
      refine xr_ldc2 (pc := 83) κ (v := 31) kw_3_11 dX5_digest_83 ?_
      refine xr_lload_n (pc := 86) κ 1 (x := (((31 : Int64) * (((31 : Int64) * v1) + (Int32.toInt64 (c_from c v3.toNatClampNeg)))) + (Int32.toInt64 (c_to c v3.toNatClampNeg)))) dX5_digest_86 rfl rfl ?_
      refine xr_lmul (pc := 87) κ dX5_digest_87 ?_
      refine xr_aload_n (pc := 88) κ 0 (x := 0) dX5_digest_88 rfl rfl ?_
      refine xr_get (pc := 89) κ xc5 (k := 0) (f := 0) (v := .ref 1) kw_1_182 (by decide) rfl (by decide) rfl dX5_digest_89 ?_
      refine xr_getN (pc := 92) κ xc2 (k := 1) (f := 6) (v := .ref 5) kw_1_48 (by decide) rfl (by decide) rfl dX5_digest_92 ?_
      refine xr_iload_n (pc := 95) κ 2 (x := v3) dX5_digest_95 rfl rfl ?_
      obtain ⟨i9, h⟩ := h
      refine xr_iald (pc := 96) κ (k := 5) (n := 12) (f := c_wide c) (by decide) rfl rfl i9 dX5_digest_96 ?_
      refine xr_i2l (pc := 97) κ dX5_digest_97 ?_
      refine xr_ladd (pc := 98) κ dX5_digest_98 ?_
      refine xr_lstore_n (pc := 99) κ [1, 0, 2] (lv' := [(0, .ref 0), (1, .long (((31 : Int64) * (((31 : Int64) * (((31 : Int64) * v1) + (Int32.toInt64 (c_from c v3.toNatClampNeg)))) + (Int32.toInt64 (c_to c v3.toNatClampNeg)))) + (Int32.toInt64 (c_wide c v3.toNatClampNeg)))), (3, .int v3)]) dX5_digest_99 rfl (by decide) rfl ?_
      refine xr_ldc2 (pc := 100) κ (v := 31) kw_3_11 dX5_digest_100 ?_
      refine xr_lload_n (pc := 103) κ 1 (x := (((31 : Int64) * (((31 : Int64) * (((31 : Int64) * v1) + (Int32.toInt64 (c_from c v3.toNatClampNeg)))) + (Int32.toInt64 (c_to c v3.toNatClampNeg)))) + (Int32.toInt64 (c_wide c v3.toNatClampNeg)))) dX5_digest_103 rfl rfl ?_
      refine xr_lmul (pc := 104) κ dX5_digest_104 ?_
      refine xr_aload_n (pc := 105) κ 0 (x := 0) dX5_digest_105 rfl rfl ?_
      refine xr_get (pc := 106) κ xc5 (k := 0) (f := 0) (v := .ref 1) kw_1_182 (by decide) rfl (by decide) rfl dX5_digest_106 ?_
      refine xr_getN (pc := 109) κ xc2 (k := 1) (f := 7) (v := .ref 6) kw_1_52 (by decide) rfl (by decide) rfl dX5_digest_109 ?_
      refine xr_iload_n (pc := 112) κ 2 (x := v3) dX5_digest_112 rfl rfl ?_
      obtain ⟨i10, h⟩ := h
      refine xr_iald (pc := 113) κ (k := 6) (n := 12) (f := c_price c) (by decide) rfl rfl i10 dX5_digest_113 ?_
      refine xr_i2l (pc := 114) κ dX5_digest_114 ?_
      refine xr_ladd (pc := 115) κ dX5_digest_115 ?_
      refine xr_lstore_n (pc := 116) κ [1, 0, 2] (lv' := [(0, .ref 0), (1, .long (((31 : Int64) * (((31 : Int64) * (((31 : Int64) * (((31 : Int64) * v1) + (Int32.toInt64 (c_from c v3.toNatClampNeg)))) + (Int32.toInt64 (c_to c v3.toNatClampNeg)))) + (Int32.toInt64 (c_wide c v3.toNatClampNeg)))) + (Int32.toInt64 (c_price c v3.toNatClampNeg)))), (3, .int v3)]) dX5_digest_116 rfl (by decide) rfl ?_
      refine xr_iinc (pc := 117) κ 2 [1, 2, 0] (lv' := [(0, .ref 0), (1, .long (((31 : Int64) * (((31 : Int64) * (((31 : Int64) * (((31 : Int64) * v1) + (Int32.toInt64 (c_from c v3.toNatClampNeg)))) + (Int32.toInt64 (c_to c v3.toNatClampNeg)))) + (Int32.toInt64 (c_wide c v3.toNatClampNeg)))) + (Int32.toInt64 (c_price c v3.toNatClampNeg)))), (3, .int (v3 + 1))]) (x := v3) (v := v3 + 1) dX5_digest_117 rfl rfl (by decide) rfl ?_
      refine xr_goto (pc := 120) κ (tgt := 38) dX5_digest_120 (by decide) ?_
      exact ih _ _ _ _ h
def nd_X5_digest_6 (K : Int64 → CS → XT → Prop) : Nat → Int64 → Int32 → CS → XT → Prop
  | 0 => fun _ _ _ _ => False
  | n + 1 => fun v1 v3 c x =>
    ((5 : Int32) < v3 →
      wp_X5_digestOfKnots v1 c x (fun r2 c2_ x2_ =>
        ∃ n38 : Nat, nd_X5_digest_38 K n38 r2 (0 : Int32) c2_ x2_)) ∧
    (¬ (5 : Int32) < v3 →
      wp_X5_count v3 c x (fun r11 c11_ x11_ =>
        nd_X5_digest_6 K n (((31 : Int64) * v1) + (Int32.toInt64 r11)) (v3 + 1) c11_ x11_))
set_option maxHeartbeats 4000000 in
set_option maxRecDepth 100000 in
theorem snd_X5_digest_6 {l : Launch} (κ : XC l xTX cX5_digest yX5_digest.cls 4 (some .long) 5) (K : Int64 → CS → XT → Prop) (hQ : xRet κ (fun v ω' => ∃ (r : Int64) (c' : CS) (t' : XT), v = some (.long r) ∧ ω' = wX c' t' ∧ K r c' t')) : ∀ (n : Nat) (v1 : Int64) (v3 : Int32) (c : CS) (x : XT), nd_X5_digest_6 K n v1 v3 c x → Wat κ 6 [(0, .ref 0), (1, .long v1), (3, .int v3)] [] (wX c x) := by
  intro n
  induction n with
  | zero => intro v1 v3 c x h; exact h.elim
  | succ n ih =>
    intro v1 v3 c x h
    unfold nd_X5_digest_6 at h
    refine xr_iload_n (pc := 6) κ 2 (x := v3) dX5_digest_6 rfl rfl ?_
    refine xr_iconst (pc := 7) κ (v := 5) dX5_digest_7 (by decide) ?_
    refine xr_icmp_gt (pc := 8) κ (tgt := 30) dX5_digest_8 (by decide) (fun c1 => ?_) (fun c1 => ?_)
    · have h := h.1 c1
      refine xr_aload_n (pc := 30) κ 0 (x := 0) dX5_digest_30 rfl rfl ?_
      refine xr_lload_n (pc := 31) κ 1 (x := v1) dX5_digest_31 rfl rfl ?_
      refine xr_callV (pc := 32) κ [.long v1] kw_3_13 tg_X5_digestOfKnots (snd_X5_digestOfKnots _ _ _ _ h) rfl (by decide) (by decide) (by decide) rfl (ci := 5) rfl rfl (Nat.le_of_ble_eq_true rfl) dX5_digest_32 (fun v9 ω9 hk9 => ?_)
      obtain ⟨r2, c2_, x2_, rfl, rfl, h⟩ := hk9
      skip
      show Wat κ 35 [(0, .ref 0), (1, .long v1), (3, .int v3)] [.long r2] (wX c2_ x2_)
      refine xr_lstore_n (pc := 35) κ [1, 0, 2] (lv' := [(0, .ref 0), (1, .long r2), (3, .int v3)]) dX5_digest_35 rfl (by decide) rfl ?_
      refine xr_iconst (pc := 36) κ (v := 0) dX5_digest_36 (by decide) ?_
      refine xr_istore_n (pc := 37) κ [1, 2, 0] (lv' := [(0, .ref 0), (1, .long r2), (3, .int (0 : Int32))]) dX5_digest_37 rfl (by decide) rfl ?_
      obtain ⟨n0, h⟩ := h
      exact snd_X5_digest_38 κ K hQ n0 _ _ _ _ h
    · have h := h.2 c1
      refine xr_ldc2 (pc := 11) κ (v := 31) kw_3_11 dX5_digest_11 ?_
      refine xr_lload_n (pc := 14) κ 1 (x := v1) dX5_digest_14 rfl rfl ?_
      refine xr_lmul (pc := 15) κ dX5_digest_15 ?_
      refine xr_aload_n (pc := 16) κ 0 (x := 0) dX5_digest_16 rfl rfl ?_
      refine xr_iload_n (pc := 17) κ 2 (x := v3) dX5_digest_17 rfl rfl ?_
      refine xr_callV (pc := 18) κ [.int v3] kw_3_12 tg_X5_count (snd_X5_count _ _ _ _ h) rfl (by decide) (by decide) (by decide) rfl (ci := 5) rfl rfl (Nat.le_of_ble_eq_true rfl) dX5_digest_18 (fun v9 ω9 hk9 => ?_)
      obtain ⟨r11, c11_, x11_, rfl, rfl, h⟩ := hk9
      skip
      show Wat κ 21 [(0, .ref 0), (1, .long v1), (3, .int v3)] [.int r11, .long ((31 : Int64) * v1)] (wX c11_ x11_)
      refine xr_i2l (pc := 21) κ dX5_digest_21 ?_
      refine xr_ladd (pc := 22) κ dX5_digest_22 ?_
      refine xr_lstore_n (pc := 23) κ [1, 0, 2] (lv' := [(0, .ref 0), (1, .long (((31 : Int64) * v1) + (Int32.toInt64 r11))), (3, .int v3)]) dX5_digest_23 rfl (by decide) rfl ?_
      refine xr_iinc (pc := 24) κ 2 [1, 2, 0] (lv' := [(0, .ref 0), (1, .long (((31 : Int64) * v1) + (Int32.toInt64 r11))), (3, .int (v3 + 1))]) (x := v3) (v := v3 + 1) dX5_digest_24 rfl rfl (by decide) rfl ?_
      refine xr_goto (pc := 27) κ (tgt := 6) dX5_digest_27 (by decide) ?_
      exact ih _ _ _ _ h
def wp_X5_digest (c : CS) (x : XT) (K : Int64 → CS → XT → Prop) : Prop :=
    ∃ n6 : Nat, nd_X5_digest_6 K n6 (191 : Int64) (0 : Int32) c x
set_option maxHeartbeats 4000000 in
set_option maxRecDepth 100000 in
theorem snd_X5_digest {l : Launch} (c : CS) (x : XT) (K : Int64 → CS → XT → Prop) (h : wp_X5_digest  c x K) : XM l xTX yX5_digest cX5_digest 4 (some .long) 5 [.ref 0] (wX c x) (fun v ω' => ∃ (r : Int64) (c' : CS) (t' : XT), v = some (.long r) ∧ ω' = wX c' t' ∧ K r c' t') := by
    refine XM.of (by decide) (Nat.le_of_ble_eq_true rfl) (fun κ hQ => ?_)
    show Wat κ 0 [(0, .ref 0)] [] (wX c x)
    unfold wp_X5_digest at h
    refine xr_ldc2 (pc := 0) κ (v := 191) kw_3_10 dX5_digest_0 ?_
    refine xr_lstore_n (pc := 3) κ [1, 0] (lv' := [(0, .ref 0), (1, .long (191 : Int64))]) dX5_digest_3 rfl (by decide) rfl ?_
    refine xr_iconst (pc := 4) κ (v := 0) dX5_digest_4 (by decide) ?_
    refine xr_istore_n (pc := 5) κ [1, 2, 0] (lv' := [(0, .ref 0), (1, .long (191 : Int64)), (3, .int (0 : Int32))]) dX5_digest_5 rfl (by decide) rfl ?_
    obtain ⟨n0, h⟩ := h
    exact snd_X5_digest_6 κ K hQ n0 _ _ _ _ h
