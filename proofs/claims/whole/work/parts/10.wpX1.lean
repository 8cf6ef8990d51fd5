-- ChipVolts$Net.isKnot(I)Z, level 0
def wp_X2_isKnot (k : Int32) (c : CS) (x : XT) (K : Int32 → CS → XT → Prop) : Prop :=
    (k < 0 →
      K (0 : Int32) c x) ∧
    (¬ k < 0 →
      ((c_n c) ≤ k →
        K (0 : Int32) c x) ∧
      (¬ (c_n c) ≤ k →
        K (1 : Int32) c x))
set_option maxHeartbeats 4000000 in
set_option maxRecDepth 100000 in
theorem snd_X2_isKnot {l : Launch} (k : Int32) (c : CS) (x : XT) (K : Int32 → CS → XT → Prop) (h : wp_X2_isKnot k c x K) : XM l xTX yX2_isKnot cX2_isKnot 2 (some .boolean) 0 [.ref 1, .int k] (wX c x) (fun v ω' => ∃ (r : Int32) (c' : CS) (t' : XT), v = some (.int r) ∧ ω' = wX c' t' ∧ K r c' t') := by
    refine XM.of (by decide) (Nat.le_of_ble_eq_true rfl) (fun κ hQ => ?_)
    show Wat κ 0 [(0, .ref 1), (1, .int k)] [] (wX c x)
    unfold wp_X2_isKnot at h
    refine xr_iload_n (pc := 0) κ 1 (x := k) dX2_isKnot_0 rfl rfl ?_
    refine xr_if_lt (pc := 1) κ (tgt := 16) dX2_isKnot_1 (by decide) (fun c1 => ?_) (fun c1 => ?_)
    · have h := h.1 c1
      refine xr_iconst (pc := 16) κ (v := 0) dX2_isKnot_16 (by decide) ?_
      exact xr_zret (pc := 17) κ _ hQ rfl dX2_isKnot_17 ⟨_, _, _, rfl, rfl, h⟩
    · have h := h.2 c1
      refine xr_iload_n (pc := 4) κ 1 (x := k) dX2_isKnot_4 rfl rfl ?_
      refine xr_aload_n (pc := 5) κ 0 (x := 1) dX2_isKnot_5 rfl rfl ?_
      refine xr_get (pc := 6) κ xc2 (k := 1) (f := 0) (v := .int (c_n c)) kw_1_25 (by decide) rfl (by decide) rfl dX2_isKnot_6 ?_
      refine xr_icmp_ge (pc := 9) κ (tgt := 16) dX2_isKnot_9 (by decide) (fun c2 => ?_) (fun c2 => ?_)
      · have h := h.1 c2
        refine xr_iconst (pc := 16) κ (v := 0) dX2_isKnot_16 (by decide) ?_
        exact xr_zret (pc := 17) κ _ hQ rfl dX2_isKnot_17 ⟨_, _, _, rfl, rfl, h⟩
      · have h := h.2 c2
        refine xr_iconst (pc := 12) κ (v := 1) dX2_isKnot_12 (by decide) ?_
        refine xr_goto (pc := 13) κ (tgt := 17) dX2_isKnot_13 (by decide) ?_
        exact xr_zret (pc := 17) κ _ hQ rfl dX2_isKnot_17 ⟨_, _, _, rfl, rfl, h⟩
-- ChipVolts$Net.isWire(I)Z, level 0
def wp_X2_isWire (w : Int32) (c : CS) (x : XT) (K : Int32 → CS → XT → Prop) : Prop :=
    (w < 0 →
      K (0 : Int32) c x) ∧
    (¬ w < 0 →
      ((c_wires c) ≤ w →
        K (0 : Int32) c x) ∧
      (¬ (c_wires c) ≤ w →
        K (1 : Int32) c x))
set_option maxHeartbeats 4000000 in
set_option maxRecDepth 100000 in
theorem snd_X2_isWire {l : Launch} (w : Int32) (c : CS) (x : XT) (K : Int32 → CS → XT → Prop) (h : wp_X2_isWire w c x K) : XM l xTX yX2_isWire cX2_isWire 2 (some .boolean) 0 [.ref 1, .int w] (wX c x) (fun v ω' => ∃ (r : Int32) (c' : CS) (t' : XT), v = some (.int r) ∧ ω' = wX c' t' ∧ K r c' t') := by
    refine XM.of (by decide) (Nat.le_of_ble_eq_true rfl) (fun κ hQ => ?_)
    show Wat κ 0 [(0, .ref 1), (1, .int w)] [] (wX c x)
    unfold wp_X2_isWire at h
    refine xr_iload_n (pc := 0) κ 1 (x := w) dX2_isWire_0 rfl rfl ?_
    refine xr_if_lt (pc := 1) κ (tgt := 16) dX2_isWire_1 (by decide) (fun c1 => ?_) (fun c1 => ?_)
    · have h := h.1 c1
      refine xr_iconst (pc := 16) κ (v := 0) dX2_isWire_16 (by decide) ?_
      exact xr_zret (pc := 17) κ _ hQ rfl dX2_isWire_17 ⟨_, _, _, rfl, rfl, h⟩
    · have h := h.2 c1
      refine xr_iload_n (pc := 4) κ 1 (x := w) dX2_isWire_4 rfl rfl ?_
      refine xr_aload_n (pc := 5) κ 0 (x := 1) dX2_isWire_5 rfl rfl ?_
      refine xr_get (pc := 6) κ xc2 (k := 1) (f := 1) (v := .int (c_wires c)) kw_1_28 (by decide) rfl (by decide) rfl dX2_isWire_6 ?_
      refine xr_icmp_ge (pc := 9) κ (tgt := 16) dX2_isWire_9 (by decide) (fun c2 => ?_) (fun c2 => ?_)
      · have h := h.1 c2
        refine xr_iconst (pc := 16) κ (v := 0) dX2_isWire_16 (by decide) ?_
        exact xr_zret (pc := 17) κ _ hQ rfl dX2_isWire_17 ⟨_, _, _, rfl, rfl, h⟩
      · have h := h.2 c2
        refine xr_iconst (pc := 12) κ (v := 1) dX2_isWire_12 (by decide) ?_
        refine xr_goto (pc := 13) κ (tgt := 17) dX2_isWire_13 (by decide) ?_
        exact xr_zret (pc := 17) κ _ hQ rfl dX2_isWire_17 ⟨_, _, _, rfl, rfl, h⟩
-- ChipVolts$Net.isPad(I)Z, level 1
def wp_X2_isPad (k : Int32) (c : CS) (x : XT) (K : Int32 → CS → XT → Prop) : Prop :=
    wp_X5_has (c_pads c) k (fun r1 =>
      narrow .boolean (.int r1) = .int r1 ∧ K r1 c x)
set_option maxHeartbeats 4000000 in
set_option maxRecDepth 100000 in
theorem snd_X2_isPad {l : Launch} (k : Int32) (c : CS) (x : XT) (K : Int32 → CS → XT → Prop) (h : wp_X2_isPad k c x K) : XM l xTX yX2_isPad cX2_isPad 2 (some .boolean) 1 [.ref 1, .int k] (wX c x) (fun v ω' => ∃ (r : Int32) (c' : CS) (t' : XT), v = some (.int r) ∧ ω' = wX c' t' ∧ K r c' t') := by
    refine XM.of (by decide) (Nat.le_of_ble_eq_true rfl) (fun κ hQ => ?_)
    show Wat κ 0 [(0, .ref 1), (1, .int k)] [] (wX c x)
    unfold wp_X2_isPad at h
    refine xr_aload_n (pc := 0) κ 0 (x := 1) dX2_isPad_0 rfl rfl ?_
    refine xr_get (pc := 1) κ xc2 (k := 1) (f := 2) (v := .int (c_pads c)) kw_1_32 (by decide) rfl (by decide) rfl dX2_isPad_1 ?_
    refine xr_iload_n (pc := 4) κ 1 (x := k) dX2_isPad_4 rfl rfl ?_
    refine xr_callSN (pc := 5) κ [.int (c_pads c), .int k] kw_2_4 tg_X5_has (snd_X5_has _ _ _ h) rfl (by decide) (by decide) (Nat.le_of_ble_eq_true rfl) dX2_isPad_5 (fun v9 ω9 hk9 => ?_)
    obtain ⟨r1, rfl, e9, h⟩ := hk9
    rw [e9]
    show Wat κ 8 [(0, .ref 1), (1, .int k)] [.int r1] (wX c x)
    obtain ⟨hn, h⟩ := h
    exact xr_zret (pc := 8) κ _ hQ hn dX2_isPad_8 ⟨_, _, _, rfl, rfl, h⟩
-- ChipVolts$Net.allBits()I, level 0
def wp_X2_allBits (c : CS) (x : XT) (K : Int32 → CS → XT → Prop) : Prop :=
    K (((1 : Int32) <<< ((c_n c) &&& 31)) - (1 : Int32)) c x
set_option maxHeartbeats 4000000 in
set_option maxRecDepth 100000 in
theorem snd_X2_allBits {l : Launch} (c : CS) (x : XT) (K : Int32 → CS → XT → Prop) (h : wp_X2_allBits  c x K) : XM l xTX yX2_allBits cX2_allBits 1 (some .int) 0 [.ref 1] (wX c x) (fun v ω' => ∃ (r : Int32) (c' : CS) (t' : XT), v = some (.int r) ∧ ω' = wX c' t' ∧ K r c' t') := by
    refine XM.of (by decide) (Nat.le_of_ble_eq_true rfl) (fun κ hQ => ?_)
    show Wat κ 0 [(0, .ref 1)] [] (wX c x)
    unfold wp_X2_allBits at h
    refine xr_iconst (pc := 0) κ (v := 1) dX2_allBits_0 (by decide) ?_
    refine xr_aload_n (pc := 1) κ 0 (x := 1) dX2_allBits_1 rfl rfl ?_
    refine xr_get (pc := 2) κ xc2 (k := 1) (f := 0) (v := .int (c_n c)) kw_1_25 (by decide) rfl (by decide) rfl dX2_allBits_2 ?_
    refine xr_ishl (pc := 5) κ dX2_allBits_5 ?_
    refine xr_iconst (pc := 6) κ (v := 1) dX2_allBits_6 (by decide) ?_
    refine xr_isub (pc := 7) κ dX2_allBits_7 ?_
    exact xr_iret (pc := 8) κ _ hQ dX2_allBits_8 ⟨_, _, _, rfl, rfl, h⟩
-- ChipVolts$Net.clear(I)V, level 0
def nd_X2_clear_17 (K : CS → XT → Prop) : Nat → Int32 → CS → XT → Prop
  | 0 => fun _ _ _ => False
  | n + 1 => fun v2 c x =>
    ((7 : Int32) ≤ v2 →
      K c x) ∧
    (¬ (7 : Int32) ≤ v2 →
      vp_in v2 7 ∧
      nd_X2_clear_17 K n (v2 + 1) (cs_pulls c (upd (c_pulls c) v2.toNatClampNeg (0 : Int32))) x)
set_option maxHeartbeats 4000000 in
set_option maxRecDepth 100000 in
theorem snd_X2_clear_17 {l : Launch} (κ : XC l xTX cX2_clear yX2_clear.cls 3 (none) 0) (K : CS → XT → Prop) (hQ : xRet κ (fun v ω' => ∃ (c' : CS) (t' : XT), v = none ∧ ω' = wX c' t' ∧ K c' t')) : ∀ (n : Nat) (v2 : Int32) (c : CS) (x : XT), nd_X2_clear_17 K n v2 c x → Wat κ 17 [(0, .ref 1), (2, .int v2)] [] (wX c x) := by
  intro n
  induction n with
  | zero => intro v2 c x h; exact h.elim
  | succ n ih =>
    intro v2 c x h
    unfold nd_X2_clear_17 at h
    refine xr_iload_n (pc := 17) κ 1 (x := v2) dX2_clear_17 rfl rfl ?_
    refine xr_bipush (pc := 18) κ (v := 7) dX2_clear_18 (by decide) ?_
    refine xr_icmp_ge (pc := 20) κ (tgt := 36) dX2_clear_20 (by decide) (fun c1 => ?_) (fun c1 => ?_)
    · have h := h.1 c1
      exact xr_vret (pc := 36) κ _ hQ dX2_clear_36 ⟨_, _, rfl, rfl, h⟩
    · have h := h.2 c1
      refine xr_aload_n (pc := 23) κ 0 (x := 1) dX2_clear_23 rfl rfl ?_
      refine xr_get (pc := 24) κ xc2 (k := 1) (f := 3) (v := .ref 2) kw_1_35 (by decide) rfl (by decide) rfl dX2_clear_24 ?_
      refine xr_iload_n (pc := 27) κ 1 (x := v2) dX2_clear_27 rfl rfl ?_
      refine xr_iconst (pc := 28) κ (v := 0) dX2_clear_28 (by decide) ?_
      obtain ⟨i2, h⟩ := h
      refine xr_iast (pc := 29) κ (k := 2) (n := 7) (f := c_pulls c) (ω' := wX (cs_pulls c (upd (c_pulls c) v2.toNatClampNeg (0 : Int32))) x) (by decide) rfl rfl i2 (wXa_pulls _ _ _) dX2_clear_29 ?_
      refine xr_iinc (pc := 30) κ 1 [1, 0] (lv' := [(0, .ref 1), (2, .int (v2 + 1))]) (x := v2) (v := v2 + 1) dX2_clear_30 rfl rfl (by decide) rfl ?_
      refine xr_goto (pc := 33) κ (tgt := 17) dX2_clear_33 (by decide) ?_
      exact ih _ _ _ h
def wp_X2_clear (kn : Int32) (c : CS) (x : XT) (K : CS → XT → Prop) : Prop :=
    ∃ n17 : Nat, nd_X2_clear_17 K n17 (0 : Int32) (cs_pads (cs_wires (cs_n c kn) (0 : Int32)) (0 : Int32)) x
set_option maxHeartbeats 4000000 in
set_option maxRecDepth 100000 in
theorem snd_X2_clear {l : Launch} (kn : Int32) (c : CS) (x : XT) (K : CS → XT → Prop) (h : wp_X2_clear kn c x K) : XM l xTX yX2_clear cX2_clear 3 (none) 0 [.ref 1, .int kn] (wX c x) (fun v ω' => ∃ (c' : CS) (t' : XT), v = none ∧ ω' = wX c' t' ∧ K c' t') := by
    refine XM.of (by decide) (Nat.le_of_ble_eq_true rfl) (fun κ hQ => ?_)
    show Wat κ 0 [(0, .ref 1), (1, .int kn)] [] (wX c x)
    unfold wp_X2_clear at h
    refine xr_aload_n (pc := 0) κ 0 (x := 1) dX2_clear_0 rfl rfl ?_
    refine xr_iload_n (pc := 1) κ 1 (x := kn) dX2_clear_1 rfl rfl ?_
    refine xr_put (pc := 2) κ xc2 (k := 1) (f := 0) (v := .int kn) (ω' := wX (cs_n c kn) x) kw_1_25 (by decide) rfl (by decide) rfl (fun _ => rfl) (fun _ => rfl) (Nat.le_of_ble_eq_true rfl) (wXf_n _ _ _) dX2_clear_2 ?_
    refine xr_aload_n (pc := 5) κ 0 (x := 1) dX2_clear_5 rfl rfl ?_
    refine xr_iconst (pc := 6) κ (v := 0) dX2_clear_6 (by decide) ?_
    refine xr_put (pc := 7) κ xc2 (k := 1) (f := 1) (v := .int (0 : Int32)) (ω' := wX (cs_wires (cs_n c kn) (0 : Int32)) x) kw_1_28 (by decide) rfl (by decide) rfl (fun _ => rfl) (fun _ => rfl) (Nat.le_of_ble_eq_true rfl) (wXf_wires _ _ _) dX2_clear_7 ?_
    refine xr_aload_n (pc := 10) κ 0 (x := 1) dX2_clear_10 rfl rfl ?_
    refine xr_iconst (pc := 11) κ (v := 0) dX2_clear_11 (by decide) ?_
    refine xr_put (pc := 12) κ xc2 (k := 1) (f := 2) (v := .int (0 : Int32)) (ω' := wX (cs_pads (cs_wires (cs_n c kn) (0 : Int32)) (0 : Int32)) x) kw_1_32 (by decide) rfl (by decide) rfl (fun _ => rfl) (fun _ => rfl) (Nat.le_of_ble_eq_true rfl) (wXf_pads _ _ _) dX2_clear_12 ?_
    refine xr_iconst (pc := 15) κ (v := 0) dX2_clear_15 (by decide) ?_
    refine xr_istore_n (pc := 16) κ [1, 2, 0] (lv' := [(0, .ref 1), (1, .int kn), (2, .int (0 : Int32))]) dX2_clear_16 rfl (by decide) rfl ?_
    refine xr_sub (pc := 17) κ [0, 2] (lv' := [(0, .ref 1), (2, .int (0 : Int32))]) rfl ?_
    obtain ⟨n0, h⟩ := h
    exact snd_X2_clear_17 κ K hQ n0 _ _ _ h
-- ChipVolts$Net.addWire(IIII)I, level 0
def wp_X2_addWire (a : Int32) (b : Int32) (wi : Int32) (pr : Int32) (c : CS) (x : XT) (K : Int32 → CS → XT → Prop) : Prop :=
    vp_in (c_wires c) 12 ∧
    vp_in (c_wires c) 12 ∧
    vp_in (c_wires c) 12 ∧
    vp_in (c_wires c) 12 ∧
    K (c_wires c) (cs_wires (cs_price (cs_wide (cs_to (cs_from c (upd (c_from c) (((c_wires c)).toNatClampNeg) a)) (upd (c_to c) (((c_wires c)).toNatClampNeg) b)) (upd (c_wide c) (((c_wires c)).toNatClampNeg) wi)) (upd (c_price c) (((c_wires c)).toNatClampNeg) pr)) ((c_wires c) + (1 : Int32))) x
set_option maxHeartbeats 4000000 in
set_option maxRecDepth 100000 in
theorem snd_X2_addWire {l : Launch} (a : Int32) (b : Int32) (wi : Int32) (pr : Int32) (c : CS) (x : XT) (K : Int32 → CS → XT → Prop) (h : wp_X2_addWire a b wi pr c x K) : XM l xTX yX2_addWire cX2_addWire 6 (some .int) 0 [.ref 1, .int a, .int b, .int wi, .int pr] (wX c x) (fun v ω' => ∃ (r : Int32) (c' : CS) (t' : XT), v = some (.int r) ∧ ω' = wX c' t' ∧ K r c' t') := by
    refine XM.of (by decide) (Nat.le_of_ble_eq_true rfl) (fun κ hQ => ?_)
    show Wat κ 0 [(0, .ref 1), (1, .int a), (2, .int b), (3, .int wi), (4, .int pr)] [] (wX c x)
    unfold wp_X2_addWire at h
    refine xr_aload_n (pc := 0) κ 0 (x := 1) dX2_addWire_0 rfl rfl ?_
    refine xr_get (pc := 1) κ xc2 (k := 1) (f := 1) (v := .int (c_wires c)) kw_1_28 (by decide) rfl (by decide) rfl dX2_addWire_1 ?_
    refine xr_istore (pc := 4) κ [1, 2, 3, 4, 5, 0] (lv' := [(0, .ref 1), (1, .int a), (2, .int b), (3, .int wi), (4, .int pr), (5, .int (c_wires c))]) dX2_addWire_4 (by decide) rfl ?_
    refine xr_aload_n (pc := 6) κ 0 (x := 1) dX2_addWire_6 rfl rfl ?_
    refine xr_get (pc := 7) κ xc2 (k := 1) (f := 4) (v := .ref 3) kw_1_38 (by decide) rfl (by decide) rfl dX2_addWire_7 ?_
    refine xr_iload (pc := 10) κ 5 (x := (c_wires c)) dX2_addWire_10 rfl ?_
    refine xr_iload_n (pc := 12) κ 1 (x := a) dX2_addWire_12 rfl rfl ?_
    obtain ⟨i1, h⟩ := h
    refine xr_iast (pc := 13) κ (k := 3) (n := 12) (f := c_from c) (ω' := wX (cs_from c (upd (c_from c) (((c_wires c)).toNatClampNeg) a)) x) (by decide) rfl rfl i1 (wXa_from _ _ _) dX2_addWire_13 ?_
    refine xr_aload_n (pc := 14) κ 0 (x := 1) dX2_addWire_14 rfl rfl ?_
    refine xr_get (pc := 15) κ xc2 (k := 1) (f := 5) (v := .ref 4) kw_1_42 (by decide) rfl (by decide) rfl dX2_addWire_15 ?_
    refine xr_iload (pc := 18) κ 5 (x := (c_wires c)) dX2_addWire_18 rfl ?_
    refine xr_iload_n (pc := 20) κ 2 (x := b) dX2_addWire_20 rfl rfl ?_
    obtain ⟨i2, h⟩ := h
    refine xr_iast (pc := 21) κ (k := 4) (n := 12) (f := c_to c) (ω' := wX (cs_to (cs_from c (upd (c_from c) (((c_wires c)).toNatClampNeg) a)) (upd (c_to c) (((c_wires c)).toNatClampNeg) b)) x) (by decide) rfl rfl i2 (wXa_to _ _ _) dX2_addWire_21 ?_
    refine xr_aload_n (pc := 22) κ 0 (x := 1) dX2_addWire_22 rfl rfl ?_
    refine xr_get (pc := 23) κ xc2 (k := 1) (f := 6) (v := .ref 5) kw_1_46 (by decide) rfl (by decide) rfl dX2_addWire_23 ?_
    refine xr_iload (pc := 26) κ 5 (x := (c_wires c)) dX2_addWire_26 rfl ?_
    refine xr_iload_n (pc := 28) κ 3 (x := wi) dX2_addWire_28 rfl rfl ?_
    obtain ⟨i3, h⟩ := h
    refine xr_iast (pc := 29) κ (k := 5) (n := 12) (f := c_wide c) (ω' := wX (cs_wide (cs_to (cs_from c (upd (c_from c) (((c_wires c)).toNatClampNeg) a)) (upd (c_to c) (((c_wires c)).toNatClampNeg) b)) (upd (c_wide c) (((c_wires c)).toNatClampNeg) wi)) x) (by decide) rfl rfl i3 (wXa_wide _ _ _) dX2_addWire_29 ?_
    refine xr_aload_n (pc := 30) κ 0 (x := 1) dX2_addWire_30 rfl rfl ?_
    refine xr_get (pc := 31) κ xc2 (k := 1) (f := 7) (v := .ref 6) kw_1_50 (by decide) rfl (by decide) rfl dX2_addWire_31 ?_
    refine xr_iload (pc := 34) κ 5 (x := (c_wires c)) dX2_addWire_34 rfl ?_
    refine xr_iload (pc := 36) κ 4 (x := pr) dX2_addWire_36 rfl ?_
    obtain ⟨i4, h⟩ := h
    refine xr_iast (pc := 38) κ (k := 6) (n := 12) (f := c_price c) (ω' := wX (cs_price (cs_wide (cs_to (cs_from c (upd (c_from c) (((c_wires c)).toNatClampNeg) a)) (upd (c_to c) (((c_wires c)).toNatClampNeg) b)) (upd (c_wide c) (((c_wires c)).toNatClampNeg) wi)) (upd (c_price c) (((c_wires c)).toNatClampNeg) pr)) x) (by decide) rfl rfl i4 (wXa_price _ _ _) dX2_addWire_38 ?_
    refine xr_aload_n (pc := 39) κ 0 (x := 1) dX2_addWire_39 rfl rfl ?_
    refine xr_dup (pc := 40) κ rfl dX2_addWire_40 ?_
    refine xr_get (pc := 41) κ xc2 (k := 1) (f := 1) (v := .int (c_wires c)) kw_1_28 (by decide) rfl (by decide) rfl dX2_addWire_41 ?_
    refine xr_iconst (pc := 44) κ (v := 1) dX2_addWire_44 (by decide) ?_
    refine xr_iadd (pc := 45) κ dX2_addWire_45 ?_
    refine xr_put (pc := 46) κ xc2 (k := 1) (f := 1) (v := .int ((c_wires c) + (1 : Int32))) (ω' := wX (cs_wires (cs_price (cs_wide (cs_to (cs_from c (upd (c_from c) (((c_wires c)).toNatClampNeg) a)) (upd (c_to c) (((c_wires c)).toNatClampNeg) b)) (upd (c_wide c) (((c_wires c)).toNatClampNeg) wi)) (upd (c_price c) (((c_wires c)).toNatClampNeg) pr)) ((c_wires c) + (1 : Int32))) x) kw_1_28 (by decide) rfl (by decide) rfl (fun _ => rfl) (fun _ => rfl) (Nat.le_of_ble_eq_true rfl) (wXf_wires _ _ _) dX2_addWire_46 ?_
    refine xr_iload (pc := 49) κ 5 (x := (c_wires c)) dX2_addWire_49 rfl ?_
    exact xr_iret (pc := 51) κ _ hQ dX2_addWire_51 ⟨_, _, _, rfl, rfl, h⟩
-- ChipVolts$Blocks.isBlock(I)Z, level 0
def wp_X1_isBlock (b : Int32) (c : CS) (x : XT) (K : Int32 → CS → XT → Prop) : Prop :=
    (b < 0 →
      K (0 : Int32) c x) ∧
    (¬ b < 0 →
      ((c_nb c) ≤ b →
        K (0 : Int32) c x) ∧
      (¬ (c_nb c) ≤ b →
        K (1 : Int32) c x))
set_option maxHeartbeats 4000000 in
set_option maxRecDepth 100000 in
theorem snd_X1_isBlock {l : Launch} (b : Int32) (c : CS) (x : XT) (K : Int32 → CS → XT → Prop) (h : wp_X1_isBlock b c x K) : XM l xTX yX1_isBlock cX1_isBlock 2 (some .boolean) 0 [.ref 7, .int b] (wX c x) (fun v ω' => ∃ (r : Int32) (c' : CS) (t' : XT), v = some (.int r) ∧ ω' = wX c' t' ∧ K r c' t') := by
    refine XM.of (by decide) (Nat.le_of_ble_eq_true rfl) (fun κ hQ => ?_)
    show Wat κ 0 [(0, .ref 7), (1, .int b)] [] (wX c x)
    unfold wp_X1_isBlock at h
    refine xr_iload_n (pc := 0) κ 1 (x := b) dX1_isBlock_0 rfl rfl ?_
    refine xr_if_lt (pc := 1) κ (tgt := 16) dX1_isBlock_1 (by decide) (fun c1 => ?_) (fun c1 => ?_)
    · have h := h.1 c1
      refine xr_iconst (pc := 16) κ (v := 0) dX1_isBlock_16 (by decide) ?_
      exact xr_zret (pc := 17) κ _ hQ rfl dX1_isBlock_17 ⟨_, _, _, rfl, rfl, h⟩
    · have h := h.2 c1
      refine xr_iload_n (pc := 4) κ 1 (x := b) dX1_isBlock_4 rfl rfl ?_
      refine xr_aload_n (pc := 5) κ 0 (x := 7) dX1_isBlock_5 rfl rfl ?_
      refine xr_get (pc := 6) κ xc1 (k := 7) (f := 0) (v := .int (c_nb c)) kw_1_77 (by decide) rfl (by decide) rfl dX1_isBlock_6 ?_
      refine xr_icmp_ge (pc := 9) κ (tgt := 16) dX1_isBlock_9 (by decide) (fun c2 => ?_) (fun c2 => ?_)
      · have h := h.1 c2
        refine xr_iconst (pc := 16) κ (v := 0) dX1_isBlock_16 (by decide) ?_
        exact xr_zret (pc := 17) κ _ hQ rfl dX1_isBlock_17 ⟨_, _, _, rfl, rfl, h⟩
      · have h := h.2 c2
        refine xr_iconst (pc := 12) κ (v := 1) dX1_isBlock_12 (by decide) ?_
        refine xr_goto (pc := 13) κ (tgt := 17) dX1_isBlock_13 (by decide) ?_
        exact xr_zret (pc := 17) κ _ hQ rfl dX1_isBlock_17 ⟨_, _, _, rfl, rfl, h⟩
-- ChipVolts$Blocks.clear()V, level 0
def wp_X1_clear (c : CS) (x : XT) (K : CS → XT → Prop) : Prop :=
    K (cs_budget (cs_nb c (0 : Int32)) (0 : Int32)) x
set_option maxHeartbeats 4000000 in
set_option maxRecDepth 100000 in
theorem snd_X1_clear {l : Launch} (c : CS) (x : XT) (K : CS → XT → Prop) (h : wp_X1_clear  c x K) : XM l xTX yX1_clear cX1_clear 1 (none) 0 [.ref 7] (wX c x) (fun v ω' => ∃ (c' : CS) (t' : XT), v = none ∧ ω' = wX c' t' ∧ K c' t') := by
    refine XM.of (by decide) (Nat.le_of_ble_eq_true rfl) (fun κ hQ => ?_)
    show Wat κ 0 [(0, .ref 7)] [] (wX c x)
    unfold wp_X1_clear at h
    refine xr_aload_n (pc := 0) κ 0 (x := 7) dX1_clear_0 rfl rfl ?_
    refine xr_iconst (pc := 1) κ (v := 0) dX1_clear_1 (by decide) ?_
    refine xr_put (pc := 2) κ xc1 (k := 7) (f := 0) (v := .int (0 : Int32)) (ω' := wX (cs_nb c (0 : Int32)) x) kw_1_77 (by decide) rfl (by decide) rfl (fun _ => rfl) (fun _ => rfl) (Nat.le_of_ble_eq_true rfl) (wXf_nb _ _ _) dX1_clear_2 ?_
    refine xr_aload_n (pc := 5) κ 0 (x := 7) dX1_clear_5 rfl rfl ?_
    refine xr_iconst (pc := 6) κ (v := 0) dX1_clear_6 (by decide) ?_
    refine xr_put (pc := 7) κ xc1 (k := 7) (f := 1) (v := .int (0 : Int32)) (ω' := wX (cs_budget (cs_nb c (0 : Int32)) (0 : Int32)) x) kw_1_80 (by decide) rfl (by decide) rfl (fun _ => rfl) (fun _ => rfl) (Nat.le_of_ble_eq_true rfl) (wXf_budget _ _ _) dX1_clear_7 ?_
    exact xr_vret (pc := 10) κ _ hQ dX1_clear_10 ⟨_, _, rfl, rfl, h⟩
-- ChipVolts$Blocks.addBlock(II)I, level 0
def wp_X1_addBlock (k : Int32) (mo : Int32) (c : CS) (x : XT) (K : Int32 → CS → XT → Prop) : Prop :=
    vp_in (c_nb c) 6 ∧
    vp_in (c_nb c) 6 ∧
    K (c_nb c) (cs_nb (cs_most (cs_sits c (upd (c_sits c) (((c_nb c)).toNatClampNeg) k)) (upd (c_most c) (((c_nb c)).toNatClampNeg) mo)) ((c_nb c) + (1 : Int32))) x
set_option maxHeartbeats 4000000 in
set_option maxRecDepth 100000 in
theorem snd_X1_addBlock {l : Launch} (k : Int32) (mo : Int32) (c : CS) (x : XT) (K : Int32 → CS → XT → Prop) (h : wp_X1_addBlock k mo c x K) : XM l xTX yX1_addBlock cX1_addBlock 4 (some .int) 0 [.ref 7, .int k, .int mo] (wX c x) (fun v ω' => ∃ (r : Int32) (c' : CS) (t' : XT), v = some (.int r) ∧ ω' = wX c' t' ∧ K r c' t') := by
    refine XM.of (by decide) (Nat.le_of_ble_eq_true rfl) (fun κ hQ => ?_)
    show Wat κ 0 [(0, .ref 7), (1, .int k), (2, .int mo)] [] (wX c x)
    unfold wp_X1_addBlock at h
    refine xr_aload_n (pc := 0) κ 0 (x := 7) dX1_addBlock_0 rfl rfl ?_
    refine xr_get (pc := 1) κ xc1 (k := 7) (f := 0) (v := .int (c_nb c)) kw_1_77 (by decide) rfl (by decide) rfl dX1_addBlock_1 ?_
    refine xr_istore_n (pc := 4) κ [1, 2, 3, 0] (lv' := [(0, .ref 7), (1, .int k), (2, .int mo), (3, .int (c_nb c))]) dX1_addBlock_4 rfl (by decide) rfl ?_
    refine xr_aload_n (pc := 5) κ 0 (x := 7) dX1_addBlock_5 rfl rfl ?_
    refine xr_get (pc := 6) κ xc1 (k := 7) (f := 2) (v := .ref 8) kw_1_82 (by decide) rfl (by decide) rfl dX1_addBlock_6 ?_
    refine xr_iload_n (pc := 9) κ 3 (x := (c_nb c)) dX1_addBlock_9 rfl rfl ?_
    refine xr_iload_n (pc := 10) κ 1 (x := k) dX1_addBlock_10 rfl rfl ?_
    obtain ⟨i1, h⟩ := h
    refine xr_iast (pc := 11) κ (k := 8) (n := 6) (f := c_sits c) (ω' := wX (cs_sits c (upd (c_sits c) (((c_nb c)).toNatClampNeg) k)) x) (by decide) rfl rfl i1 (wXa_sits _ _ _) dX1_addBlock_11 ?_
    refine xr_aload_n (pc := 12) κ 0 (x := 7) dX1_addBlock_12 rfl rfl ?_
    refine xr_get (pc := 13) κ xc1 (k := 7) (f := 3) (v := .ref 9) kw_1_85 (by decide) rfl (by decide) rfl dX1_addBlock_13 ?_
    refine xr_iload_n (pc := 16) κ 3 (x := (c_nb c)) dX1_addBlock_16 rfl rfl ?_
    refine xr_iload_n (pc := 17) κ 2 (x := mo) dX1_addBlock_17 rfl rfl ?_
    obtain ⟨i2, h⟩ := h
    refine xr_iast (pc := 18) κ (k := 9) (n := 6) (f := c_most c) (ω' := wX (cs_most (cs_sits c (upd (c_sits c) (((c_nb c)).toNatClampNeg) k)) (upd (c_most c) (((c_nb c)).toNatClampNeg) mo)) x) (by decide) rfl rfl i2 (wXa_most _ _ _) dX1_addBlock_18 ?_
    refine xr_aload_n (pc := 19) κ 0 (x := 7) dX1_addBlock_19 rfl rfl ?_
    refine xr_dup (pc := 20) κ rfl dX1_addBlock_20 ?_
    refine xr_get (pc := 21) κ xc1 (k := 7) (f := 0) (v := .int (c_nb c)) kw_1_77 (by decide) rfl (by decide) rfl dX1_addBlock_21 ?_
    refine xr_iconst (pc := 24) κ (v := 1) dX1_addBlock_24 (by decide) ?_
    refine xr_iadd (pc := 25) κ dX1_addBlock_25 ?_
    refine xr_put (pc := 26) κ xc1 (k := 7) (f := 0) (v := .int ((c_nb c) + (1 : Int32))) (ω' := wX (cs_nb (cs_most (cs_sits c (upd (c_sits c) (((c_nb c)).toNatClampNeg) k)) (upd (c_most c) (((c_nb c)).toNatClampNeg) mo)) ((c_nb c) + (1 : Int32))) x) kw_1_77 (by decide) rfl (by decide) rfl (fun _ => rfl) (fun _ => rfl) (Nat.le_of_ble_eq_true rfl) (wXf_nb _ _ _) dX1_addBlock_26 ?_
    refine xr_iload_n (pc := 29) κ 3 (x := (c_nb c)) dX1_addBlock_29 rfl rfl ?_
    exact xr_iret (pc := 30) κ _ hQ dX1_addBlock_30 ⟨_, _, _, rfl, rfl, h⟩
-- ChipVolts$Blocks.nextToGet([J)I, level 0
def nd_X1_nextToGet_52 (ri : Nat) (K : Int32 → CS → XT → Prop) (L4 : Int32 → Int32 → CS → XT → Prop) (v2 : Int32) (v3 : Int32) (c : CS) (x : XT) : Prop :=
    L4 v2 (v3 + 1) c x
set_option maxHeartbeats 4000000 in
set_option maxRecDepth 100000 in
theorem snd_X1_nextToGet_52 {l : Launch} (κ : XC l xTX cX1_nextToGet yX1_nextToGet.cls 4 (some .int) 0) (ri : Nat) (hri : ri < 7) (K : Int32 → CS → XT → Prop) (hQ : xRet κ (fun v ω' => ∃ (r : Int32) (c' : CS) (t' : XT), v = some (.int r) ∧ ω' = wX c' t' ∧ K r c' t')) (L4 : Int32 → Int32 → CS → XT → Prop) (hL4 : ∀ (v2 : Int32) (v3 : Int32) (c : CS) (x : XT), L4 v2 v3 c x → Wat κ 4 [(0, .ref 7), (1, .ref (xb 0 + 2 + ri)), (2, .int v2), (3, .int v3)] [] (wX c x)) (v2 : Int32) (v3 : Int32) (c : CS) (x : XT) (h : nd_X1_nextToGet_52 ri K L4 v2 v3 c x) : Wat κ 52 [(0, .ref 7), (1, .ref (xb 0 + 2 + ri)), (2, .int v2), (3, .int v3)] [] (wX c x) := by
    unfold nd_X1_nextToGet_52 at h
    refine xr_iinc (pc := 52) κ 3 [1, 2, 3, 0] (lv' := [(0, .ref 7), (1, .ref (xb 0 + 2 + ri)), (2, .int v2), (3, .int (v3 + 1))]) (x := v3) (v := v3 + 1) dX1_nextToGet_52 rfl rfl (by decide) rfl ?_
    refine xr_goto (pc := 55) κ (tgt := 4) dX1_nextToGet_55 (by decide) ?_
    exact hL4 _ _ _ _ h
def nd_X1_nextToGet_50 (ri : Nat) (K : Int32 → CS → XT → Prop) (L4 : Int32 → Int32 → CS → XT → Prop) (v3 : Int32) (c : CS) (x : XT) : Prop :=
    nd_X1_nextToGet_52 ri K L4 v3 v3 c x
set_option maxHeartbeats 4000000 in
set_option maxRecDepth 100000 in
theorem snd_X1_nextToGet_50 {l : Launch} (κ : XC l xTX cX1_nextToGet yX1_nextToGet.cls 4 (some .int) 0) (ri : Nat) (hri : ri < 7) (K : Int32 → CS → XT → Prop) (hQ : xRet κ (fun v ω' => ∃ (r : Int32) (c' : CS) (t' : XT), v = some (.int r) ∧ ω' = wX c' t' ∧ K r c' t')) (L4 : Int32 → Int32 → CS → XT → Prop) (hL4 : ∀ (v2 : Int32) (v3 : Int32) (c : CS) (x : XT), L4 v2 v3 c x → Wat κ 4 [(0, .ref 7), (1, .ref (xb 0 + 2 + ri)), (2, .int v2), (3, .int v3)] [] (wX c x)) (v3 : Int32) (c : CS) (x : XT) (h : nd_X1_nextToGet_50 ri K L4 v3 c x) : Wat κ 50 [(0, .ref 7), (1, .ref (xb 0 + 2 + ri)), (3, .int v3)] [] (wX c x) := by
    unfold nd_X1_nextToGet_50 at h
    refine xr_iload_n (pc := 50) κ 2 (x := v3) dX1_nextToGet_50 rfl rfl ?_
    refine xr_istore_n (pc := 51) κ [1, 2, 0, 3] (lv' := [(0, .ref 7), (1, .ref (xb 0 + 2 + ri)), (2, .int v3), (3, .int v3)]) dX1_nextToGet_51 rfl (by decide) rfl ?_
    exact snd_X1_nextToGet_52 κ ri hri K hQ _ hL4 _ _ _ _ h
def nd_X1_nextToGet_4 (ri : Nat) (K : Int32 → CS → XT → Prop) : Nat → Int32 → Int32 → CS → XT → Prop
  | 0 => fun _ _ _ _ => False
  | n + 1 => fun v2 v3 c x =>
    ((c_nb c) ≤ v3 →
      K v2 c x) ∧
    (¬ (c_nb c) ≤ v3 →
      vp_in v3 6 ∧
      ((x_gets x v3.toNatClampNeg) = (-1 : Int32) →
        (v2 = (-1 : Int32) →
          nd_X1_nextToGet_50 ri K (fun v2 v3 c x => nd_X1_nextToGet_4 ri K n v2 v3 c x) v3 c x) ∧
        (¬ v2 = (-1 : Int32) →
          vp_in v3 6 ∧
          vp_in (c_sits c v3.toNatClampNeg) 7 ∧
          vp_in v2 6 ∧
          vp_in (c_sits c v2.toNatClampNeg) 7 ∧
          (((b_cell (x_bal x 0)) ri (((c_sits c v3.toNatClampNeg)).toNatClampNeg)) ≤ ((b_cell (x_bal x 0)) ri (((c_sits c v2.toNatClampNeg)).toNatClampNeg)) →
            nd_X1_nextToGet_52 ri K (fun v2 v3 c x => nd_X1_nextToGet_4 ri K n v2 v3 c x) v2 v3 c x) ∧
          (¬ ((b_cell (x_bal x 0)) ri (((c_sits c v3.toNatClampNeg)).toNatClampNeg)) ≤ ((b_cell (x_bal x 0)) ri (((c_sits c v2.toNatClampNeg)).toNatClampNeg)) →
            nd_X1_nextToGet_50 ri K (fun v2 v3 c x => nd_X1_nextToGet_4 ri K n v2 v3 c x) v3 c x))) ∧
      (¬ (x_gets x v3.toNatClampNeg) = (-1 : Int32) →
        nd_X1_nextToGet_52 ri K (fun v2 v3 c x => nd_X1_nextToGet_4 ri K n v2 v3 c x) v2 v3 c x))
set_option maxHeartbeats 4000000 in
set_option maxRecDepth 100000 in
theorem snd_X1_nextToGet_4 {l : Launch} (κ : XC l xTX cX1_nextToGet yX1_nextToGet.cls 4 (some .int) 0) (ri : Nat) (hri : ri < 7) (K : Int32 → CS → XT → Prop) (hQ : xRet κ (fun v ω' => ∃ (r : Int32) (c' : CS) (t' : XT), v = some (.int r) ∧ ω' = wX c' t' ∧ K r c' t')) : ∀ (n : Nat) (v2 : Int32) (v3 : Int32) (c : CS) (x : XT), nd_X1_nextToGet_4 ri K n v2 v3 c x → Wat κ 4 [(0, .ref 7), (1, .ref (xb 0 + 2 + ri)), (2, .int v2), (3, .int v3)] [] (wX c x) := by
  intro n
  induction n with
  | zero => intro v2 v3 c x h; exact h.elim
  | succ n ih =>
    intro v2 v3 c x h
    unfold nd_X1_nextToGet_4 at h
    refine xr_iload_n (pc := 4) κ 3 (x := v3) dX1_nextToGet_4 rfl rfl ?_
    refine xr_aload_n (pc := 5) κ 0 (x := 7) dX1_nextToGet_5 rfl rfl ?_
    refine xr_get (pc := 6) κ xc1 (k := 7) (f := 0) (v := .int (c_nb c)) kw_1_77 (by decide) rfl (by decide) rfl dX1_nextToGet_6 ?_
    refine xr_icmp_ge (pc := 9) κ (tgt := 58) dX1_nextToGet_9 (by decide) (fun c1 => ?_) (fun c1 => ?_)
    · have h := h.1 c1
      refine xr_iload_n (pc := 58) κ 2 (x := v2) dX1_nextToGet_58 rfl rfl ?_
      exact xr_iret (pc := 59) κ _ hQ dX1_nextToGet_59 ⟨_, _, _, rfl, rfl, h⟩
    · have h := h.2 c1
      refine xr_aload_n (pc := 12) κ 0 (x := 7) dX1_nextToGet_12 rfl rfl ?_
      refine xr_get (pc := 13) κ xc1 (k := 7) (f := 4) (v := .ref 10) kw_1_88 (by decide) rfl (by decide) rfl dX1_nextToGet_13 ?_
      refine xr_iload_n (pc := 16) κ 3 (x := v3) dX1_nextToGet_16 rfl rfl ?_
      obtain ⟨i2, h⟩ := h
      refine xr_iald (pc := 17) κ (k := 10) (n := 6) (f := x_gets x) (by decide) rfl rfl i2 dX1_nextToGet_17 ?_
      refine xr_iconst (pc := 18) κ (v := -1) dX1_nextToGet_18 (by decide) ?_
      refine xr_icmp_eq (pc := 19) κ (tgt := 25) dX1_nextToGet_19 (by decide) (fun c3 => ?_) (fun c3 => ?_)
      · have h := h.1 c3
        refine xr_iload_n (pc := 25) κ 2 (x := v2) dX1_nextToGet_25 rfl rfl ?_
        refine xr_iconst (pc := 26) κ (v := -1) dX1_nextToGet_26 (by decide) ?_
        refine xr_icmp_eq (pc := 27) κ (tgt := 50) dX1_nextToGet_27 (by decide) (fun c4 => ?_) (fun c4 => ?_)
        · have h := h.1 c4
          refine xr_sub (pc := 50) κ [0, 1, 3] (lv' := [(0, .ref 7), (1, .ref (xb 0 + 2 + ri)), (3, .int v3)]) rfl ?_
          exact snd_X1_nextToGet_50 κ ri hri K hQ _ ih _ _ _ h
        · have h := h.2 c4
          refine xr_aload_n (pc := 30) κ 1 (x := (xb 0 + 2 + ri)) dX1_nextToGet_30 rfl rfl ?_
          refine xr_aload_n (pc := 31) κ 0 (x := 7) dX1_nextToGet_31 rfl rfl ?_
          refine xr_get (pc := 32) κ xc1 (k := 7) (f := 2) (v := .ref 8) kw_1_82 (by decide) rfl (by decide) rfl dX1_nextToGet_32 ?_
          refine xr_iload_n (pc := 35) κ 3 (x := v3) dX1_nextToGet_35 rfl rfl ?_
          obtain ⟨i5, h⟩ := h
          refine xr_iald (pc := 36) κ (k := 8) (n := 6) (f := c_sits c) (by decide) rfl rfl i5 dX1_nextToGet_36 ?_
          obtain ⟨i6, h⟩ := h
          refine xr_lald (pc := 37) κ (k := (xb 0 + 2 + ri)) (n := 7) (f := (b_cell (x_bal x 0)) ri) (xb_row_lt (by decide) hri) (xTX_row (by decide) hri) (wXb_row _ _ (by decide) hri) i6 dX1_nextToGet_37 ?_
          refine xr_aload_n (pc := 38) κ 1 (x := (xb 0 + 2 + ri)) dX1_nextToGet_38 rfl rfl ?_
          refine xr_aload_n (pc := 39) κ 0 (x := 7) dX1_nextToGet_39 rfl rfl ?_
          refine xr_get (pc := 40) κ xc1 (k := 7) (f := 2) (v := .ref 8) kw_1_82 (by decide) rfl (by decide) rfl dX1_nextToGet_40 ?_
          refine xr_iload_n (pc := 43) κ 2 (x := v2) dX1_nextToGet_43 rfl rfl ?_
          obtain ⟨i7, h⟩ := h
          refine xr_iald (pc := 44) κ (k := 8) (n := 6) (f := c_sits c) (by decide) rfl rfl i7 dX1_nextToGet_44 ?_
          obtain ⟨i8, h⟩ := h
          refine xr_lald (pc := 45) κ (k := (xb 0 + 2 + ri)) (n := 7) (f := (b_cell (x_bal x 0)) ri) (xb_row_lt (by decide) hri) (xTX_row (by decide) hri) (wXb_row _ _ (by decide) hri) i8 dX1_nextToGet_45 ?_
          refine xr_lcmp_le (pc := 46) κ (tgt := 52) dX1_nextToGet_46 dX1_nextToGet_47 (by decide) (fun c9 => ?_) (fun c9 => ?_)
          · have h := h.1 c9
            exact snd_X1_nextToGet_52 κ ri hri K hQ _ ih _ _ _ _ h
          · have h := h.2 c9
            refine xr_sub (pc := 50) κ [0, 1, 3] (lv' := [(0, .ref 7), (1, .ref (xb 0 + 2 + ri)), (3, .int v3)]) rfl ?_
            exact snd_X1_nextToGet_50 κ ri hri K hQ _ ih _ _ _ h
      · have h := h.2 c3
        refine xr_goto (pc := 22) κ (tgt := 52) dX1_nextToGet_22 (by decide) ?_
        exact snd_X1_nextToGet_52 κ ri hri K hQ _ ih _ _ _ _ h
def wp_X1_nextToGet (ri : Nat) (c : CS) (x : XT) (K : Int32 → CS → XT → Prop) : Prop :=
    ∃ n4 : Nat, nd_X1_nextToGet_4 ri K n4 (-1 : Int32) (0 : Int32) c x
set_option maxHeartbeats 4000000 in
set_option maxRecDepth 100000 in
theorem snd_X1_nextToGet {l : Launch} (ri : Nat) (hri : ri < 7) (c : CS) (x : XT) (K : Int32 → CS → XT → Prop) (h : wp_X1_nextToGet ri  c x K) : XM l xTX yX1_nextToGet cX1_nextToGet 4 (some .int) 0 [.ref 7, .ref (xb 0 + 2 + ri)] (wX c x) (fun v ω' => ∃ (r : Int32) (c' : CS) (t' : XT), v = some (.int r) ∧ ω' = wX c' t' ∧ K r c' t') := by
    refine XM.of (by decide) (Nat.le_of_ble_eq_true rfl) (fun κ hQ => ?_)
    show Wat κ 0 [(0, .ref 7), (1, .ref (xb 0 + 2 + ri))] [] (wX c x)
    unfold wp_X1_nextToGet at h
    refine xr_iconst (pc := 0) κ (v := -1) dX1_nextToGet_0 (by decide) ?_
    refine xr_istore_n (pc := 1) κ [1, 2, 0] (lv' := [(0, .ref 7), (1, .ref (xb 0 + 2 + ri)), (2, .int (-1 : Int32))]) dX1_nextToGet_1 rfl (by decide) rfl ?_
    refine xr_iconst (pc := 2) κ (v := 0) dX1_nextToGet_2 (by decide) ?_
    refine xr_istore_n (pc := 3) κ [1, 2, 3, 0] (lv' := [(0, .ref 7), (1, .ref (xb 0 + 2 + ri)), (2, .int (-1 : Int32)), (3, .int (0 : Int32))]) dX1_nextToGet_3 rfl (by decide) rfl ?_
    obtain ⟨n0, h⟩ := h
    exact snd_X1_nextToGet_4 κ ri hri K hQ n0 _ _ _ _ h
-- ChipVolts$Blocks.share(LChipVolts$Balance;I)V, level 1
def nd_X1_share_31 (K : CS → XT → Prop) : Nat → Int32 → Int32 → Int32 → CS → XT → Prop
  | 0 => fun _ _ _ _ _ => False
  | n + 1 => fun v2 v3 v4 c x =>
    ((c_nb c) ≤ v4 →
      K c x) ∧
    (¬ (c_nb c) ≤ v4 →
      vp_in v2 7 ∧
      wp_X1_nextToGet v2.toNatClampNeg c x (fun r4 c4_ x4_ =>
        (¬ r4 = (-1 : Int32) →
          vp_in r4 6 ∧
          vp_in r4 6 ∧
          vp_in r4 6 ∧
          nd_X1_share_31 K n v2 (v3 - (upd (x_gets x4_) r4.toNatClampNeg (if v3 < (c_most c4_ r4.toNatClampNeg) then v3 else (c_most c4_ r4.toNatClampNeg)) r4.toNatClampNeg)) (v4 + 1) c4_ (xs_gets x4_ (upd (x_gets x4_) r4.toNatClampNeg (if v3 < (c_most c4_ r4.toNatClampNeg) then v3 else (c_most c4_ r4.toNatClampNeg))))) ∧
        (r4 = (-1 : Int32) →
          K c4_ x4_)))
set_option maxHeartbeats 4000000 in
set_option maxRecDepth 100000 in
theorem snd_X1_share_31 {l : Launch} (κ : XC l xTX cX1_share yX1_share.cls 6 (none) 1) (K : CS → XT → Prop) (hQ : xRet κ (fun v ω' => ∃ (c' : CS) (t' : XT), v = none ∧ ω' = wX c' t' ∧ K c' t')) : ∀ (n : Nat) (v2 : Int32) (v3 : Int32) (v4 : Int32) (c : CS) (x : XT), nd_X1_share_31 K n v2 v3 v4 c x → Wat κ 31 [(0, .ref 7), (1, .ref (xb 0)), (2, .int v2), (3, .int v3), (4, .int v4)] [] (wX c x) := by
  intro n
  induction n with
  | zero => intro v2 v3 v4 c x h; exact h.elim
  | succ n ih =>
    intro v2 v3 v4 c x h
    unfold nd_X1_share_31 at h
    refine xr_iload (pc := 31) κ 4 (x := v4) dX1_share_31 rfl ?_
    refine xr_aload_n (pc := 33) κ 0 (x := 7) dX1_share_33 rfl rfl ?_
    refine xr_get (pc := 34) κ xc1 (k := 7) (f := 0) (v := .int (c_nb c)) kw_1_77 (by decide) rfl (by decide) rfl dX1_share_34 ?_
    refine xr_icmp_ge (pc := 37) κ (tgt := 93) dX1_share_37 (by decide) (fun c2 => ?_) (fun c2 => ?_)
    · have h := h.1 c2
      exact xr_vret (pc := 93) κ _ hQ dX1_share_93 ⟨_, _, rfl, rfl, h⟩
    · have h := h.2 c2
      refine xr_aload_n (pc := 40) κ 0 (x := 7) dX1_share_40 rfl rfl ?_
      refine xr_aload_n (pc := 41) κ 1 (x := (xb 0)) dX1_share_41 rfl rfl ?_
      refine xr_getN (pc := 42) κ xc0 (k := (xb 0)) (f := 2) (v := .ref (xb 0 + 1)) kw_1_115 (xb_lt (j := 0) (by decide) (by decide)) (wXb_obj _ _ (by decide)) (by decide) rfl dX1_share_42 ?_
      refine xr_iload_n (pc := 45) κ 2 (x := v2) dX1_share_45 rfl rfl ?_
      obtain ⟨i3, h⟩ := h
      refine xr_aald (pc := 46) κ (k := (xb 0 + 1)) (n := 7) (j := xb 0 + 2 + v2.toNatClampNeg) (xb_lt (j := 1) (by decide) (by decide)) (xTX_out (by decide)) rfl (wXb_out _ _ (by decide)) i3 (if_pos (vp_lt i3)) dX1_share_46 ?_
      refine xr_callV (pc := 47) κ [.ref (xb 0 + 2 + v2.toNatClampNeg)] kw_2_100 tg_X1_nextToGet (snd_X1_nextToGet v2.toNatClampNeg (vp_lt i3)  _ _ _ h) rfl (by decide) (by decide) (by decide) rfl (ci := 1) rfl rfl (Nat.le_of_ble_eq_true rfl) dX1_share_47 (fun v9 ω9 hk9 => ?_)
      obtain ⟨r4, c4_, x4_, rfl, rfl, h⟩ := hk9
      skip
      show Wat κ 50 [(0, .ref 7), (1, .ref (xb 0)), (2, .int v2), (3, .int v3), (4, .int v4)] [.int r4] (wX c4_ x4_)
      refine xr_istore (pc := 50) κ [1, 2, 3, 4, 5, 0] (lv' := [(0, .ref 7), (1, .ref (xb 0)), (2, .int v2), (3, .int v3), (4, .int v4), (5, .int r4)]) dX1_share_50 (by decide) rfl ?_
      refine xr_iload (pc := 52) κ 5 (x := r4) dX1_share_52 rfl ?_
      refine xr_iconst (pc := 54) κ (v := -1) dX1_share_54 (by decide) ?_
      refine xr_icmp_ne (pc := 55) κ (tgt := 59) dX1_share_55 (by decide) (fun c5 => ?_) (fun c5 => ?_)
      · have h := h.1 c5
        refine xr_aload_n (pc := 59) κ 0 (x := 7) dX1_share_59 rfl rfl ?_
        refine xr_get (pc := 60) κ xc1 (k := 7) (f := 4) (v := .ref 10) kw_1_88 (by decide) rfl (by decide) rfl dX1_share_60 ?_
        refine xr_iload (pc := 63) κ 5 (x := r4) dX1_share_63 rfl ?_
        refine xr_aload_n (pc := 65) κ 0 (x := 7) dX1_share_65 rfl rfl ?_
        refine xr_get (pc := 66) κ xc1 (k := 7) (f := 3) (v := .ref 9) kw_1_85 (by decide) rfl (by decide) rfl dX1_share_66 ?_
        refine xr_iload (pc := 69) κ 5 (x := r4) dX1_share_69 rfl ?_
        obtain ⟨i6, h⟩ := h
        refine xr_iald (pc := 71) κ (k := 9) (n := 6) (f := c_most c4_) (by decide) rfl rfl i6 dX1_share_71 ?_
        refine xr_iload_n (pc := 72) κ 3 (x := v3) dX1_share_72 rfl rfl ?_
        refine xr_mmin (pc := 73) κ kw_2_104 kw_2_105 kw_1_8 kw_2_106 (by omega) (Nat.le_of_ble_eq_true rfl) dX1_share_73 ?_
        obtain ⟨i7, h⟩ := h
        refine xr_iast (pc := 76) κ (k := 10) (n := 6) (f := x_gets x4_) (ω' := wX c4_ (xs_gets x4_ (upd (x_gets x4_) r4.toNatClampNeg (if v3 < (c_most c4_ r4.toNatClampNeg) then v3 else (c_most c4_ r4.toNatClampNeg))))) (by decide) rfl rfl i7 (wXa_gets _ _ _) dX1_share_76 ?_
        refine xr_iload_n (pc := 77) κ 3 (x := v3) dX1_share_77 rfl rfl ?_
        refine xr_aload_n (pc := 78) κ 0 (x := 7) dX1_share_78 rfl rfl ?_
        refine xr_get (pc := 79) κ xc1 (k := 7) (f := 4) (v := .ref 10) kw_1_88 (by decide) rfl (by decide) rfl dX1_share_79 ?_
        refine xr_iload (pc := 82) κ 5 (x := r4) dX1_share_82 rfl ?_
        obtain ⟨i8, h⟩ := h
        refine xr_iald (pc := 84) κ (k := 10) (n := 6) (f := upd (x_gets x4_) r4.toNatClampNeg (if v3 < (c_most c4_ r4.toNatClampNeg) then v3 else (c_most c4_ r4.toNatClampNeg))) (by decide) rfl rfl i8 dX1_share_84 ?_
        refine xr_isub (pc := 85) κ dX1_share_85 ?_
        refine xr_istore_n (pc := 86) κ [1, 2, 3, 0, 4, 5] (lv' := [(0, .ref 7), (1, .ref (xb 0)), (2, .int v2), (3, .int (v3 - (upd (x_gets x4_) r4.toNatClampNeg (if v3 < (c_most c4_ r4.toNatClampNeg) then v3 else (c_most c4_ r4.toNatClampNeg)) r4.toNatClampNeg))), (4, .int v4), (5, .int r4)]) dX1_share_86 rfl (by decide) rfl ?_
        refine xr_iinc (pc := 87) κ 4 [1, 2, 3, 4, 0, 5] (lv' := [(0, .ref 7), (1, .ref (xb 0)), (2, .int v2), (3, .int (v3 - (upd (x_gets x4_) r4.toNatClampNeg (if v3 < (c_most c4_ r4.toNatClampNeg) then v3 else (c_most c4_ r4.toNatClampNeg)) r4.toNatClampNeg))), (4, .int (v4 + 1)), (5, .int r4)]) (x := v4) (v := v4 + 1) dX1_share_87 rfl rfl (by decide) rfl ?_
        refine xr_goto (pc := 90) κ (tgt := 31) dX1_share_90 (by decide) ?_
        refine xr_sub (pc := 31) κ [0, 1, 2, 3, 4] (lv' := [(0, .ref 7), (1, .ref (xb 0)), (2, .int v2), (3, .int (v3 - (upd (x_gets x4_) r4.toNatClampNeg (if v3 < (c_most c4_ r4.toNatClampNeg) then v3 else (c_most c4_ r4.toNatClampNeg)) r4.toNatClampNeg))), (4, .int (v4 + 1))]) rfl ?_
        exact ih _ _ _ _ _ h
      · have h := h.2 c5
        exact xr_vret (pc := 58) κ _ hQ dX1_share_58 ⟨_, _, rfl, rfl, h⟩
def nd_X1_share_2 (K : CS → XT → Prop) : Nat → Int32 → Int32 → CS → XT → Prop
  | 0 => fun _ _ _ _ => False
  | n + 1 => fun v2 v3 c x =>
    ((c_nb c) ≤ v3 →
      ∃ n31 : Nat, nd_X1_share_31 K n31 v2 (c_budget c) (0 : Int32) c x) ∧
    (¬ (c_nb c) ≤ v3 →
      vp_in v3 6 ∧
      nd_X1_share_2 K n v2 (v3 + 1) c (xs_gets x (upd (x_gets x) v3.toNatClampNeg (-1 : Int32))))
set_option maxHeartbeats 4000000 in
set_option maxRecDepth 100000 in
theorem snd_X1_share_2 {l : Launch} (κ : XC l xTX cX1_share yX1_share.cls 6 (none) 1) (K : CS → XT → Prop) (hQ : xRet κ (fun v ω' => ∃ (c' : CS) (t' : XT), v = none ∧ ω' = wX c' t' ∧ K c' t')) : ∀ (n : Nat) (v2 : Int32) (v3 : Int32) (c : CS) (x : XT), nd_X1_share_2 K n v2 v3 c x → Wat κ 2 [(0, .ref 7), (1, .ref (xb 0)), (2, .int v2), (3, .int v3)] [] (wX c x) := by
  intro n
  induction n with
  | zero => intro v2 v3 c x h; exact h.elim
  | succ n ih =>
    intro v2 v3 c x h
    unfold nd_X1_share_2 at h
    refine xr_iload_n (pc := 2) κ 3 (x := v3) dX1_share_2 rfl rfl ?_
    refine xr_aload_n (pc := 3) κ 0 (x := 7) dX1_share_3 rfl rfl ?_
    refine xr_get (pc := 4) κ xc1 (k := 7) (f := 0) (v := .int (c_nb c)) kw_1_77 (by decide) rfl (by decide) rfl dX1_share_4 ?_
    refine xr_icmp_ge (pc := 7) κ (tgt := 23) dX1_share_7 (by decide) (fun c1 => ?_) (fun c1 => ?_)
    · have h := h.1 c1
      refine xr_aload_n (pc := 23) κ 0 (x := 7) dX1_share_23 rfl rfl ?_
      refine xr_get (pc := 24) κ xc1 (k := 7) (f := 1) (v := .int (c_budget c)) kw_1_80 (by decide) rfl (by decide) rfl dX1_share_24 ?_
      refine xr_istore_n (pc := 27) κ [1, 2, 3, 0] (lv' := [(0, .ref 7), (1, .ref (xb 0)), (2, .int v2), (3, .int (c_budget c))]) dX1_share_27 rfl (by decide) rfl ?_
      refine xr_iconst (pc := 28) κ (v := 0) dX1_share_28 (by decide) ?_
      refine xr_istore (pc := 29) κ [1, 2, 3, 4, 0] (lv' := [(0, .ref 7), (1, .ref (xb 0)), (2, .int v2), (3, .int (c_budget c)), (4, .int (0 : Int32))]) dX1_share_29 (by decide) rfl ?_
      obtain ⟨n0, h⟩ := h
      exact snd_X1_share_31 κ K hQ n0 _ _ _ _ _ h
    · have h := h.2 c1
      refine xr_aload_n (pc := 10) κ 0 (x := 7) dX1_share_10 rfl rfl ?_
      refine xr_get (pc := 11) κ xc1 (k := 7) (f := 4) (v := .ref 10) kw_1_88 (by decide) rfl (by decide) rfl dX1_share_11 ?_
      refine xr_iload_n (pc := 14) κ 3 (x := v3) dX1_share_14 rfl rfl ?_
      refine xr_iconst (pc := 15) κ (v := -1) dX1_share_15 (by decide) ?_
      obtain ⟨i9, h⟩ := h
      refine xr_iast (pc := 16) κ (k := 10) (n := 6) (f := x_gets x) (ω' := wX c (xs_gets x (upd (x_gets x) v3.toNatClampNeg (-1 : Int32)))) (by decide) rfl rfl i9 (wXa_gets _ _ _) dX1_share_16 ?_
      refine xr_iinc (pc := 17) κ 3 [1, 2, 3, 0] (lv' := [(0, .ref 7), (1, .ref (xb 0)), (2, .int v2), (3, .int (v3 + 1))]) (x := v3) (v := v3 + 1) dX1_share_17 rfl rfl (by decide) rfl ?_
      refine xr_goto (pc := 20) κ (tgt := 2) dX1_share_20 (by decide) ?_
      exact ih _ _ _ _ h
def wp_X1_share (k : Int32) (c : CS) (x : XT) (K : CS → XT → Prop) : Prop :=
    ∃ n2 : Nat, nd_X1_share_2 K n2 k (0 : Int32) c x
set_option maxHeartbeats 4000000 in
set_option maxRecDepth 100000 in
theorem snd_X1_share {l : Launch} (k : Int32) (c : CS) (x : XT) (K : CS → XT → Prop) (h : wp_X1_share k c x K) : XM l xTX yX1_share cX1_share 6 (none) 1 [.ref 7, .ref (xb 0), .int k] (wX c x) (fun v ω' => ∃ (c' : CS) (t' : XT), v = none ∧ ω' = wX c' t' ∧ K c' t') := by
    refine XM.of (by decide) (Nat.le_of_ble_eq_true rfl) (fun κ hQ => ?_)
    show Wat κ 0 [(0, .ref 7), (1, .ref (xb 0)), (2, .int k)] [] (wX c x)
    unfold wp_X1_share at h
    refine xr_iconst (pc := 0) κ (v := 0) dX1_share_0 (by decide) ?_
    refine xr_istore_n (pc := 1) κ [1, 2, 3, 0] (lv' := [(0, .ref 7), (1, .ref (xb 0)), (2, .int k), (3, .int (0 : Int32))]) dX1_share_1 rfl (by decide) rfl ?_
    obtain ⟨n0, h⟩ := h
    exact snd_X1_share_2 κ K hQ n0 _ _ _ _ h
-- ChipVolts$Blocks.worstAbove(LChipVolts$Balance;I)J, level 2
def nd_X1_worstAbove_11 (K : Int64 → CS → XT → Prop) : Nat → Int32 → Int64 → Int32 → CS → XT → Prop
  | 0 => fun _ _ _ _ _ => False
  | n + 1 => fun v2 v3 v5 c x =>
    ((c_nb c) ≤ v5 →
      K v3 c x) ∧
    (¬ (c_nb c) ≤ v5 →
      vp_in v2 7 ∧
      vp_in v5 6 ∧
      vp_in (c_sits c v5.toNatClampNeg) 7 ∧
      vp_in v5 6 ∧
      nd_X1_worstAbove_11 K n v2 (v3 + (((b_cell (x_bal x 0)) v2.toNatClampNeg (((c_sits c v5.toNatClampNeg)).toNatClampNeg)) * (Int32.toInt64 (x_gets x v5.toNatClampNeg)))) (v5 + 1) c x)
set_option maxHeartbeats 4000000 in
set_option maxRecDepth 100000 in
theorem snd_X1_worstAbove_11 {l : Launch} (κ : XC l xTX cX1_worstAbove yX1_worstAbove.cls 6 (some .long) 2) (K : Int64 → CS → XT → Prop) (hQ : xRet κ (fun v ω' => ∃ (r : Int64) (c' : CS) (t' : XT), v = some (.long r) ∧ ω' = wX c' t' ∧ K r c' t')) : ∀ (n : Nat) (v2 : Int32) (v3 : Int64) (v5 : Int32) (c : CS) (x : XT), nd_X1_worstAbove_11 K n v2 v3 v5 c x → Wat κ 11 [(0, .ref 7), (1, .ref (xb 0)), (2, .int v2), (3, .long v3), (5, .int v5)] [] (wX c x) := by
  intro n
  induction n with
  | zero => intro v2 v3 v5 c x h; exact h.elim
  | succ n ih =>
    intro v2 v3 v5 c x h
    unfold nd_X1_worstAbove_11 at h
    refine xr_iload (pc := 11) κ 4 (x := v5) dX1_worstAbove_11 rfl ?_
    refine xr_aload_n (pc := 13) κ 0 (x := 7) dX1_worstAbove_13 rfl rfl ?_
    refine xr_get (pc := 14) κ xc1 (k := 7) (f := 0) (v := .int (c_nb c)) kw_1_77 (by decide) rfl (by decide) rfl dX1_worstAbove_14 ?_
    refine xr_icmp_ge (pc := 17) κ (tgt := 52) dX1_worstAbove_17 (by decide) (fun c2 => ?_) (fun c2 => ?_)
    · have h := h.1 c2
      refine xr_lload_n (pc := 52) κ 3 (x := v3) dX1_worstAbove_52 rfl rfl ?_
      exact xr_lret (pc := 53) κ _ hQ dX1_worstAbove_53 ⟨_, _, _, rfl, rfl, h⟩
    · have h := h.2 c2
      refine xr_lload_n (pc := 20) κ 3 (x := v3) dX1_worstAbove_20 rfl rfl ?_
      refine xr_aload_n (pc := 21) κ 1 (x := (xb 0)) dX1_worstAbove_21 rfl rfl ?_
      refine xr_getN (pc := 22) κ xc0 (k := (xb 0)) (f := 2) (v := .ref (xb 0 + 1)) kw_1_115 (xb_lt (j := 0) (by decide) (by decide)) (wXb_obj _ _ (by decide)) (by decide) rfl dX1_worstAbove_22 ?_
      refine xr_iload_n (pc := 25) κ 2 (x := v2) dX1_worstAbove_25 rfl rfl ?_
      obtain ⟨i3, h⟩ := h
      refine xr_aald (pc := 26) κ (k := (xb 0 + 1)) (n := 7) (j := xb 0 + 2 + v2.toNatClampNeg) (xb_lt (j := 1) (by decide) (by decide)) (xTX_out (by decide)) rfl (wXb_out _ _ (by decide)) i3 (if_pos (vp_lt i3)) dX1_worstAbove_26 ?_
      refine xr_aload_n (pc := 27) κ 0 (x := 7) dX1_worstAbove_27 rfl rfl ?_
      refine xr_get (pc := 28) κ xc1 (k := 7) (f := 2) (v := .ref 8) kw_1_82 (by decide) rfl (by decide) rfl dX1_worstAbove_28 ?_
      refine xr_iload (pc := 31) κ 4 (x := v5) dX1_worstAbove_31 rfl ?_
      obtain ⟨i4, h⟩ := h
      refine xr_iald (pc := 33) κ (k := 8) (n := 6) (f := c_sits c) (by decide) rfl rfl i4 dX1_worstAbove_33 ?_
      obtain ⟨i5, h⟩ := h
      refine xr_lald (pc := 34) κ (k := (xb 0 + 2 + v2.toNatClampNeg)) (n := 7) (f := (b_cell (x_bal x 0)) v2.toNatClampNeg) (xb_row_lt (by decide) (vp_lt i3)) (xTX_row (by decide) (vp_lt i3)) (wXb_row _ _ (by decide) (vp_lt i3)) i5 dX1_worstAbove_34 ?_
      refine xr_aload_n (pc := 35) κ 0 (x := 7) dX1_worstAbove_35 rfl rfl ?_
      refine xr_get (pc := 36) κ xc1 (k := 7) (f := 4) (v := .ref 10) kw_1_88 (by decide) rfl (by decide) rfl dX1_worstAbove_36 ?_
      refine xr_iload (pc := 39) κ 4 (x := v5) dX1_worstAbove_39 rfl ?_
      obtain ⟨i6, h⟩ := h
      refine xr_iald (pc := 41) κ (k := 10) (n := 6) (f := x_gets x) (by decide) rfl rfl i6 dX1_worstAbove_41 ?_
      refine xr_i2l (pc := 42) κ dX1_worstAbove_42 ?_
      refine xr_lmul (pc := 43) κ dX1_worstAbove_43 ?_
      refine xr_ladd (pc := 44) κ dX1_worstAbove_44 ?_
      refine xr_lstore_n (pc := 45) κ [1, 2, 3, 0, 4] (lv' := [(0, .ref 7), (1, .ref (xb 0)), (2, .int v2), (3, .long (v3 + (((b_cell (x_bal x 0)) v2.toNatClampNeg (((c_sits c v5.toNatClampNeg)).toNatClampNeg)) * (Int32.toInt64 (x_gets x v5.toNatClampNeg))))), (5, .int v5)]) dX1_worstAbove_45 rfl (by decide) rfl ?_
      refine xr_iinc (pc := 46) κ 4 [1, 2, 3, 4, 0] (lv' := [(0, .ref 7), (1, .ref (xb 0)), (2, .int v2), (3, .long (v3 + (((b_cell (x_bal x 0)) v2.toNatClampNeg (((c_sits c v5.toNatClampNeg)).toNatClampNeg)) * (Int32.toInt64 (x_gets x v5.toNatClampNeg))))), (5, .int (v5 + 1))]) (x := v5) (v := v5 + 1) dX1_worstAbove_46 rfl rfl (by decide) rfl ?_
      refine xr_goto (pc := 49) κ (tgt := 11) dX1_worstAbove_49 (by decide) ?_
      exact ih _ _ _ _ _ h
def wp_X1_worstAbove (k : Int32) (c : CS) (x : XT) (K : Int64 → CS → XT → Prop) : Prop :=
    wp_X1_share k c x (fun c1_ x1_ =>
      ∃ n11 : Nat, nd_X1_worstAbove_11 K n11 k (0 : Int64) (0 : Int32) c1_ x1_)
set_option maxHeartbeats 4000000 in
set_option maxRecDepth 100000 in
theorem snd_X1_worstAbove {l : Launch} (k : Int32) (c : CS) (x : XT) (K : Int64 → CS → XT → Prop) (h : wp_X1_worstAbove k c x K) : XM l xTX yX1_worstAbove cX1_worstAbove 6 (some .long) 2 [.ref 7, .ref (xb 0), .int k] (wX c x) (fun v ω' => ∃ (r : Int64) (c' : CS) (t' : XT), v = some (.long r) ∧ ω' = wX c' t' ∧ K r c' t') := by
    refine XM.of (by decide) (Nat.le_of_ble_eq_true rfl) (fun κ hQ => ?_)
    show Wat κ 0 [(0, .ref 7), (1, .ref (xb 0)), (2, .int k)] [] (wX c x)
    unfold wp_X1_worstAbove at h
    refine xr_aload_n (pc := 0) κ 0 (x := 7) dX1_worstAbove_0 rfl rfl ?_
    refine xr_aload_n (pc := 1) κ 1 (x := (xb 0)) dX1_worstAbove_1 rfl rfl ?_
    refine xr_iload_n (pc := 2) κ 2 (x := k) dX1_worstAbove_2 rfl rfl ?_
    refine xr_callV (pc := 3) κ [.ref (xb 0), .int k] kw_2_115 tg_X1_share (snd_X1_share _ _ _ _ h) rfl (by decide) (by decide) (by decide) rfl (ci := 1) rfl rfl (Nat.le_of_ble_eq_true rfl) dX1_worstAbove_3 (fun v9 ω9 hk9 => ?_)
    obtain ⟨c1_, x1_, rfl, rfl, h⟩ := hk9
    skip
    show Wat κ 6 [(0, .ref 7), (1, .ref (xb 0)), (2, .int k)] [] (wX c1_ x1_)
    refine xr_lconst (pc := 6) κ (v := 0) dX1_worstAbove_6 (by decide) ?_
    refine xr_lstore_n (pc := 7) κ [1, 2, 3, 0] (lv' := [(0, .ref 7), (1, .ref (xb 0)), (2, .int k), (3, .long (0 : Int64))]) dX1_worstAbove_7 rfl (by decide) rfl ?_
    refine xr_iconst (pc := 8) κ (v := 0) dX1_worstAbove_8 (by decide) ?_
    refine xr_istore (pc := 9) κ [1, 2, 3, 4, 0] (lv' := [(0, .ref 7), (1, .ref (xb 0)), (2, .int k), (3, .long (0 : Int64)), (5, .int (0 : Int32))]) dX1_worstAbove_9 (by decide) rfl ?_
    obtain ⟨n0, h⟩ := h
    exact snd_X1_worstAbove_11 κ K hQ n0 _ _ _ _ _ h
-- ChipVolts$Balance.lay(LChipVolts$Net;)V, level 0
def nd_X0_lay_56 (tb : Nat) (K : CS → XT → Prop) : Nat → Int32 → CS → XT → Prop
  | 0 => fun _ _ _ => False
  | n + 1 => fun v2 c x =>
    ((c_wires c) ≤ v2 →
      K c x) ∧
    (¬ (c_wires c) ≤ v2 →
      vp_in v2 12 ∧
      vp_in v2 12 ∧
      vp_in (c_from c v2.toNatClampNeg) 7 ∧
      vp_in (c_from c v2.toNatClampNeg) 7 ∧
      vp_in v2 12 ∧
      vp_in (c_from c v2.toNatClampNeg) 7 ∧
      vp_in (c_to c v2.toNatClampNeg) 7 ∧
      vp_in (c_to c v2.toNatClampNeg) 7 ∧
      vp_in v2 12 ∧
      vp_in (c_to c v2.toNatClampNeg) 7 ∧
      vp_in (c_from c v2.toNatClampNeg) 7 ∧
      vp_in (c_to c v2.toNatClampNeg) 7 ∧
      vp_in v2 12 ∧
      vp_in (c_to c v2.toNatClampNeg) 7 ∧
      vp_in (c_to c v2.toNatClampNeg) 7 ∧
      vp_in (c_from c v2.toNatClampNeg) 7 ∧
      vp_in v2 12 ∧
      vp_in (c_from c v2.toNatClampNeg) 7 ∧
      nd_X0_lay_56 tb K n (v2 + 1) c (xsb x tb (bs_cell (x_bal x tb) (upM (upM (upM (upM (b_cell (x_bal x tb)) (((c_from c v2.toNatClampNeg)).toNatClampNeg) (((c_from c v2.toNatClampNeg)).toNatClampNeg) (((b_cell (x_bal x tb)) (((c_from c v2.toNatClampNeg)).toNatClampNeg) (((c_from c v2.toNatClampNeg)).toNatClampNeg)) + (Int32.toInt64 (c_wide c v2.toNatClampNeg)))) (((c_to c v2.toNatClampNeg)).toNatClampNeg) (((c_to c v2.toNatClampNeg)).toNatClampNeg) (((upM (b_cell (x_bal x tb)) (((c_from c v2.toNatClampNeg)).toNatClampNeg) (((c_from c v2.toNatClampNeg)).toNatClampNeg) (((b_cell (x_bal x tb)) (((c_from c v2.toNatClampNeg)).toNatClampNeg) (((c_from c v2.toNatClampNeg)).toNatClampNeg)) + (Int32.toInt64 (c_wide c v2.toNatClampNeg)))) (((c_to c v2.toNatClampNeg)).toNatClampNeg) (((c_to c v2.toNatClampNeg)).toNatClampNeg)) + (Int32.toInt64 (c_wide c v2.toNatClampNeg)))) (((c_from c v2.toNatClampNeg)).toNatClampNeg) (((c_to c v2.toNatClampNeg)).toNatClampNeg) (((upM (upM (b_cell (x_bal x tb)) (((c_from c v2.toNatClampNeg)).toNatClampNeg) (((c_from c v2.toNatClampNeg)).toNatClampNeg) (((b_cell (x_bal x tb)) (((c_from c v2.toNatClampNeg)).toNatClampNeg) (((c_from c v2.toNatClampNeg)).toNatClampNeg)) + (Int32.toInt64 (c_wide c v2.toNatClampNeg)))) (((c_to c v2.toNatClampNeg)).toNatClampNeg) (((c_to c v2.toNatClampNeg)).toNatClampNeg) (((upM (b_cell (x_bal x tb)) (((c_from c v2.toNatClampNeg)).toNatClampNeg) (((c_from c v2.toNatClampNeg)).toNatClampNeg) (((b_cell (x_bal x tb)) (((c_from c v2.toNatClampNeg)).toNatClampNeg) (((c_from c v2.toNatClampNeg)).toNatClampNeg)) + (Int32.toInt64 (c_wide c v2.toNatClampNeg)))) (((c_to c v2.toNatClampNeg)).toNatClampNeg) (((c_to c v2.toNatClampNeg)).toNatClampNeg)) + (Int32.toInt64 (c_wide c v2.toNatClampNeg)))) (((c_from c v2.toNatClampNeg)).toNatClampNeg) (((c_to c v2.toNatClampNeg)).toNatClampNeg)) - (Int32.toInt64 (c_wide c v2.toNatClampNeg)))) (((c_to c v2.toNatClampNeg)).toNatClampNeg) (((c_from c v2.toNatClampNeg)).toNatClampNeg) (((upM (upM (upM (b_cell (x_bal x tb)) (((c_from c v2.toNatClampNeg)).toNatClampNeg) (((c_from c v2.toNatClampNeg)).toNatClampNeg) (((b_cell (x_bal x tb)) (((c_from c v2.toNatClampNeg)).toNatClampNeg) (((c_from c v2.toNatClampNeg)).toNatClampNeg)) + (Int32.toInt64 (c_wide c v2.toNatClampNeg)))) (((c_to c v2.toNatClampNeg)).toNatClampNeg) (((c_to c v2.toNatClampNeg)).toNatClampNeg) (((upM (b_cell (x_bal x tb)) (((c_from c v2.toNatClampNeg)).toNatClampNeg) (((c_from c v2.toNatClampNeg)).toNatClampNeg) (((b_cell (x_bal x tb)) (((c_from c v2.toNatClampNeg)).toNatClampNeg) (((c_from c v2.toNatClampNeg)).toNatClampNeg)) + (Int32.toInt64 (c_wide c v2.toNatClampNeg)))) (((c_to c v2.toNatClampNeg)).toNatClampNeg) (((c_to c v2.toNatClampNeg)).toNatClampNeg)) + (Int32.toInt64 (c_wide c v2.toNatClampNeg)))) (((c_from c v2.toNatClampNeg)).toNatClampNeg) (((c_to c v2.toNatClampNeg)).toNatClampNeg) (((upM (upM (b_cell (x_bal x tb)) (((c_from c v2.toNatClampNeg)).toNatClampNeg) (((c_from c v2.toNatClampNeg)).toNatClampNeg) (((b_cell (x_bal x tb)) (((c_from c v2.toNatClampNeg)).toNatClampNeg) (((c_from c v2.toNatClampNeg)).toNatClampNeg)) + (Int32.toInt64 (c_wide c v2.toNatClampNeg)))) (((c_to c v2.toNatClampNeg)).toNatClampNeg) (((c_to c v2.toNatClampNeg)).toNatClampNeg) (((upM (b_cell (x_bal x tb)) (((c_from c v2.toNatClampNeg)).toNatClampNeg) (((c_from c v2.toNatClampNeg)).toNatClampNeg) (((b_cell (x_bal x tb)) (((c_from c v2.toNatClampNeg)).toNatClampNeg) (((c_from c v2.toNatClampNeg)).toNatClampNeg)) + (Int32.toInt64 (c_wide c v2.toNatClampNeg)))) (((c_to c v2.toNatClampNeg)).toNatClampNeg) (((c_to c v2.toNatClampNeg)).toNatClampNeg)) + (Int32.toInt64 (c_wide c v2.toNatClampNeg)))) (((c_from c v2.toNatClampNeg)).toNatClampNeg) (((c_to c v2.toNatClampNeg)).toNatClampNeg)) - (Int32.toInt64 (c_wide c v2.toNatClampNeg)))) (((c_to c v2.toNatClampNeg)).toNatClampNeg) (((c_from c v2.toNatClampNeg)).toNatClampNeg)) - (Int32.toInt64 (c_wide c v2.toNatClampNeg)))))))
set_option maxHeartbeats 4000000 in
set_option maxRecDepth 100000 in
theorem snd_X0_lay_56 {l : Launch} (κ : XC l xTX cX0_lay yX0_lay.cls 5 (none) 0) (tb : Nat) (htb : tb < 6) (K : CS → XT → Prop) (hQ : xRet κ (fun v ω' => ∃ (c' : CS) (t' : XT), v = none ∧ ω' = wX c' t' ∧ K c' t')) : ∀ (n : Nat) (v2 : Int32) (c : CS) (x : XT), nd_X0_lay_56 tb K n v2 c x → Wat κ 56 [(0, .ref (xb tb)), (1, .ref 1), (2, .int v2)] [] (wX c x) := by
  intro n
  induction n with
  | zero => intro v2 c x h; exact h.elim
  | succ n ih =>
    intro v2 c x h
    unfold nd_X0_lay_56 at h
    refine xr_iload_n (pc := 56) κ 2 (x := v2) dX0_lay_56 rfl rfl ?_
    refine xr_aload_n (pc := 57) κ 1 (x := 1) dX0_lay_57 rfl rfl ?_
    refine xr_getN (pc := 58) κ xc2 (k := 1) (f := 1) (v := .int (c_wires c)) kw_1_31 (by decide) rfl (by decide) rfl dX0_lay_58 ?_
    refine xr_icmp_ge (pc := 61) κ (tgt := 161) dX0_lay_61 (by decide) (fun c2 => ?_) (fun c2 => ?_)
    · have h := h.1 c2
      exact xr_vret (pc := 161) κ _ hQ dX0_lay_161 ⟨_, _, rfl, rfl, h⟩
    · have h := h.2 c2
      refine xr_aload_n (pc := 64) κ 1 (x := 1) dX0_lay_64 rfl rfl ?_
      refine xr_getN (pc := 65) κ xc2 (k := 1) (f := 4) (v := .ref 3) kw_1_39 (by decide) rfl (by decide) rfl dX0_lay_65 ?_
      refine xr_iload_n (pc := 68) κ 2 (x := v2) dX0_lay_68 rfl rfl ?_
      obtain ⟨i3, h⟩ := h
      refine xr_iald (pc := 69) κ (k := 3) (n := 12) (f := c_from c) (by decide) rfl rfl i3 dX0_lay_69 ?_
      refine xr_istore_n (pc := 70) κ [1, 2, 3, 0] (lv' := [(0, .ref (xb tb)), (1, .ref 1), (2, .int v2), (3, .int (c_from c v2.toNatClampNeg))]) dX0_lay_70 rfl (by decide) rfl ?_
      refine xr_aload_n (pc := 71) κ 1 (x := 1) dX0_lay_71 rfl rfl ?_
      refine xr_getN (pc := 72) κ xc2 (k := 1) (f := 5) (v := .ref 4) kw_1_43 (by decide) rfl (by decide) rfl dX0_lay_72 ?_
      refine xr_iload_n (pc := 75) κ 2 (x := v2) dX0_lay_75 rfl rfl ?_
      obtain ⟨i4, h⟩ := h
      refine xr_iald (pc := 76) κ (k := 4) (n := 12) (f := c_to c) (by decide) rfl rfl i4 dX0_lay_76 ?_
      refine xr_istore (pc := 77) κ [1, 2, 3, 4, 0] (lv' := [(0, .ref (xb tb)), (1, .ref 1), (2, .int v2), (3, .int (c_from c v2.toNatClampNeg)), (4, .int (c_to c v2.toNatClampNeg))]) dX0_lay_77 (by decide) rfl ?_
      refine xr_aload_n (pc := 79) κ 0 (x := (xb tb)) dX0_lay_79 rfl rfl ?_
      refine xr_get (pc := 80) κ xc0 (k := (xb tb)) (f := 2) (v := .ref (xb tb + 1)) kw_1_113 (xb_lt (j := 0) htb (by decide)) (wXb_obj _ _ htb) (by decide) rfl dX0_lay_80 ?_
      refine xr_iload_n (pc := 83) κ 3 (x := (c_from c v2.toNatClampNeg)) dX0_lay_83 rfl rfl ?_
      obtain ⟨i5, h⟩ := h
      refine xr_aald (pc := 84) κ (k := (xb tb + 1)) (n := 7) (j := xb tb + 2 + (((c_from c v2.toNatClampNeg)).toNatClampNeg)) (xb_lt (j := 1) htb (by decide)) (xTX_out htb) rfl (wXb_out _ _ htb) i5 (if_pos (vp_lt i5)) dX0_lay_84 ?_
      refine xr_iload_n (pc := 85) κ 3 (x := (c_from c v2.toNatClampNeg)) dX0_lay_85 rfl rfl ?_
      refine xr_dup2 (pc := 86) κ rfl rfl dX0_lay_86 ?_
      obtain ⟨i6, h⟩ := h
      refine xr_lald (pc := 87) κ (k := (xb tb + 2 + (((c_from c v2.toNatClampNeg)).toNatClampNeg))) (n := 7) (f := (b_cell (x_bal x tb)) (((c_from c v2.toNatClampNeg)).toNatClampNeg)) (xb_row_lt htb (vp_lt i5)) (xTX_row htb (vp_lt i5)) (wXb_row _ _ htb (vp_lt i5)) i6 dX0_lay_87 ?_
      refine xr_aload_n (pc := 88) κ 1 (x := 1) dX0_lay_88 rfl rfl ?_
      refine xr_getN (pc := 89) κ xc2 (k := 1) (f := 6) (v := .ref 5) kw_1_47 (by decide) rfl (by decide) rfl dX0_lay_89 ?_
      refine xr_iload_n (pc := 92) κ 2 (x := v2) dX0_lay_92 rfl rfl ?_
      obtain ⟨i7, h⟩ := h
      refine xr_iald (pc := 93) κ (k := 5) (n := 12) (f := c_wide c) (by decide) rfl rfl i7 dX0_lay_93 ?_
      refine xr_i2l (pc := 94) κ dX0_lay_94 ?_
      refine xr_ladd (pc := 95) κ dX0_lay_95 ?_
      obtain ⟨i8, h⟩ := h
      refine xr_last (pc := 96) κ (k := (xb tb + 2 + (((c_from c v2.toNatClampNeg)).toNatClampNeg))) (n := 7) (f := (b_cell (x_bal x tb)) (((c_from c v2.toNatClampNeg)).toNatClampNeg)) (ω' := wX c (xsb x tb (bs_cell (x_bal x tb) (upM (b_cell (x_bal x tb)) (((c_from c v2.toNatClampNeg)).toNatClampNeg) (((c_from c v2.toNatClampNeg)).toNatClampNeg) (((b_cell (x_bal x tb)) (((c_from c v2.toNatClampNeg)).toNatClampNeg) (((c_from c v2.toNatClampNeg)).toNatClampNeg)) + (Int32.toInt64 (c_wide c v2.toNatClampNeg))))))) (xb_row_lt htb (vp_lt i5)) (xTX_row htb (vp_lt i5)) (wXb_row _ _ htb (vp_lt i5)) i8 (wXb_srow _ _ htb (vp_lt i5) _ _) dX0_lay_96 ?_
      refine xr_aload_n (pc := 97) κ 0 (x := (xb tb)) dX0_lay_97 rfl rfl ?_
      refine xr_get (pc := 98) κ xc0 (k := (xb tb)) (f := 2) (v := .ref (xb tb + 1)) kw_1_113 (xb_lt (j := 0) htb (by decide)) (wXbo_obj _ _ _ htb) (by decide) rfl dX0_lay_98 ?_
      refine xr_iload (pc := 101) κ 4 (x := (c_to c v2.toNatClampNeg)) dX0_lay_101 rfl ?_
      obtain ⟨i9, h⟩ := h
      refine xr_aald (pc := 103) κ (k := (xb tb + 1)) (n := 7) (j := xb tb + 2 + (((c_to c v2.toNatClampNeg)).toNatClampNeg)) (xb_lt (j := 1) htb (by decide)) (xTX_out htb) rfl (wXb_out _ _ htb) i9 (if_pos (vp_lt i9)) dX0_lay_103 ?_
      refine xr_iload (pc := 104) κ 4 (x := (c_to c v2.toNatClampNeg)) dX0_lay_104 rfl ?_
      refine xr_dup2 (pc := 106) κ rfl rfl dX0_lay_106 ?_
      obtain ⟨i10, h⟩ := h
      refine xr_lald (pc := 107) κ (k := (xb tb + 2 + (((c_to c v2.toNatClampNeg)).toNatClampNeg))) (n := 7) (f := (upM (b_cell (x_bal x tb)) (((c_from c v2.toNatClampNeg)).toNatClampNeg) (((c_from c v2.toNatClampNeg)).toNatClampNeg) (((b_cell (x_bal x tb)) (((c_from c v2.toNatClampNeg)).toNatClampNeg) (((c_from c v2.toNatClampNeg)).toNatClampNeg)) + (Int32.toInt64 (c_wide c v2.toNatClampNeg)))) (((c_to c v2.toNatClampNeg)).toNatClampNeg)) (xb_row_lt htb (vp_lt i9)) (xTX_row htb (vp_lt i9)) (wXbo_row _ _ _ htb (vp_lt i9)) i10 dX0_lay_107 ?_
      refine xr_aload_n (pc := 108) κ 1 (x := 1) dX0_lay_108 rfl rfl ?_
      refine xr_getN (pc := 109) κ xc2 (k := 1) (f := 6) (v := .ref 5) kw_1_47 (by decide) rfl (by decide) rfl dX0_lay_109 ?_
      refine xr_iload_n (pc := 112) κ 2 (x := v2) dX0_lay_112 rfl rfl ?_
      obtain ⟨i11, h⟩ := h
      refine xr_iald (pc := 113) κ (k := 5) (n := 12) (f := c_wide c) (by decide) rfl rfl i11 dX0_lay_113 ?_
      refine xr_i2l (pc := 114) κ dX0_lay_114 ?_
      refine xr_ladd (pc := 115) κ dX0_lay_115 ?_
      obtain ⟨i12, h⟩ := h
      refine xr_last (pc := 116) κ (k := (xb tb + 2 + (((c_to c v2.toNatClampNeg)).toNatClampNeg))) (n := 7) (f := (upM (b_cell (x_bal x tb)) (((c_from c v2.toNatClampNeg)).toNatClampNeg) (((c_from c v2.toNatClampNeg)).toNatClampNeg) (((b_cell (x_bal x tb)) (((c_from c v2.toNatClampNeg)).toNatClampNeg) (((c_from c v2.toNatClampNeg)).toNatClampNeg)) + (Int32.toInt64 (c_wide c v2.toNatClampNeg)))) (((c_to c v2.toNatClampNeg)).toNatClampNeg)) (ω' := wX c (xsb x tb (bs_cell (x_bal x tb) (upM (upM (b_cell (x_bal x tb)) (((c_from c v2.toNatClampNeg)).toNatClampNeg) (((c_from c v2.toNatClampNeg)).toNatClampNeg) (((b_cell (x_bal x tb)) (((c_from c v2.toNatClampNeg)).toNatClampNeg) (((c_from c v2.toNatClampNeg)).toNatClampNeg)) + (Int32.toInt64 (c_wide c v2.toNatClampNeg)))) (((c_to c v2.toNatClampNeg)).toNatClampNeg) (((c_to c v2.toNatClampNeg)).toNatClampNeg) (((upM (b_cell (x_bal x tb)) (((c_from c v2.toNatClampNeg)).toNatClampNeg) (((c_from c v2.toNatClampNeg)).toNatClampNeg) (((b_cell (x_bal x tb)) (((c_from c v2.toNatClampNeg)).toNatClampNeg) (((c_from c v2.toNatClampNeg)).toNatClampNeg)) + (Int32.toInt64 (c_wide c v2.toNatClampNeg)))) (((c_to c v2.toNatClampNeg)).toNatClampNeg) (((c_to c v2.toNatClampNeg)).toNatClampNeg)) + (Int32.toInt64 (c_wide c v2.toNatClampNeg))))))) (xb_row_lt htb (vp_lt i9)) (xTX_row htb (vp_lt i9)) (wXbo_row _ _ _ htb (vp_lt i9)) i12 (wXbo_srow _ _ _ htb (vp_lt i9) _ _) dX0_lay_116 ?_
      refine xr_aload_n (pc := 117) κ 0 (x := (xb tb)) dX0_lay_117 rfl rfl ?_
      refine xr_get (pc := 118) κ xc0 (k := (xb tb)) (f := 2) (v := .ref (xb tb + 1)) kw_1_113 (xb_lt (j := 0) htb (by decide)) (wXbo_obj _ _ _ htb) (by decide) rfl dX0_lay_118 ?_
      refine xr_iload_n (pc := 121) κ 3 (x := (c_from c v2.toNatClampNeg)) dX0_lay_121 rfl rfl ?_
      obtain ⟨i13, h⟩ := h
      refine xr_aald (pc := 122) κ (k := (xb tb + 1)) (n := 7) (j := xb tb + 2 + (((c_from c v2.toNatClampNeg)).toNatClampNeg)) (xb_lt (j := 1) htb (by decide)) (xTX_out htb) rfl (wXb_out _ _ htb) i13 (if_pos (vp_lt i13)) dX0_lay_122 ?_
      refine xr_iload (pc := 123) κ 4 (x := (c_to c v2.toNatClampNeg)) dX0_lay_123 rfl ?_
      refine xr_dup2 (pc := 125) κ rfl rfl dX0_lay_125 ?_
      obtain ⟨i14, h⟩ := h
      refine xr_lald (pc := 126) κ (k := (xb tb + 2 + (((c_from c v2.toNatClampNeg)).toNatClampNeg))) (n := 7) (f := (upM (upM (b_cell (x_bal x tb)) (((c_from c v2.toNatClampNeg)).toNatClampNeg) (((c_from c v2.toNatClampNeg)).toNatClampNeg) (((b_cell (x_bal x tb)) (((c_from c v2.toNatClampNeg)).toNatClampNeg) (((c_from c v2.toNatClampNeg)).toNatClampNeg)) + (Int32.toInt64 (c_wide c v2.toNatClampNeg)))) (((c_to c v2.toNatClampNeg)).toNatClampNeg) (((c_to c v2.toNatClampNeg)).toNatClampNeg) (((upM (b_cell (x_bal x tb)) (((c_from c v2.toNatClampNeg)).toNatClampNeg) (((c_from c v2.toNatClampNeg)).toNatClampNeg) (((b_cell (x_bal x tb)) (((c_from c v2.toNatClampNeg)).toNatClampNeg) (((c_from c v2.toNatClampNeg)).toNatClampNeg)) + (Int32.toInt64 (c_wide c v2.toNatClampNeg)))) (((c_to c v2.toNatClampNeg)).toNatClampNeg) (((c_to c v2.toNatClampNeg)).toNatClampNeg)) + (Int32.toInt64 (c_wide c v2.toNatClampNeg)))) (((c_from c v2.toNatClampNeg)).toNatClampNeg)) (xb_row_lt htb (vp_lt i13)) (xTX_row htb (vp_lt i13)) (wXbo_row _ _ _ htb (vp_lt i13)) i14 dX0_lay_126 ?_
      refine xr_aload_n (pc := 127) κ 1 (x := 1) dX0_lay_127 rfl rfl ?_
      refine xr_getN (pc := 128) κ xc2 (k := 1) (f := 6) (v := .ref 5) kw_1_47 (by decide) rfl (by decide) rfl dX0_lay_128 ?_
      refine xr_iload_n (pc := 131) κ 2 (x := v2) dX0_lay_131 rfl rfl ?_
      obtain ⟨i15, h⟩ := h
      refine xr_iald (pc := 132) κ (k := 5) (n := 12) (f := c_wide c) (by decide) rfl rfl i15 dX0_lay_132 ?_
      refine xr_i2l (pc := 133) κ dX0_lay_133 ?_
      refine xr_lsub (pc := 134) κ dX0_lay_134 ?_
      obtain ⟨i16, h⟩ := h
      refine xr_last (pc := 135) κ (k := (xb tb + 2 + (((c_from c v2.toNatClampNeg)).toNatClampNeg))) (n := 7) (f := (upM (upM (b_cell (x_bal x tb)) (((c_from c v2.toNatClampNeg)).toNatClampNeg) (((c_from c v2.toNatClampNeg)).toNatClampNeg) (((b_cell (x_bal x tb)) (((c_from c v2.toNatClampNeg)).toNatClampNeg) (((c_from c v2.toNatClampNeg)).toNatClampNeg)) + (Int32.toInt64 (c_wide c v2.toNatClampNeg)))) (((c_to c v2.toNatClampNeg)).toNatClampNeg) (((c_to c v2.toNatClampNeg)).toNatClampNeg) (((upM (b_cell (x_bal x tb)) (((c_from c v2.toNatClampNeg)).toNatClampNeg) (((c_from c v2.toNatClampNeg)).toNatClampNeg) (((b_cell (x_bal x tb)) (((c_from c v2.toNatClampNeg)).toNatClampNeg) (((c_from c v2.toNatClampNeg)).toNatClampNeg)) + (Int32.toInt64 (c_wide c v2.toNatClampNeg)))) (((c_to c v2.toNatClampNeg)).toNatClampNeg) (((c_to c v2.toNatClampNeg)).toNatClampNeg)) + (Int32.toInt64 (c_wide c v2.toNatClampNeg)))) (((c_from c v2.toNatClampNeg)).toNatClampNeg)) (ω' := wX c (xsb x tb (bs_cell (x_bal x tb) (upM (upM (upM (b_cell (x_bal x tb)) (((c_from c v2.toNatClampNeg)).toNatClampNeg) (((c_from c v2.toNatClampNeg)).toNatClampNeg) (((b_cell (x_bal x tb)) (((c_from c v2.toNatClampNeg)).toNatClampNeg) (((c_from c v2.toNatClampNeg)).toNatClampNeg)) + (Int32.toInt64 (c_wide c v2.toNatClampNeg)))) (((c_to c v2.toNatClampNeg)).toNatClampNeg) (((c_to c v2.toNatClampNeg)).toNatClampNeg) (((upM (b_cell (x_bal x tb)) (((c_from c v2.toNatClampNeg)).toNatClampNeg) (((c_from c v2.toNatClampNeg)).toNatClampNeg) (((b_cell (x_bal x tb)) (((c_from c v2.toNatClampNeg)).toNatClampNeg) (((c_from c v2.toNatClampNeg)).toNatClampNeg)) + (Int32.toInt64 (c_wide c v2.toNatClampNeg)))) (((c_to c v2.toNatClampNeg)).toNatClampNeg) (((c_to c v2.toNatClampNeg)).toNatClampNeg)) + (Int32.toInt64 (c_wide c v2.toNatClampNeg)))) (((c_from c v2.toNatClampNeg)).toNatClampNeg) (((c_to c v2.toNatClampNeg)).toNatClampNeg) (((upM (upM (b_cell (x_bal x tb)) (((c_from c v2.toNatClampNeg)).toNatClampNeg) (((c_from c v2.toNatClampNeg)).toNatClampNeg) (((b_cell (x_bal x tb)) (((c_from c v2.toNatClampNeg)).toNatClampNeg) (((c_from c v2.toNatClampNeg)).toNatClampNeg)) + (Int32.toInt64 (c_wide c v2.toNatClampNeg)))) (((c_to c v2.toNatClampNeg)).toNatClampNeg) (((c_to c v2.toNatClampNeg)).toNatClampNeg) (((upM (b_cell (x_bal x tb)) (((c_from c v2.toNatClampNeg)).toNatClampNeg) (((c_from c v2.toNatClampNeg)).toNatClampNeg) (((b_cell (x_bal x tb)) (((c_from c v2.toNatClampNeg)).toNatClampNeg) (((c_from c v2.toNatClampNeg)).toNatClampNeg)) + (Int32.toInt64 (c_wide c v2.toNatClampNeg)))) (((c_to c v2.toNatClampNeg)).toNatClampNeg) (((c_to c v2.toNatClampNeg)).toNatClampNeg)) + (Int32.toInt64 (c_wide c v2.toNatClampNeg)))) (((c_from c v2.toNatClampNeg)).toNatClampNeg) (((c_to c v2.toNatClampNeg)).toNatClampNeg)) - (Int32.toInt64 (c_wide c v2.toNatClampNeg))))))) (xb_row_lt htb (vp_lt i13)) (xTX_row htb (vp_lt i13)) (wXbo_row _ _ _ htb (vp_lt i13)) i16 (wXbo_srow _ _ _ htb (vp_lt i13) _ _) dX0_lay_135 ?_
      refine xr_aload_n (pc := 136) κ 0 (x := (xb tb)) dX0_lay_136 rfl rfl ?_
      refine xr_get (pc := 137) κ xc0 (k := (xb tb)) (f := 2) (v := .ref (xb tb + 1)) kw_1_113 (xb_lt (j := 0) htb (by decide)) (wXbo_obj _ _ _ htb) (by decide) rfl dX0_lay_137 ?_
      refine xr_iload (pc := 140) κ 4 (x := (c_to c v2.toNatClampNeg)) dX0_lay_140 rfl ?_
      obtain ⟨i17, h⟩ := h
      refine xr_aald (pc := 142) κ (k := (xb tb + 1)) (n := 7) (j := xb tb + 2 + (((c_to c v2.toNatClampNeg)).toNatClampNeg)) (xb_lt (j := 1) htb (by decide)) (xTX_out htb) rfl (wXb_out _ _ htb) i17 (if_pos (vp_lt i17)) dX0_lay_142 ?_
      refine xr_iload_n (pc := 143) κ 3 (x := (c_from c v2.toNatClampNeg)) dX0_lay_143 rfl rfl ?_
      refine xr_dup2 (pc := 144) κ rfl rfl dX0_lay_144 ?_
      obtain ⟨i18, h⟩ := h
      refine xr_lald (pc := 145) κ (k := (xb tb + 2 + (((c_to c v2.toNatClampNeg)).toNatClampNeg))) (n := 7) (f := (upM (upM (upM (b_cell (x_bal x tb)) (((c_from c v2.toNatClampNeg)).toNatClampNeg) (((c_from c v2.toNatClampNeg)).toNatClampNeg) (((b_cell (x_bal x tb)) (((c_from c v2.toNatClampNeg)).toNatClampNeg) (((c_from c v2.toNatClampNeg)).toNatClampNeg)) + (Int32.toInt64 (c_wide c v2.toNatClampNeg)))) (((c_to c v2.toNatClampNeg)).toNatClampNeg) (((c_to c v2.toNatClampNeg)).toNatClampNeg) (((upM (b_cell (x_bal x tb)) (((c_from c v2.toNatClampNeg)).toNatClampNeg) (((c_from c v2.toNatClampNeg)).toNatClampNeg) (((b_cell (x_bal x tb)) (((c_from c v2.toNatClampNeg)).toNatClampNeg) (((c_from c v2.toNatClampNeg)).toNatClampNeg)) + (Int32.toInt64 (c_wide c v2.toNatClampNeg)))) (((c_to c v2.toNatClampNeg)).toNatClampNeg) (((c_to c v2.toNatClampNeg)).toNatClampNeg)) + (Int32.toInt64 (c_wide c v2.toNatClampNeg)))) (((c_from c v2.toNatClampNeg)).toNatClampNeg) (((c_to c v2.toNatClampNeg)).toNatClampNeg) (((upM (upM (b_cell (x_bal x tb)) (((c_from c v2.toNatClampNeg)).toNatClampNeg) (((c_from c v2.toNatClampNeg)).toNatClampNeg) (((b_cell (x_bal x tb)) (((c_from c v2.toNatClampNeg)).toNatClampNeg) (((c_from c v2.toNatClampNeg)).toNatClampNeg)) + (Int32.toInt64 (c_wide c v2.toNatClampNeg)))) (((c_to c v2.toNatClampNeg)).toNatClampNeg) (((c_to c v2.toNatClampNeg)).toNatClampNeg) (((upM (b_cell (x_bal x tb)) (((c_from c v2.toNatClampNeg)).toNatClampNeg) (((c_from c v2.toNatClampNeg)).toNatClampNeg) (((b_cell (x_bal x tb)) (((c_from c v2.toNatClampNeg)).toNatClampNeg) (((c_from c v2.toNatClampNeg)).toNatClampNeg)) + (Int32.toInt64 (c_wide c v2.toNatClampNeg)))) (((c_to c v2.toNatClampNeg)).toNatClampNeg) (((c_to c v2.toNatClampNeg)).toNatClampNeg)) + (Int32.toInt64 (c_wide c v2.toNatClampNeg)))) (((c_from c v2.toNatClampNeg)).toNatClampNeg) (((c_to c v2.toNatClampNeg)).toNatClampNeg)) - (Int32.toInt64 (c_wide c v2.toNatClampNeg)))) (((c_to c v2.toNatClampNeg)).toNatClampNeg)) (xb_row_lt htb (vp_lt i17)) (xTX_row htb (vp_lt i17)) (wXbo_row _ _ _ htb (vp_lt i17)) i18 dX0_lay_145 ?_
      refine xr_aload_n (pc := 146) κ 1 (x := 1) dX0_lay_146 rfl rfl ?_
      refine xr_getN (pc := 147) κ xc2 (k := 1) (f := 6) (v := .ref 5) kw_1_47 (by decide) rfl (by decide) rfl dX0_lay_147 ?_
      refine xr_iload_n (pc := 150) κ 2 (x := v2) dX0_lay_150 rfl rfl ?_
      obtain ⟨i19, h⟩ := h
      refine xr_iald (pc := 151) κ (k := 5) (n := 12) (f := c_wide c) (by decide) rfl rfl i19 dX0_lay_151 ?_
      refine xr_i2l (pc := 152) κ dX0_lay_152 ?_
      refine xr_lsub (pc := 153) κ dX0_lay_153 ?_
      obtain ⟨i20, h⟩ := h
      refine xr_last (pc := 154) κ (k := (xb tb + 2 + (((c_to c v2.toNatClampNeg)).toNatClampNeg))) (n := 7) (f := (upM (upM (upM (b_cell (x_bal x tb)) (((c_from c v2.toNatClampNeg)).toNatClampNeg) (((c_from c v2.toNatClampNeg)).toNatClampNeg) (((b_cell (x_bal x tb)) (((c_from c v2.toNatClampNeg)).toNatClampNeg) (((c_from c v2.toNatClampNeg)).toNatClampNeg)) + (Int32.toInt64 (c_wide c v2.toNatClampNeg)))) (((c_to c v2.toNatClampNeg)).toNatClampNeg) (((c_to c v2.toNatClampNeg)).toNatClampNeg) (((upM (b_cell (x_bal x tb)) (((c_from c v2.toNatClampNeg)).toNatClampNeg) (((c_from c v2.toNatClampNeg)).toNatClampNeg) (((b_cell (x_bal x tb)) (((c_from c v2.toNatClampNeg)).toNatClampNeg) (((c_from c v2.toNatClampNeg)).toNatClampNeg)) + (Int32.toInt64 (c_wide c v2.toNatClampNeg)))) (((c_to c v2.toNatClampNeg)).toNatClampNeg) (((c_to c v2.toNatClampNeg)).toNatClampNeg)) + (Int32.toInt64 (c_wide c v2.toNatClampNeg)))) (((c_from c v2.toNatClampNeg)).toNatClampNeg) (((c_to c v2.toNatClampNeg)).toNatClampNeg) (((upM (upM (b_cell (x_bal x tb)) (((c_from c v2.toNatClampNeg)).toNatClampNeg) (((c_from c v2.toNatClampNeg)).toNatClampNeg) (((b_cell (x_bal x tb)) (((c_from c v2.toNatClampNeg)).toNatClampNeg) (((c_from c v2.toNatClampNeg)).toNatClampNeg)) + (Int32.toInt64 (c_wide c v2.toNatClampNeg)))) (((c_to c v2.toNatClampNeg)).toNatClampNeg) (((c_to c v2.toNatClampNeg)).toNatClampNeg) (((upM (b_cell (x_bal x tb)) (((c_from c v2.toNatClampNeg)).toNatClampNeg) (((c_from c v2.toNatClampNeg)).toNatClampNeg) (((b_cell (x_bal x tb)) (((c_from c v2.toNatClampNeg)).toNatClampNeg) (((c_from c v2.toNatClampNeg)).toNatClampNeg)) + (Int32.toInt64 (c_wide c v2.toNatClampNeg)))) (((c_to c v2.toNatClampNeg)).toNatClampNeg) (((c_to c v2.toNatClampNeg)).toNatClampNeg)) + (Int32.toInt64 (c_wide c v2.toNatClampNeg)))) (((c_from c v2.toNatClampNeg)).toNatClampNeg) (((c_to c v2.toNatClampNeg)).toNatClampNeg)) - (Int32.toInt64 (c_wide c v2.toNatClampNeg)))) (((c_to c v2.toNatClampNeg)).toNatClampNeg)) (ω' := wX c (xsb x tb (bs_cell (x_bal x tb) (upM (upM (upM (upM (b_cell (x_bal x tb)) (((c_from c v2.toNatClampNeg)).toNatClampNeg) (((c_from c v2.toNatClampNeg)).toNatClampNeg) (((b_cell (x_bal x tb)) (((c_from c v2.toNatClampNeg)).toNatClampNeg) (((c_from c v2.toNatClampNeg)).toNatClampNeg)) + (Int32.toInt64 (c_wide c v2.toNatClampNeg)))) (((c_to c v2.toNatClampNeg)).toNatClampNeg) (((c_to c v2.toNatClampNeg)).toNatClampNeg) (((upM (b_cell (x_bal x tb)) (((c_from c v2.toNatClampNeg)).toNatClampNeg) (((c_from c v2.toNatClampNeg)).toNatClampNeg) (((b_cell (x_bal x tb)) (((c_from c v2.toNatClampNeg)).toNatClampNeg) (((c_from c v2.toNatClampNeg)).toNatClampNeg)) + (Int32.toInt64 (c_wide c v2.toNatClampNeg)))) (((c_to c v2.toNatClampNeg)).toNatClampNeg) (((c_to c v2.toNatClampNeg)).toNatClampNeg)) + (Int32.toInt64 (c_wide c v2.toNatClampNeg)))) (((c_from c v2.toNatClampNeg)).toNatClampNeg) (((c_to c v2.toNatClampNeg)).toNatClampNeg) (((upM (upM (b_cell (x_bal x tb)) (((c_from c v2.toNatClampNeg)).toNatClampNeg) (((c_from c v2.toNatClampNeg)).toNatClampNeg) (((b_cell (x_bal x tb)) (((c_from c v2.toNatClampNeg)).toNatClampNeg) (((c_from c v2.toNatClampNeg)).toNatClampNeg)) + (Int32.toInt64 (c_wide c v2.toNatClampNeg)))) (((c_to c v2.toNatClampNeg)).toNatClampNeg) (((c_to c v2.toNatClampNeg)).toNatClampNeg) (((upM (b_cell (x_bal x tb)) (((c_from c v2.toNatClampNeg)).toNatClampNeg) (((c_from c v2.toNatClampNeg)).toNatClampNeg) (((b_cell (x_bal x tb)) (((c_from c v2.toNatClampNeg)).toNatClampNeg) (((c_from c v2.toNatClampNeg)).toNatClampNeg)) + (Int32.toInt64 (c_wide c v2.toNatClampNeg)))) (((c_to c v2.toNatClampNeg)).toNatClampNeg) (((c_to c v2.toNatClampNeg)).toNatClampNeg)) + (Int32.toInt64 (c_wide c v2.toNatClampNeg)))) (((c_from c v2.toNatClampNeg)).toNatClampNeg) (((c_to c v2.toNatClampNeg)).toNatClampNeg)) - (Int32.toInt64 (c_wide c v2.toNatClampNeg)))) (((c_to c v2.toNatClampNeg)).toNatClampNeg) (((c_from c v2.toNatClampNeg)).toNatClampNeg) (((upM (upM (upM (b_cell (x_bal x tb)) (((c_from c v2.toNatClampNeg)).toNatClampNeg) (((c_from c v2.toNatClampNeg)).toNatClampNeg) (((b_cell (x_bal x tb)) (((c_from c v2.toNatClampNeg)).toNatClampNeg) (((c_from c v2.toNatClampNeg)).toNatClampNeg)) + (Int32.toInt64 (c_wide c v2.toNatClampNeg)))) (((c_to c v2.toNatClampNeg)).toNatClampNeg) (((c_to c v2.toNatClampNeg)).toNatClampNeg) (((upM (b_cell (x_bal x tb)) (((c_from c v2.toNatClampNeg)).toNatClampNeg) (((c_from c v2.toNatClampNeg)).toNatClampNeg) (((b_cell (x_bal x tb)) (((c_from c v2.toNatClampNeg)).toNatClampNeg) (((c_from c v2.toNatClampNeg)).toNatClampNeg)) + (Int32.toInt64 (c_wide c v2.toNatClampNeg)))) (((c_to c v2.toNatClampNeg)).toNatClampNeg) (((c_to c v2.toNatClampNeg)).toNatClampNeg)) + (Int32.toInt64 (c_wide c v2.toNatClampNeg)))) (((c_from c v2.toNatClampNeg)).toNatClampNeg) (((c_to c v2.toNatClampNeg)).toNatClampNeg) (((upM (upM (b_cell (x_bal x tb)) (((c_from c v2.toNatClampNeg)).toNatClampNeg) (((c_from c v2.toNatClampNeg)).toNatClampNeg) (((b_cell (x_bal x tb)) (((c_from c v2.toNatClampNeg)).toNatClampNeg) (((c_from c v2.toNatClampNeg)).toNatClampNeg)) + (Int32.toInt64 (c_wide c v2.toNatClampNeg)))) (((c_to c v2.toNatClampNeg)).toNatClampNeg) (((c_to c v2.toNatClampNeg)).toNatClampNeg) (((upM (b_cell (x_bal x tb)) (((c_from c v2.toNatClampNeg)).toNatClampNeg) (((c_from c v2.toNatClampNeg)).toNatClampNeg) (((b_cell (x_bal x tb)) (((c_from c v2.toNatClampNeg)).toNatClampNeg) (((c_from c v2.toNatClampNeg)).toNatClampNeg)) + (Int32.toInt64 (c_wide c v2.toNatClampNeg)))) (((c_to c v2.toNatClampNeg)).toNatClampNeg) (((c_to c v2.toNatClampNeg)).toNatClampNeg)) + (Int32.toInt64 (c_wide c v2.toNatClampNeg)))) (((c_from c v2.toNatClampNeg)).toNatClampNeg) (((c_to c v2.toNatClampNeg)).toNatClampNeg)) - (Int32.toInt64 (c_wide c v2.toNatClampNeg)))) (((c_to c v2.toNatClampNeg)).toNatClampNeg) (((c_from c v2.toNatClampNeg)).toNatClampNeg)) - (Int32.toInt64 (c_wide c v2.toNatClampNeg))))))) (xb_row_lt htb (vp_lt i17)) (xTX_row htb (vp_lt i17)) (wXbo_row _ _ _ htb (vp_lt i17)) i20 (wXbo_srow _ _ _ htb (vp_lt i17) _ _) dX0_lay_154 ?_
      refine xr_iinc (pc := 155) κ 2 [1, 2, 0, 3, 4] (lv' := [(0, .ref (xb tb)), (1, .ref 1), (2, .int (v2 + 1)), (3, .int (c_from c v2.toNatClampNeg)), (4, .int (c_to c v2.toNatClampNeg))]) (x := v2) (v := v2 + 1) dX0_lay_155 rfl rfl (by decide) rfl ?_
      refine xr_goto (pc := 158) κ (tgt := 56) dX0_lay_158 (by decide) ?_
      refine xr_sub (pc := 56) κ [0, 1, 2] (lv' := [(0, .ref (xb tb)), (1, .ref 1), (2, .int (v2 + 1))]) rfl ?_
      exact ih _ _ _ h
def nd_X0_lay_25 (tb : Nat) (K : CS → XT → Prop) (L15 : Int32 → CS → XT → Prop) : Nat → Int32 → Int32 → CS → XT → Prop
  | 0 => fun _ _ _ _ => False
  | n + 1 => fun v2 v3 c x =>
    ((b_knots (x_bal x tb)) ≤ v3 →
      L15 (v2 + 1) c x) ∧
    (¬ (b_knots (x_bal x tb)) ≤ v3 →
      vp_in v2 7 ∧
      vp_in v3 7 ∧
      nd_X0_lay_25 tb K L15 n v2 (v3 + 1) c (xsb x tb (bs_cell (x_bal x tb) (upM (b_cell (x_bal x tb)) v2.toNatClampNeg v3.toNatClampNeg (0 : Int64)))))
set_option maxHeartbeats 4000000 in
set_option maxRecDepth 100000 in
theorem snd_X0_lay_25 {l : Launch} (κ : XC l xTX cX0_lay yX0_lay.cls 5 (none) 0) (tb : Nat) (htb : tb < 6) (K : CS → XT → Prop) (hQ : xRet κ (fun v ω' => ∃ (c' : CS) (t' : XT), v = none ∧ ω' = wX c' t' ∧ K c' t')) (L15 : Int32 → CS → XT → Prop) (hL15 : ∀ (v2 : Int32) (c : CS) (x : XT), L15 v2 c x → Wat κ 15 [(0, .ref (xb tb)), (1, .ref 1), (2, .int v2)] [] (wX c x)) : ∀ (n : Nat) (v2 : Int32) (v3 : Int32) (c : CS) (x : XT), nd_X0_lay_25 tb K L15 n v2 v3 c x → Wat κ 25 [(0, .ref (xb tb)), (1, .ref 1), (2, .int v2), (3, .int v3)] [] (wX c x) := by
  intro n
  induction n with
  | zero => intro v2 v3 c x h; exact h.elim
  | succ n ih =>
    intro v2 v3 c x h
    unfold nd_X0_lay_25 at h
    refine xr_iload_n (pc := 25) κ 3 (x := v3) dX0_lay_25 rfl rfl ?_
    refine xr_aload_n (pc := 26) κ 0 (x := (xb tb)) dX0_lay_26 rfl rfl ?_
    refine xr_get (pc := 27) κ xc0 (k := (xb tb)) (f := 0) (v := .int (b_knots (x_bal x tb))) kw_1_109 (xb_lt (j := 0) htb (by decide)) (wXb_obj _ _ htb) (by decide) rfl dX0_lay_27 ?_
    refine xr_icmp_ge (pc := 30) κ (tgt := 48) dX0_lay_30 (by decide) (fun c21 => ?_) (fun c21 => ?_)
    · have h := h.1 c21
      refine xr_iinc (pc := 48) κ 2 [1, 2, 0, 3] (lv' := [(0, .ref (xb tb)), (1, .ref 1), (2, .int (v2 + 1)), (3, .int v3)]) (x := v2) (v := v2 + 1) dX0_lay_48 rfl rfl (by decide) rfl ?_
      refine xr_goto (pc := 51) κ (tgt := 15) dX0_lay_51 (by decide) ?_
      refine xr_sub (pc := 15) κ [0, 1, 2] (lv' := [(0, .ref (xb tb)), (1, .ref 1), (2, .int (v2 + 1))]) rfl ?_
      exact hL15 _ _ _ h
    · have h := h.2 c21
      refine xr_aload_n (pc := 33) κ 0 (x := (xb tb)) dX0_lay_33 rfl rfl ?_
      refine xr_get (pc := 34) κ xc0 (k := (xb tb)) (f := 2) (v := .ref (xb tb + 1)) kw_1_113 (xb_lt (j := 0) htb (by decide)) (wXb_obj _ _ htb) (by decide) rfl dX0_lay_34 ?_
      refine xr_iload_n (pc := 37) κ 2 (x := v2) dX0_lay_37 rfl rfl ?_
      obtain ⟨i22, h⟩ := h
      refine xr_aald (pc := 38) κ (k := (xb tb + 1)) (n := 7) (j := xb tb + 2 + v2.toNatClampNeg) (xb_lt (j := 1) htb (by decide)) (xTX_out htb) rfl (wXb_out _ _ htb) i22 (if_pos (vp_lt i22)) dX0_lay_38 ?_
      refine xr_iload_n (pc := 39) κ 3 (x := v3) dX0_lay_39 rfl rfl ?_
      refine xr_lconst (pc := 40) κ (v := 0) dX0_lay_40 (by decide) ?_
      obtain ⟨i23, h⟩ := h
      refine xr_last (pc := 41) κ (k := (xb tb + 2 + v2.toNatClampNeg)) (n := 7) (f := (b_cell (x_bal x tb)) v2.toNatClampNeg) (ω' := wX c (xsb x tb (bs_cell (x_bal x tb) (upM (b_cell (x_bal x tb)) v2.toNatClampNeg v3.toNatClampNeg (0 : Int64))))) (xb_row_lt htb (vp_lt i22)) (xTX_row htb (vp_lt i22)) (wXb_row _ _ htb (vp_lt i22)) i23 (wXb_srow _ _ htb (vp_lt i22) _ _) dX0_lay_41 ?_
      refine xr_iinc (pc := 42) κ 3 [1, 2, 3, 0] (lv' := [(0, .ref (xb tb)), (1, .ref 1), (2, .int v2), (3, .int (v3 + 1))]) (x := v3) (v := v3 + 1) dX0_lay_42 rfl rfl (by decide) rfl ?_
      refine xr_goto (pc := 45) κ (tgt := 25) dX0_lay_45 (by decide) ?_
      exact ih _ _ _ _ h
def nd_X0_lay_15 (tb : Nat) (K : CS → XT → Prop) : Nat → Int32 → CS → XT → Prop
  | 0 => fun _ _ _ => False
  | n + 1 => fun v2 c x =>
    ((b_knots (x_bal x tb)) ≤ v2 →
      ∃ n56 : Nat, nd_X0_lay_56 tb K n56 (0 : Int32) c x) ∧
    (¬ (b_knots (x_bal x tb)) ≤ v2 →
      ∃ n25 : Nat, nd_X0_lay_25 tb K (fun v2 c x => nd_X0_lay_15 tb K n v2 c x) n25 v2 (0 : Int32) c x)
set_option maxHeartbeats 4000000 in
set_option maxRecDepth 100000 in
theorem snd_X0_lay_15 {l : Launch} (κ : XC l xTX cX0_lay yX0_lay.cls 5 (none) 0) (tb : Nat) (htb : tb < 6) (K : CS → XT → Prop) (hQ : xRet κ (fun v ω' => ∃ (c' : CS) (t' : XT), v = none ∧ ω' = wX c' t' ∧ K c' t')) : ∀ (n : Nat) (v2 : Int32) (c : CS) (x : XT), nd_X0_lay_15 tb K n v2 c x → Wat κ 15 [(0, .ref (xb tb)), (1, .ref 1), (2, .int v2)] [] (wX c x) := by
  intro n
  induction n with
  | zero => intro v2 c x h; exact h.elim
  | succ n ih =>
    intro v2 c x h
    unfold nd_X0_lay_15 at h
    refine xr_iload_n (pc := 15) κ 2 (x := v2) dX0_lay_15 rfl rfl ?_
    refine xr_aload_n (pc := 16) κ 0 (x := (xb tb)) dX0_lay_16 rfl rfl ?_
    refine xr_get (pc := 17) κ xc0 (k := (xb tb)) (f := 0) (v := .int (b_knots (x_bal x tb))) kw_1_109 (xb_lt (j := 0) htb (by decide)) (wXb_obj _ _ htb) (by decide) rfl dX0_lay_17 ?_
    refine xr_icmp_ge (pc := 20) κ (tgt := 54) dX0_lay_20 (by decide) (fun c1 => ?_) (fun c1 => ?_)
    · have h := h.1 c1
      refine xr_iconst (pc := 54) κ (v := 0) dX0_lay_54 (by decide) ?_
      refine xr_istore_n (pc := 55) κ [1, 2, 0] (lv' := [(0, .ref (xb tb)), (1, .ref 1), (2, .int (0 : Int32))]) dX0_lay_55 rfl (by decide) rfl ?_
      obtain ⟨n0, h⟩ := h
      exact snd_X0_lay_56 κ tb htb K hQ n0 _ _ _ h
    · have h := h.2 c1
      refine xr_iconst (pc := 23) κ (v := 0) dX0_lay_23 (by decide) ?_
      refine xr_istore_n (pc := 24) κ [1, 2, 3, 0] (lv' := [(0, .ref (xb tb)), (1, .ref 1), (2, .int v2), (3, .int (0 : Int32))]) dX0_lay_24 rfl (by decide) rfl ?_
      obtain ⟨n0, h⟩ := h
      exact snd_X0_lay_25 κ tb htb K hQ _ ih n0 _ _ _ _ h
def wp_X0_lay (tb : Nat) (c : CS) (x : XT) (K : CS → XT → Prop) : Prop :=
    ∃ n15 : Nat, nd_X0_lay_15 tb K n15 (0 : Int32) c (xsb x tb (bs_below (bs_knots (x_bal x tb) (c_n c)) (1 : Int64)))
set_option maxHeartbeats 4000000 in
set_option maxRecDepth 100000 in
theorem snd_X0_lay {l : Launch} (tb : Nat) (htb : tb < 6) (c : CS) (x : XT) (K : CS → XT → Prop) (h : wp_X0_lay tb  c x K) : XM l xTX yX0_lay cX0_lay 5 (none) 0 [.ref (xb tb), .ref 1] (wX c x) (fun v ω' => ∃ (c' : CS) (t' : XT), v = none ∧ ω' = wX c' t' ∧ K c' t') := by
    refine XM.of (by decide) (Nat.le_of_ble_eq_true rfl) (fun κ hQ => ?_)
    show Wat κ 0 [(0, .ref (xb tb)), (1, .ref 1)] [] (wX c x)
    unfold wp_X0_lay at h
    refine xr_aload_n (pc := 0) κ 0 (x := (xb tb)) dX0_lay_0 rfl rfl ?_
    refine xr_aload_n (pc := 1) κ 1 (x := 1) dX0_lay_1 rfl rfl ?_
    refine xr_getN (pc := 2) κ xc2 (k := 1) (f := 0) (v := .int (c_n c)) kw_1_26 (by decide) rfl (by decide) rfl dX0_lay_2 ?_
    refine xr_put (pc := 5) κ xc0 (k := (xb tb)) (f := 0) (v := .int (c_n c)) (ω' := wX c (xsb x tb (bs_knots (x_bal x tb) (c_n c)))) kw_1_109 (xb_lt (j := 0) htb (by decide)) (wXb_obj _ _ htb) (by decide) rfl (fun _ => rfl) (fun _ => rfl) (Nat.le_of_ble_eq_true rfl) (wXb_knots _ _ htb _) dX0_lay_5 ?_
    refine xr_aload_n (pc := 8) κ 0 (x := (xb tb)) dX0_lay_8 rfl rfl ?_
    refine xr_lconst (pc := 9) κ (v := 1) dX0_lay_9 (by decide) ?_
    refine xr_put (pc := 10) κ xc0 (k := (xb tb)) (f := 1) (v := .long (1 : Int64)) (ω' := wX c (xsb x tb (bs_below (bs_knots (x_bal x tb) (c_n c)) (1 : Int64)))) kw_1_111 (xb_lt (j := 0) htb (by decide)) (wXbo_obj _ _ _ htb) (by decide) rfl (fun _ => rfl) (fun _ => rfl) (Nat.le_of_ble_eq_true rfl) (wXbo_below _ _ _ htb _) dX0_lay_10 ?_
    refine xr_iconst (pc := 13) κ (v := 0) dX0_lay_13 (by decide) ?_
    refine xr_istore_n (pc := 14) κ [1, 2, 0] (lv' := [(0, .ref (xb tb)), (1, .ref 1), (2, .int (0 : Int32))]) dX0_lay_14 rfl (by decide) rfl ?_
    obtain ⟨n0, h⟩ := h
    exact snd_X0_lay_15 κ tb htb K hQ n0 _ _ _ h
-- ChipVolts$Balance.takeOut(I)Z, level 0
def nd_X0_takeOut_124 (tb : Nat) (K : Int32 → CS → XT → Prop) : Nat → Int32 → Int64 → Int32 → CS → XT → Prop
  | 0 => fun _ _ _ _ _ => False
  | n + 1 => fun v1 v2 v4 c x =>
    ((b_knots (x_bal x tb)) ≤ v4 →
      vp_in v1 7 ∧
      vp_in v1 7 ∧
      K (1 : Int32) c (xsb x tb (bs_below (bs_cell (x_bal x tb) (upM (b_cell (x_bal x tb)) v1.toNatClampNeg v1.toNatClampNeg (b_below (x_bal x tb)))) v2))) ∧
    (¬ (b_knots (x_bal x tb)) ≤ v4 →
      vp_in v1 7 ∧
      vp_in v1 7 ∧
      vp_in v4 7 ∧
      vp_in v4 7 ∧
      nd_X0_takeOut_124 tb K n v1 v2 (v4 + 1) c (xsb x tb (bs_cell (x_bal x tb) (upM (b_cell (x_bal x tb)) v1.toNatClampNeg v4.toNatClampNeg (-((b_cell (x_bal x tb)) v1.toNatClampNeg v4.toNatClampNeg))))))
set_option maxHeartbeats 4000000 in
set_option maxRecDepth 100000 in
theorem snd_X0_takeOut_124 {l : Launch} (κ : XC l xTX cX0_takeOut yX0_takeOut.cls 6 (some .boolean) 0) (tb : Nat) (htb : tb < 6) (K : Int32 → CS → XT → Prop) (hQ : xRet κ (fun v ω' => ∃ (r : Int32) (c' : CS) (t' : XT), v = some (.int r) ∧ ω' = wX c' t' ∧ K r c' t')) : ∀ (n : Nat) (v1 : Int32) (v2 : Int64) (v4 : Int32) (c : CS) (x : XT), nd_X0_takeOut_124 tb K n v1 v2 v4 c x → Wat κ 124 [(0, .ref (xb tb)), (1, .int v1), (2, .long v2), (4, .int v4)] [] (wX c x) := by
  intro n
  induction n with
  | zero => intro v1 v2 v4 c x h; exact h.elim
  | succ n ih =>
    intro v1 v2 v4 c x h
    unfold nd_X0_takeOut_124 at h
    refine xr_iload (pc := 124) κ 3 (x := v4) dX0_takeOut_124 rfl ?_
    refine xr_aload_n (pc := 126) κ 0 (x := (xb tb)) dX0_takeOut_126 rfl rfl ?_
    refine xr_get (pc := 127) κ xc0 (k := (xb tb)) (f := 0) (v := .int (b_knots (x_bal x tb))) kw_1_109 (xb_lt (j := 0) htb (by decide)) (wXb_obj _ _ htb) (by decide) rfl dX0_takeOut_127 ?_
    refine xr_icmp_ge (pc := 130) κ (tgt := 158) dX0_takeOut_130 (by decide) (fun c6 => ?_) (fun c6 => ?_)
    · have h := h.1 c6
      refine xr_aload_n (pc := 158) κ 0 (x := (xb tb)) dX0_takeOut_158 rfl rfl ?_
      refine xr_get (pc := 159) κ xc0 (k := (xb tb)) (f := 2) (v := .ref (xb tb + 1)) kw_1_113 (xb_lt (j := 0) htb (by decide)) (wXb_obj _ _ htb) (by decide) rfl dX0_takeOut_159 ?_
      refine xr_iload_n (pc := 162) κ 1 (x := v1) dX0_takeOut_162 rfl rfl ?_
      obtain ⟨i7, h⟩ := h
      refine xr_aald (pc := 163) κ (k := (xb tb + 1)) (n := 7) (j := xb tb + 2 + v1.toNatClampNeg) (xb_lt (j := 1) htb (by decide)) (xTX_out htb) rfl (wXb_out _ _ htb) i7 (if_pos (vp_lt i7)) dX0_takeOut_163 ?_
      refine xr_iload_n (pc := 164) κ 1 (x := v1) dX0_takeOut_164 rfl rfl ?_
      refine xr_aload_n (pc := 165) κ 0 (x := (xb tb)) dX0_takeOut_165 rfl rfl ?_
      refine xr_get (pc := 166) κ xc0 (k := (xb tb)) (f := 1) (v := .long (b_below (x_bal x tb))) kw_1_111 (xb_lt (j := 0) htb (by decide)) (wXb_obj _ _ htb) (by decide) rfl dX0_takeOut_166 ?_
      obtain ⟨i8, h⟩ := h
      refine xr_last (pc := 169) κ (k := (xb tb + 2 + v1.toNatClampNeg)) (n := 7) (f := (b_cell (x_bal x tb)) v1.toNatClampNeg) (ω' := wX c (xsb x tb (bs_cell (x_bal x tb) (upM (b_cell (x_bal x tb)) v1.toNatClampNeg v1.toNatClampNeg (b_below (x_bal x tb)))))) (xb_row_lt htb (vp_lt i7)) (xTX_row htb (vp_lt i7)) (wXb_row _ _ htb (vp_lt i7)) i8 (wXb_srow _ _ htb (vp_lt i7) _ _) dX0_takeOut_169 ?_
      refine xr_aload_n (pc := 170) κ 0 (x := (xb tb)) dX0_takeOut_170 rfl rfl ?_
      refine xr_lload_n (pc := 171) κ 2 (x := v2) dX0_takeOut_171 rfl rfl ?_
      refine xr_put (pc := 172) κ xc0 (k := (xb tb)) (f := 1) (v := .long v2) (ω' := wX c (xsb x tb (bs_below (bs_cell (x_bal x tb) (upM (b_cell (x_bal x tb)) v1.toNatClampNeg v1.toNatClampNeg (b_below (x_bal x tb)))) v2))) kw_1_111 (xb_lt (j := 0) htb (by decide)) (wXbo_obj _ _ _ htb) (by decide) rfl (fun _ => rfl) (fun _ => rfl) (Nat.le_of_ble_eq_true rfl) (wXbo_below _ _ _ htb _) dX0_takeOut_172 ?_
      refine xr_iconst (pc := 175) κ (v := 1) dX0_takeOut_175 (by decide) ?_
      exact xr_zret (pc := 176) κ _ hQ rfl dX0_takeOut_176 ⟨_, _, _, rfl, rfl, h⟩
    · have h := h.2 c6
      refine xr_aload_n (pc := 133) κ 0 (x := (xb tb)) dX0_takeOut_133 rfl rfl ?_
      refine xr_get (pc := 134) κ xc0 (k := (xb tb)) (f := 2) (v := .ref (xb tb + 1)) kw_1_113 (xb_lt (j := 0) htb (by decide)) (wXb_obj _ _ htb) (by decide) rfl dX0_takeOut_134 ?_
      refine xr_iload_n (pc := 137) κ 1 (x := v1) dX0_takeOut_137 rfl rfl ?_
      obtain ⟨i9, h⟩ := h
      refine xr_aald (pc := 138) κ (k := (xb tb + 1)) (n := 7) (j := xb tb + 2 + v1.toNatClampNeg) (xb_lt (j := 1) htb (by decide)) (xTX_out htb) rfl (wXb_out _ _ htb) i9 (if_pos (vp_lt i9)) dX0_takeOut_138 ?_
      refine xr_iload (pc := 139) κ 3 (x := v4) dX0_takeOut_139 rfl ?_
      refine xr_aload_n (pc := 141) κ 0 (x := (xb tb)) dX0_takeOut_141 rfl rfl ?_
      refine xr_get (pc := 142) κ xc0 (k := (xb tb)) (f := 2) (v := .ref (xb tb + 1)) kw_1_113 (xb_lt (j := 0) htb (by decide)) (wXb_obj _ _ htb) (by decide) rfl dX0_takeOut_142 ?_
      refine xr_iload_n (pc := 145) κ 1 (x := v1) dX0_takeOut_145 rfl rfl ?_
      obtain ⟨i10, h⟩ := h
      refine xr_aald (pc := 146) κ (k := (xb tb + 1)) (n := 7) (j := xb tb + 2 + v1.toNatClampNeg) (xb_lt (j := 1) htb (by decide)) (xTX_out htb) rfl (wXb_out _ _ htb) i10 (if_pos (vp_lt i10)) dX0_takeOut_146 ?_
      refine xr_iload (pc := 147) κ 3 (x := v4) dX0_takeOut_147 rfl ?_
      obtain ⟨i11, h⟩ := h
      refine xr_lald (pc := 149) κ (k := (xb tb + 2 + v1.toNatClampNeg)) (n := 7) (f := (b_cell (x_bal x tb)) v1.toNatClampNeg) (xb_row_lt htb (vp_lt i10)) (xTX_row htb (vp_lt i10)) (wXb_row _ _ htb (vp_lt i10)) i11 dX0_takeOut_149 ?_
      refine xr_lneg (pc := 150) κ dX0_takeOut_150 ?_
      obtain ⟨i12, h⟩ := h
      refine xr_last (pc := 151) κ (k := (xb tb + 2 + v1.toNatClampNeg)) (n := 7) (f := (b_cell (x_bal x tb)) v1.toNatClampNeg) (ω' := wX c (xsb x tb (bs_cell (x_bal x tb) (upM (b_cell (x_bal x tb)) v1.toNatClampNeg v4.toNatClampNeg (-((b_cell (x_bal x tb)) v1.toNatClampNeg v4.toNatClampNeg)))))) (xb_row_lt htb (vp_lt i10)) (xTX_row htb (vp_lt i10)) (wXb_row _ _ htb (vp_lt i10)) i12 (wXb_srow _ _ htb (vp_lt i10) _ _) dX0_takeOut_151 ?_
      refine xr_iinc (pc := 152) κ 3 [1, 2, 3, 0] (lv' := [(0, .ref (xb tb)), (1, .int v1), (2, .long v2), (4, .int (v4 + 1))]) (x := v4) (v := v4 + 1) dX0_takeOut_152 rfl rfl (by decide) rfl ?_
      refine xr_goto (pc := 155) κ (tgt := 124) dX0_takeOut_155 (by decide) ?_
      exact ih _ _ _ _ _ h
def nd_X0_takeOut_109 (tb : Nat) (K : Int32 → CS → XT → Prop) (L29 : Int32 → Int64 → Int32 → CS → XT → Prop) (L41 : Int32 → Int64 → Int32 → Int32 → CS → XT → Prop) (v1 : Int32) (v2 : Int64) (v4 : Int32) (v5 : Int32) (c : CS) (x : XT) : Prop :=
    L41 v1 v2 v4 (v5 + 1) c x
set_option maxHeartbeats 4000000 in
set_option maxRecDepth 100000 in
theorem snd_X0_takeOut_109 {l : Launch} (κ : XC l xTX cX0_takeOut yX0_takeOut.cls 6 (some .boolean) 0) (tb : Nat) (htb : tb < 6) (K : Int32 → CS → XT → Prop) (hQ : xRet κ (fun v ω' => ∃ (r : Int32) (c' : CS) (t' : XT), v = some (.int r) ∧ ω' = wX c' t' ∧ K r c' t')) (L29 : Int32 → Int64 → Int32 → CS → XT → Prop) (L41 : Int32 → Int64 → Int32 → Int32 → CS → XT → Prop) (hL29 : ∀ (v1 : Int32) (v2 : Int64) (v4 : Int32) (c : CS) (x : XT), L29 v1 v2 v4 c x → Wat κ 29 [(0, .ref (xb tb)), (1, .int v1), (2, .long v2), (4, .int v4)] [] (wX c x)) (hL41 : ∀ (v1 : Int32) (v2 : Int64) (v4 : Int32) (v5 : Int32) (c : CS) (x : XT), L41 v1 v2 v4 v5 c x → Wat κ 41 [(0, .ref (xb tb)), (1, .int v1), (2, .long v2), (4, .int v4), (5, .int v5)] [] (wX c x)) (v1 : Int32) (v2 : Int64) (v4 : Int32) (v5 : Int32) (c : CS) (x : XT) (h : nd_X0_takeOut_109 tb K L29 L41 v1 v2 v4 v5 c x) : Wat κ 109 [(0, .ref (xb tb)), (1, .int v1), (2, .long v2), (4, .int v4), (5, .int v5)] [] (wX c x) := by
    unfold nd_X0_takeOut_109 at h
    refine xr_iinc (pc := 109) κ 4 [1, 2, 3, 4, 0] (lv' := [(0, .ref (xb tb)), (1, .int v1), (2, .long v2), (4, .int v4), (5, .int (v5 + 1))]) (x := v5) (v := v5 + 1) dX0_takeOut_109 rfl rfl (by decide) rfl ?_
    refine xr_goto (pc := 112) κ (tgt := 41) dX0_takeOut_112 (by decide) ?_
    exact hL41 _ _ _ _ _ _ h
def nd_X0_takeOut_41 (tb : Nat) (K : Int32 → CS → XT → Prop) (L29 : Int32 → Int64 → Int32 → CS → XT → Prop) : Nat → Int32 → Int64 → Int32 → Int32 → CS → XT → Prop
  | 0 => fun _ _ _ _ _ _ => False
  | n + 1 => fun v1 v2 v4 v5 c x =>
    ((b_knots (x_bal x tb)) ≤ v5 →
      L29 v1 v2 (v4 + 1) c x) ∧
    (¬ (b_knots (x_bal x tb)) ≤ v5 →
      (v4 = v1 →
        nd_X0_takeOut_109 tb K L29 (fun v1 v2 v4 v5 c x => nd_X0_takeOut_41 tb K L29 n v1 v2 v4 v5 c x) v1 v2 v4 v5 c x) ∧
      (¬ v4 = v1 →
        (v5 = v1 →
          nd_X0_takeOut_109 tb K L29 (fun v1 v2 v4 v5 c x => nd_X0_takeOut_41 tb K L29 n v1 v2 v4 v5 c x) v1 v2 v4 v5 c x) ∧
        (¬ v5 = v1 →
          vp_in v4 7 ∧
          vp_in v4 7 ∧
          vp_in v5 7 ∧
          vp_in v4 7 ∧
          vp_in v1 7 ∧
          vp_in v1 7 ∧
          vp_in v5 7 ∧
          ¬ (b_below (x_bal x tb)) = 0 ∧
          vp_in v5 7 ∧
          nd_X0_takeOut_109 tb K L29 (fun v1 v2 v4 v5 c x => nd_X0_takeOut_41 tb K L29 n v1 v2 v4 v5 c x) v1 v2 v4 v5 c (xsb x tb (bs_cell (x_bal x tb) (upM (b_cell (x_bal x tb)) v4.toNatClampNeg v5.toNatClampNeg (((((b_cell (x_bal x tb)) v4.toNatClampNeg v5.toNatClampNeg) * v2) - (((b_cell (x_bal x tb)) v4.toNatClampNeg v1.toNatClampNeg) * ((b_cell (x_bal x tb)) v1.toNatClampNeg v5.toNatClampNeg))) / (b_below (x_bal x tb)))))))))
set_option maxHeartbeats 4000000 in
set_option maxRecDepth 100000 in
theorem snd_X0_takeOut_41 {l : Launch} (κ : XC l xTX cX0_takeOut yX0_takeOut.cls 6 (some .boolean) 0) (tb : Nat) (htb : tb < 6) (K : Int32 → CS → XT → Prop) (hQ : xRet κ (fun v ω' => ∃ (r : Int32) (c' : CS) (t' : XT), v = some (.int r) ∧ ω' = wX c' t' ∧ K r c' t')) (L29 : Int32 → Int64 → Int32 → CS → XT → Prop) (hL29 : ∀ (v1 : Int32) (v2 : Int64) (v4 : Int32) (c : CS) (x : XT), L29 v1 v2 v4 c x → Wat κ 29 [(0, .ref (xb tb)), (1, .int v1), (2, .long v2), (4, .int v4)] [] (wX c x)) : ∀ (n : Nat) (v1 : Int32) (v2 : Int64) (v4 : Int32) (v5 : Int32) (c : CS) (x : XT), nd_X0_takeOut_41 tb K L29 n v1 v2 v4 v5 c x → Wat κ 41 [(0, .ref (xb tb)), (1, .int v1), (2, .long v2), (4, .int v4), (5, .int v5)] [] (wX c x) := by
  intro n
  induction n with
  | zero => intro v1 v2 v4 v5 c x h; exact h.elim
  | succ n ih =>
    intro v1 v2 v4 v5 c x h
    unfold nd_X0_takeOut_41 at h
    refine xr_iload (pc := 41) κ 4 (x := v5) dX0_takeOut_41 rfl ?_
    refine xr_aload_n (pc := 43) κ 0 (x := (xb tb)) dX0_takeOut_43 rfl rfl ?_
    refine xr_get (pc := 44) κ xc0 (k := (xb tb)) (f := 0) (v := .int (b_knots (x_bal x tb))) kw_1_109 (xb_lt (j := 0) htb (by decide)) (wXb_obj _ _ htb) (by decide) rfl dX0_takeOut_44 ?_
    refine xr_icmp_ge (pc := 47) κ (tgt := 115) dX0_takeOut_47 (by decide) (fun c13 => ?_) (fun c13 => ?_)
    · have h := h.1 c13
      refine xr_iinc (pc := 115) κ 3 [1, 2, 3, 0, 4] (lv' := [(0, .ref (xb tb)), (1, .int v1), (2, .long v2), (4, .int (v4 + 1)), (5, .int v5)]) (x := v4) (v := v4 + 1) dX0_takeOut_115 rfl rfl (by decide) rfl ?_
      refine xr_goto (pc := 118) κ (tgt := 29) dX0_takeOut_118 (by decide) ?_
      refine xr_sub (pc := 29) κ [0, 1, 2, 3] (lv' := [(0, .ref (xb tb)), (1, .int v1), (2, .long v2), (4, .int (v4 + 1))]) rfl ?_
      exact hL29 _ _ _ _ _ h
    · have h := h.2 c13
      refine xr_iload (pc := 50) κ 3 (x := v4) dX0_takeOut_50 rfl ?_
      refine xr_iload_n (pc := 52) κ 1 (x := v1) dX0_takeOut_52 rfl rfl ?_
      refine xr_icmp_eq (pc := 53) κ (tgt := 109) dX0_takeOut_53 (by decide) (fun c14 => ?_) (fun c14 => ?_)
      · have h := h.1 c14
        exact snd_X0_takeOut_109 κ tb htb K hQ _ _ hL29 ih _ _ _ _ _ _ h
      · have h := h.2 c14
        refine xr_iload (pc := 56) κ 4 (x := v5) dX0_takeOut_56 rfl ?_
        refine xr_iload_n (pc := 58) κ 1 (x := v1) dX0_takeOut_58 rfl rfl ?_
        refine xr_icmp_eq (pc := 59) κ (tgt := 109) dX0_takeOut_59 (by decide) (fun c15 => ?_) (fun c15 => ?_)
        · have h := h.1 c15
          exact snd_X0_takeOut_109 κ tb htb K hQ _ _ hL29 ih _ _ _ _ _ _ h
        · have h := h.2 c15
          refine xr_aload_n (pc := 62) κ 0 (x := (xb tb)) dX0_takeOut_62 rfl rfl ?_
          refine xr_get (pc := 63) κ xc0 (k := (xb tb)) (f := 2) (v := .ref (xb tb + 1)) kw_1_113 (xb_lt (j := 0) htb (by decide)) (wXb_obj _ _ htb) (by decide) rfl dX0_takeOut_63 ?_
          refine xr_iload (pc := 66) κ 3 (x := v4) dX0_takeOut_66 rfl ?_
          obtain ⟨i16, h⟩ := h
          refine xr_aald (pc := 68) κ (k := (xb tb + 1)) (n := 7) (j := xb tb + 2 + v4.toNatClampNeg) (xb_lt (j := 1) htb (by decide)) (xTX_out htb) rfl (wXb_out _ _ htb) i16 (if_pos (vp_lt i16)) dX0_takeOut_68 ?_
          refine xr_iload (pc := 69) κ 4 (x := v5) dX0_takeOut_69 rfl ?_
          refine xr_aload_n (pc := 71) κ 0 (x := (xb tb)) dX0_takeOut_71 rfl rfl ?_
          refine xr_get (pc := 72) κ xc0 (k := (xb tb)) (f := 2) (v := .ref (xb tb + 1)) kw_1_113 (xb_lt (j := 0) htb (by decide)) (wXb_obj _ _ htb) (by decide) rfl dX0_takeOut_72 ?_
          refine xr_iload (pc := 75) κ 3 (x := v4) dX0_takeOut_75 rfl ?_
          obtain ⟨i17, h⟩ := h
          refine xr_aald (pc := 77) κ (k := (xb tb + 1)) (n := 7) (j := xb tb + 2 + v4.toNatClampNeg) (xb_lt (j := 1) htb (by decide)) (xTX_out htb) rfl (wXb_out _ _ htb) i17 (if_pos (vp_lt i17)) dX0_takeOut_77 ?_
          refine xr_iload (pc := 78) κ 4 (x := v5) dX0_takeOut_78 rfl ?_
          obtain ⟨i18, h⟩ := h
          refine xr_lald (pc := 80) κ (k := (xb tb + 2 + v4.toNatClampNeg)) (n := 7) (f := (b_cell (x_bal x tb)) v4.toNatClampNeg) (xb_row_lt htb (vp_lt i17)) (xTX_row htb (vp_lt i17)) (wXb_row _ _ htb (vp_lt i17)) i18 dX0_takeOut_80 ?_
          refine xr_lload_n (pc := 81) κ 2 (x := v2) dX0_takeOut_81 rfl rfl ?_
          refine xr_lmul (pc := 82) κ dX0_takeOut_82 ?_
          refine xr_aload_n (pc := 83) κ 0 (x := (xb tb)) dX0_takeOut_83 rfl rfl ?_
          refine xr_get (pc := 84) κ xc0 (k := (xb tb)) (f := 2) (v := .ref (xb tb + 1)) kw_1_113 (xb_lt (j := 0) htb (by decide)) (wXb_obj _ _ htb) (by decide) rfl dX0_takeOut_84 ?_
          refine xr_iload (pc := 87) κ 3 (x := v4) dX0_takeOut_87 rfl ?_
          obtain ⟨i19, h⟩ := h
          refine xr_aald (pc := 89) κ (k := (xb tb + 1)) (n := 7) (j := xb tb + 2 + v4.toNatClampNeg) (xb_lt (j := 1) htb (by decide)) (xTX_out htb) rfl (wXb_out _ _ htb) i19 (if_pos (vp_lt i19)) dX0_takeOut_89 ?_
          refine xr_iload_n (pc := 90) κ 1 (x := v1) dX0_takeOut_90 rfl rfl ?_
          obtain ⟨i20, h⟩ := h
          refine xr_lald (pc := 91) κ (k := (xb tb + 2 + v4.toNatClampNeg)) (n := 7) (f := (b_cell (x_bal x tb)) v4.toNatClampNeg) (xb_row_lt htb (vp_lt i19)) (xTX_row htb (vp_lt i19)) (wXb_row _ _ htb (vp_lt i19)) i20 dX0_takeOut_91 ?_
          refine xr_aload_n (pc := 92) κ 0 (x := (xb tb)) dX0_takeOut_92 rfl rfl ?_
          refine xr_get (pc := 93) κ xc0 (k := (xb tb)) (f := 2) (v := .ref (xb tb + 1)) kw_1_113 (xb_lt (j := 0) htb (by decide)) (wXb_obj _ _ htb) (by decide) rfl dX0_takeOut_93 ?_
          refine xr_iload_n (pc := 96) κ 1 (x := v1) dX0_takeOut_96 rfl rfl ?_
          obtain ⟨i21, h⟩ := h
          refine xr_aald (pc := 97) κ (k := (xb tb + 1)) (n := 7) (j := xb tb + 2 + v1.toNatClampNeg) (xb_lt (j := 1) htb (by decide)) (xTX_out htb) rfl (wXb_out _ _ htb) i21 (if_pos (vp_lt i21)) dX0_takeOut_97 ?_
          refine xr_iload (pc := 98) κ 4 (x := v5) dX0_takeOut_98 rfl ?_
          obtain ⟨i22, h⟩ := h
          refine xr_lald (pc := 100) κ (k := (xb tb + 2 + v1.toNatClampNeg)) (n := 7) (f := (b_cell (x_bal x tb)) v1.toNatClampNeg) (xb_row_lt htb (vp_lt i21)) (xTX_row htb (vp_lt i21)) (wXb_row _ _ htb (vp_lt i21)) i22 dX0_takeOut_100 ?_
          refine xr_lmul (pc := 101) κ dX0_takeOut_101 ?_
          refine xr_lsub (pc := 102) κ dX0_takeOut_102 ?_
          refine xr_aload_n (pc := 103) κ 0 (x := (xb tb)) dX0_takeOut_103 rfl rfl ?_
          refine xr_get (pc := 104) κ xc0 (k := (xb tb)) (f := 1) (v := .long (b_below (x_bal x tb))) kw_1_111 (xb_lt (j := 0) htb (by decide)) (wXb_obj _ _ htb) (by decide) rfl dX0_takeOut_104 ?_
          obtain ⟨i23, h⟩ := h
          refine xr_ldiv (pc := 107) κ i23 dX0_takeOut_107 ?_
          obtain ⟨i24, h⟩ := h
          refine xr_last (pc := 108) κ (k := (xb tb + 2 + v4.toNatClampNeg)) (n := 7) (f := (b_cell (x_bal x tb)) v4.toNatClampNeg) (ω' := wX c (xsb x tb (bs_cell (x_bal x tb) (upM (b_cell (x_bal x tb)) v4.toNatClampNeg v5.toNatClampNeg (((((b_cell (x_bal x tb)) v4.toNatClampNeg v5.toNatClampNeg) * v2) - (((b_cell (x_bal x tb)) v4.toNatClampNeg v1.toNatClampNeg) * ((b_cell (x_bal x tb)) v1.toNatClampNeg v5.toNatClampNeg))) / (b_below (x_bal x tb))))))) (xb_row_lt htb (vp_lt i19)) (xTX_row htb (vp_lt i19)) (wXb_row _ _ htb (vp_lt i19)) i24 (wXb_srow _ _ htb (vp_lt i19) _ _) dX0_takeOut_108 ?_
          exact snd_X0_takeOut_109 κ tb htb K hQ _ _ hL29 ih _ _ _ _ _ _ h
def nd_X0_takeOut_29 (tb : Nat) (K : Int32 → CS → XT → Prop) : Nat → Int32 → Int64 → Int32 → CS → XT → Prop
  | 0 => fun _ _ _ _ _ => False
  | n + 1 => fun v1 v2 v4 c x =>
    ((b_knots (x_bal x tb)) ≤ v4 →
      ∃ n124 : Nat, nd_X0_takeOut_124 tb K n124 v1 v2 (0 : Int32) c x) ∧
    (¬ (b_knots (x_bal x tb)) ≤ v4 →
      ∃ n41 : Nat, nd_X0_takeOut_41 tb K (fun v1 v2 v4 c x => nd_X0_takeOut_29 tb K n v1 v2 v4 c x) n41 v1 v2 v4 (0 : Int32) c x)
set_option maxHeartbeats 4000000 in
set_option maxRecDepth 100000 in
theorem snd_X0_takeOut_29 {l : Launch} (κ : XC l xTX cX0_takeOut yX0_takeOut.cls 6 (some .boolean) 0) (tb : Nat) (htb : tb < 6) (K : Int32 → CS → XT → Prop) (hQ : xRet κ (fun v ω' => ∃ (r : Int32) (c' : CS) (t' : XT), v = some (.int r) ∧ ω' = wX c' t' ∧ K r c' t')) : ∀ (n : Nat) (v1 : Int32) (v2 : Int64) (v4 : Int32) (c : CS) (x : XT), nd_X0_takeOut_29 tb K n v1 v2 v4 c x → Wat κ 29 [(0, .ref (xb tb)), (1, .int v1), (2, .long v2), (4, .int v4)] [] (wX c x) := by
  intro n
  induction n with
  | zero => intro v1 v2 v4 c x h; exact h.elim
  | succ n ih =>
    intro v1 v2 v4 c x h
    unfold nd_X0_takeOut_29 at h
    refine xr_iload (pc := 29) κ 3 (x := v4) dX0_takeOut_29 rfl ?_
    refine xr_aload_n (pc := 31) κ 0 (x := (xb tb)) dX0_takeOut_31 rfl rfl ?_
    refine xr_get (pc := 32) κ xc0 (k := (xb tb)) (f := 0) (v := .int (b_knots (x_bal x tb))) kw_1_109 (xb_lt (j := 0) htb (by decide)) (wXb_obj _ _ htb) (by decide) rfl dX0_takeOut_32 ?_
    refine xr_icmp_ge (pc := 35) κ (tgt := 121) dX0_takeOut_35 (by decide) (fun c5 => ?_) (fun c5 => ?_)
    · have h := h.1 c5
      refine xr_iconst (pc := 121) κ (v := 0) dX0_takeOut_121 (by decide) ?_
      refine xr_istore (pc := 122) κ [1, 2, 3, 0] (lv' := [(0, .ref (xb tb)), (1, .int v1), (2, .long v2), (4, .int (0 : Int32))]) dX0_takeOut_122 (by decide) rfl ?_
      obtain ⟨n0, h⟩ := h
      exact snd_X0_takeOut_124 κ tb htb K hQ n0 _ _ _ _ _ h
    · have h := h.2 c5
      refine xr_iconst (pc := 38) κ (v := 0) dX0_takeOut_38 (by decide) ?_
      refine xr_istore (pc := 39) κ [1, 2, 3, 4, 0] (lv' := [(0, .ref (xb tb)), (1, .int v1), (2, .long v2), (4, .int v4), (5, .int (0 : Int32))]) dX0_takeOut_39 (by decide) rfl ?_
      obtain ⟨n0, h⟩ := h
      exact snd_X0_takeOut_41 κ tb htb K hQ _ ih n0 _ _ _ _ _ _ h
def wp_X0_takeOut (tb : Nat) (k : Int32) (c : CS) (x : XT) (K : Int32 → CS → XT → Prop) : Prop :=
    vp_in k 7 ∧
    vp_in k 7 ∧
    (((b_cell (x_bal x tb)) k.toNatClampNeg k.toNatClampNeg) ≤ (0 : Int64) →
      K (0 : Int32) c x) ∧
    (¬ ((b_cell (x_bal x tb)) k.toNatClampNeg k.toNatClampNeg) ≤ (0 : Int64) →
      ((0 : Int64) < (b_below (x_bal x tb)) →
        ∃ n29 : Nat, nd_X0_takeOut_29 tb K n29 k ((b_cell (x_bal x tb)) k.toNatClampNeg k.toNatClampNeg) (0 : Int32) c x) ∧
      (¬ (0 : Int64) < (b_below (x_bal x tb)) →
        K (0 : Int32) c x))
set_option maxHeartbeats 4000000 in
set_option maxRecDepth 100000 in
theorem snd_X0_takeOut {l : Launch} (tb : Nat) (htb : tb < 6) (k : Int32) (c : CS) (x : XT) (K : Int32 → CS → XT → Prop) (h : wp_X0_takeOut tb k c x K) : XM l xTX yX0_takeOut cX0_takeOut 6 (some .boolean) 0 [.ref (xb tb), .int k] (wX c x) (fun v ω' => ∃ (r : Int32) (c' : CS) (t' : XT), v = some (.int r) ∧ ω' = wX c' t' ∧ K r c' t') := by
    refine XM.of (by decide) (Nat.le_of_ble_eq_true rfl) (fun κ hQ => ?_)
    show Wat κ 0 [(0, .ref (xb tb)), (1, .int k)] [] (wX c x)
    unfold wp_X0_takeOut at h
    refine xr_aload_n (pc := 0) κ 0 (x := (xb tb)) dX0_takeOut_0 rfl rfl ?_
    refine xr_get (pc := 1) κ xc0 (k := (xb tb)) (f := 2) (v := .ref (xb tb + 1)) kw_1_113 (xb_lt (j := 0) htb (by decide)) (wXb_obj _ _ htb) (by decide) rfl dX0_takeOut_1 ?_
    refine xr_iload_n (pc := 4) κ 1 (x := k) dX0_takeOut_4 rfl rfl ?_
    obtain ⟨i1, h⟩ := h
    refine xr_aald (pc := 5) κ (k := (xb tb + 1)) (n := 7) (j := xb tb + 2 + k.toNatClampNeg) (xb_lt (j := 1) htb (by decide)) (xTX_out htb) rfl (wXb_out _ _ htb) i1 (if_pos (vp_lt i1)) dX0_takeOut_5 ?_
    refine xr_iload_n (pc := 6) κ 1 (x := k) dX0_takeOut_6 rfl rfl ?_
    obtain ⟨i2, h⟩ := h
    refine xr_lald (pc := 7) κ (k := (xb tb + 2 + k.toNatClampNeg)) (n := 7) (f := (b_cell (x_bal x tb)) k.toNatClampNeg) (xb_row_lt htb (vp_lt i1)) (xTX_row htb (vp_lt i1)) (wXb_row _ _ htb (vp_lt i1)) i2 dX0_takeOut_7 ?_
    refine xr_lstore_n (pc := 8) κ [1, 2, 0] (lv' := [(0, .ref (xb tb)), (1, .int k), (2, .long ((b_cell (x_bal x tb)) k.toNatClampNeg k.toNatClampNeg))]) dX0_takeOut_8 rfl (by decide) rfl ?_
    refine xr_lload_n (pc := 9) κ 2 (x := ((b_cell (x_bal x tb)) k.toNatClampNeg k.toNatClampNeg)) dX0_takeOut_9 rfl rfl ?_
    refine xr_lconst (pc := 10) κ (v := 0) dX0_takeOut_10 (by decide) ?_
    refine xr_lcmp_le (pc := 11) κ (tgt := 24) dX0_takeOut_11 dX0_takeOut_12 (by decide) (fun c3 => ?_) (fun c3 => ?_)
    · have h := h.1 c3
      refine xr_iconst (pc := 24) κ (v := 0) dX0_takeOut_24 (by decide) ?_
      exact xr_zret (pc := 25) κ _ hQ rfl dX0_takeOut_25 ⟨_, _, _, rfl, rfl, h⟩
    · have h := h.2 c3
      refine xr_aload_n (pc := 15) κ 0 (x := (xb tb)) dX0_takeOut_15 rfl rfl ?_
      refine xr_get (pc := 16) κ xc0 (k := (xb tb)) (f := 1) (v := .long (b_below (x_bal x tb))) kw_1_111 (xb_lt (j := 0) htb (by decide)) (wXb_obj _ _ htb) (by decide) rfl dX0_takeOut_16 ?_
      refine xr_lconst (pc := 19) κ (v := 0) dX0_takeOut_19 (by decide) ?_
      refine xr_lcmp_gt (pc := 20) κ (tgt := 26) dX0_takeOut_20 dX0_takeOut_21 (by decide) (fun c4 => ?_) (fun c4 => ?_)
      · have h := h.1 c4
        refine xr_iconst (pc := 26) κ (v := 0) dX0_takeOut_26 (by decide) ?_
        refine xr_istore (pc := 27) κ [1, 2, 3, 0] (lv' := [(0, .ref (xb tb)), (1, .int k), (2, .long ((b_cell (x_bal x tb)) k.toNatClampNeg k.toNatClampNeg)), (4, .int (0 : Int32))]) dX0_takeOut_27 (by decide) rfl ?_
        obtain ⟨n0, h⟩ := h
        exact snd_X0_takeOut_29 κ tb htb K hQ n0 _ _ _ _ _ h
      · have h := h.2 c4
        refine xr_iconst (pc := 24) κ (v := 0) dX0_takeOut_24 (by decide) ?_
        exact xr_zret (pc := 25) κ _ hQ rfl dX0_takeOut_25 ⟨_, _, _, rfl, rfl, h⟩
-- ChipVolts$Balance.takeOutAllBut(I)Z, level 1
def nd_X0_takeOutAllBut_29 (tb : Nat) (K : Int32 → CS → XT → Prop) (L7 : Int32 → Int32 → CS → XT → Prop) (v1 : Int32) (v2 : Int32) (c : CS) (x : XT) : Prop :=
    L7 v1 (v2 + (-1)) c x
set_option maxHeartbeats 4000000 in
set_option maxRecDepth 100000 in
theorem snd_X0_takeOutAllBut_29 {l : Launch} (κ : XC l xTX cX0_takeOutAllBut yX0_takeOutAllBut.cls 3 (some .boolean) 1) (tb : Nat) (htb : tb < 6) (K : Int32 → CS → XT → Prop) (hQ : xRet κ (fun v ω' => ∃ (r : Int32) (c' : CS) (t' : XT), v = some (.int r) ∧ ω' = wX c' t' ∧ K r c' t')) (L7 : Int32 → Int32 → CS → XT → Prop) (hL7 : ∀ (v1 : Int32) (v2 : Int32) (c : CS) (x : XT), L7 v1 v2 c x → Wat κ 7 [(0, .ref (xb tb)), (1, .int v1), (2, .int v2)] [] (wX c x)) (v1 : Int32) (v2 : Int32) (c : CS) (x : XT) (h : nd_X0_takeOutAllBut_29 tb K L7 v1 v2 c x) : Wat κ 29 [(0, .ref (xb tb)), (1, .int v1), (2, .int v2)] [] (wX c x) := by
    unfold nd_X0_takeOutAllBut_29 at h
    refine xr_iinc (pc := 29) κ 2 [1, 2, 0] (lv' := [(0, .ref (xb tb)), (1, .int v1), (2, .int (v2 + (-1)))]) (x := v2) (v := v2 + (-1)) dX0_takeOutAllBut_29 rfl rfl (by decide) rfl ?_
    refine xr_goto (pc := 32) κ (tgt := 7) dX0_takeOutAllBut_32 (by decide) ?_
    exact hL7 _ _ _ _ h
def nd_X0_takeOutAllBut_7 (tb : Nat) (K : Int32 → CS → XT → Prop) : Nat → Int32 → Int32 → CS → XT → Prop
  | 0 => fun _ _ _ _ => False
  | n + 1 => fun v1 v2 c x =>
    (v2 < 0 →
      K (1 : Int32) c x) ∧
    (¬ v2 < 0 →
      wp_X5_has v1 v2 (fun r2 =>
        (¬ r2 = 0 →
          nd_X0_takeOutAllBut_29 tb K (fun v1 v2 c x => nd_X0_takeOutAllBut_7 tb K n v1 v2 c x) v1 v2 c x) ∧
        (r2 = 0 →
          wp_X0_takeOut tb v2 c x (fun r4 c4_ x4_ =>
            (¬ r4 = 0 →
              nd_X0_takeOutAllBut_29 tb K (fun v1 v2 c x => nd_X0_takeOutAllBut_7 tb K n v1 v2 c x) v1 v2 c4_ x4_) ∧
            (r4 = 0 →
              K (0 : Int32) c4_ x4_)))))
set_option maxHeartbeats 4000000 in
set_option maxRecDepth 100000 in
theorem snd_X0_takeOutAllBut_7 {l : Launch} (κ : XC l xTX cX0_takeOutAllBut yX0_takeOutAllBut.cls 3 (some .boolean) 1) (tb : Nat) (htb : tb < 6) (K : Int32 → CS → XT → Prop) (hQ : xRet κ (fun v ω' => ∃ (r : Int32) (c' : CS) (t' : XT), v = some (.int r) ∧ ω' = wX c' t' ∧ K r c' t')) : ∀ (n : Nat) (v1 : Int32) (v2 : Int32) (c : CS) (x : XT), nd_X0_takeOutAllBut_7 tb K n v1 v2 c x → Wat κ 7 [(0, .ref (xb tb)), (1, .int v1), (2, .int v2)] [] (wX c x) := by
  intro n
  induction n with
  | zero => intro v1 v2 c x h; exact h.elim
  | succ n ih =>
    intro v1 v2 c x h
    unfold nd_X0_takeOutAllBut_7 at h
    refine xr_iload_n (pc := 7) κ 2 (x := v2) dX0_takeOutAllBut_7 rfl rfl ?_
    refine xr_if_lt (pc := 8) κ (tgt := 35) dX0_takeOutAllBut_8 (by decide) (fun c1 => ?_) (fun c1 => ?_)
    · have h := h.1 c1
      refine xr_iconst (pc := 35) κ (v := 1) dX0_takeOutAllBut_35 (by decide) ?_
      exact xr_zret (pc := 36) κ _ hQ rfl dX0_takeOutAllBut_36 ⟨_, _, _, rfl, rfl, h⟩
    · have h := h.2 c1
      refine xr_iload_n (pc := 11) κ 1 (x := v1) dX0_takeOutAllBut_11 rfl rfl ?_
      refine xr_iload_n (pc := 12) κ 2 (x := v2) dX0_takeOutAllBut_12 rfl rfl ?_
      refine xr_callSN (pc := 13) κ [.int v1, .int v2] kw_2_35 tg_X5_has (snd_X5_has _ _ _ h) rfl (by decide) (by decide) (Nat.le_of_ble_eq_true rfl) dX0_takeOutAllBut_13 (fun v9 ω9 hk9 => ?_)
      obtain ⟨r2, rfl, e9, h⟩ := hk9
      rw [e9]
      show Wat κ 16 [(0, .ref (xb tb)), (1, .int v1), (2, .int v2)] [.int r2] (wX c x)
      refine xr_if_ne (pc := 16) κ (tgt := 29) dX0_takeOutAllBut_16 (by decide) (fun c3 => ?_) (fun c3 => ?_)
      · have h := h.1 c3
        exact snd_X0_takeOutAllBut_29 κ tb htb K hQ _ ih _ _ _ _ h
      · have h := h.2 c3
        refine xr_aload_n (pc := 19) κ 0 (x := (xb tb)) dX0_takeOutAllBut_19 rfl rfl ?_
        refine xr_iload_n (pc := 20) κ 2 (x := v2) dX0_takeOutAllBut_20 rfl rfl ?_
        refine xr_callV (pc := 21) κ [.int v2] kw_2_36 tg_X0_takeOut (snd_X0_takeOut tb htb _ _ _ _ h) rfl (by decide) (by decide) (xb_lt (j := 0) htb (by decide)) (wXb_obj _ _ htb) (ci := 0) rfl rfl (Nat.le_of_ble_eq_true rfl) dX0_takeOutAllBut_21 (fun v9 ω9 hk9 => ?_)
        obtain ⟨r4, c4_, x4_, rfl, rfl, h⟩ := hk9
        skip
        show Wat κ 24 [(0, .ref (xb tb)), (1, .int v1), (2, .int v2)] [.int r4] (wX c4_ x4_)
        refine xr_if_ne (pc := 24) κ (tgt := 29) dX0_takeOutAllBut_24 (by decide) (fun c5 => ?_) (fun c5 => ?_)
        · have h := h.1 c5
          exact snd_X0_takeOutAllBut_29 κ tb htb K hQ _ ih _ _ _ _ h
        · have h := h.2 c5
          refine xr_iconst (pc := 27) κ (v := 0) dX0_takeOutAllBut_27 (by decide) ?_
          exact xr_zret (pc := 28) κ _ hQ rfl dX0_takeOutAllBut_28 ⟨_, _, _, rfl, rfl, h⟩
def wp_X0_takeOutAllBut (tb : Nat) (kept : Int32) (c : CS) (x : XT) (K : Int32 → CS → XT → Prop) : Prop :=
    ∃ n7 : Nat, nd_X0_takeOutAllBut_7 tb K n7 kept ((b_knots (x_bal x tb)) - (1 : Int32)) c x
set_option maxHeartbeats 4000000 in
set_option maxRecDepth 100000 in
theorem snd_X0_takeOutAllBut {l : Launch} (tb : Nat) (htb : tb < 6) (kept : Int32) (c : CS) (x : XT) (K : Int32 → CS → XT → Prop) (h : wp_X0_takeOutAllBut tb kept c x K) : XM l xTX yX0_takeOutAllBut cX0_takeOutAllBut 3 (some .boolean) 1 [.ref (xb tb), .int kept] (wX c x) (fun v ω' => ∃ (r : Int32) (c' : CS) (t' : XT), v = some (.int r) ∧ ω' = wX c' t' ∧ K r c' t') := by
    refine XM.of (by decide) (Nat.le_of_ble_eq_true rfl) (fun κ hQ => ?_)
    show Wat κ 0 [(0, .ref (xb tb)), (1, .int kept)] [] (wX c x)
    unfold wp_X0_takeOutAllBut at h
    refine xr_aload_n (pc := 0) κ 0 (x := (xb tb)) dX0_takeOutAllBut_0 rfl rfl ?_
    refine xr_get (pc := 1) κ xc0 (k := (xb tb)) (f := 0) (v := .int (b_knots (x_bal x tb))) kw_1_109 (xb_lt (j := 0) htb (by decide)) (wXb_obj _ _ htb) (by decide) rfl dX0_takeOutAllBut_1 ?_
    refine xr_iconst (pc := 4) κ (v := 1) dX0_takeOutAllBut_4 (by decide) ?_
    refine xr_isub (pc := 5) κ dX0_takeOutAllBut_5 ?_
    refine xr_istore_n (pc := 6) κ [1, 2, 0] (lv' := [(0, .ref (xb tb)), (1, .int kept), (2, .int ((b_knots (x_bal x tb)) - (1 : Int32)))]) dX0_takeOutAllBut_6 rfl (by decide) rfl ?_
    obtain ⟨n0, h⟩ := h
    exact snd_X0_takeOutAllBut_7 κ tb htb K hQ n0 _ _ _ _ h
-- ChipVolts$Balance.forget(I)V, level 1
def nd_X0_forget_45 (tb : Nat) (K : CS → XT → Prop) (L2 : Int32 → Int32 → CS → XT → Prop) (L12 : Int32 → Int32 → Int32 → CS → XT → Prop) (v1 : Int32) (v2 : Int32) (v3 : Int32) (c : CS) (x : XT) : Prop :=
    L12 v1 v2 (v3 + 1) c x
set_option maxHeartbeats 4000000 in
set_option maxRecDepth 100000 in
theorem snd_X0_forget_45 {l : Launch} (κ : XC l xTX cX0_forget yX0_forget.cls 4 (none) 1) (tb : Nat) (htb : tb < 6) (K : CS → XT → Prop) (hQ : xRet κ (fun v ω' => ∃ (c' : CS) (t' : XT), v = none ∧ ω' = wX c' t' ∧ K c' t')) (L2 : Int32 → Int32 → CS → XT → Prop) (L12 : Int32 → Int32 → Int32 → CS → XT → Prop) (hL2 : ∀ (v1 : Int32) (v2 : Int32) (c : CS) (x : XT), L2 v1 v2 c x → Wat κ 2 [(0, .ref (xb tb)), (1, .int v1), (2, .int v2)] [] (wX c x)) (hL12 : ∀ (v1 : Int32) (v2 : Int32) (v3 : Int32) (c : CS) (x : XT), L12 v1 v2 v3 c x → Wat κ 12 [(0, .ref (xb tb)), (1, .int v1), (2, .int v2), (3, .int v3)] [] (wX c x)) (v1 : Int32) (v2 : Int32) (v3 : Int32) (c : CS) (x : XT) (h : nd_X0_forget_45 tb K L2 L12 v1 v2 v3 c x) : Wat κ 45 [(0, .ref (xb tb)), (1, .int v1), (2, .int v2), (3, .int v3)] [] (wX c x) := by
    unfold nd_X0_forget_45 at h
    refine xr_iinc (pc := 45) κ 3 [1, 2, 3, 0] (lv' := [(0, .ref (xb tb)), (1, .int v1), (2, .int v2), (3, .int (v3 + 1))]) (x := v3) (v := v3 + 1) dX0_forget_45 rfl rfl (by decide) rfl ?_
    refine xr_goto (pc := 48) κ (tgt := 12) dX0_forget_48 (by decide) ?_
    exact hL12 _ _ _ _ _ h
def nd_X0_forget_36 (tb : Nat) (K : CS → XT → Prop) (L2 : Int32 → Int32 → CS → XT → Prop) (L12 : Int32 → Int32 → Int32 → CS → XT → Prop) (v1 : Int32) (v2 : Int32) (v3 : Int32) (c : CS) (x : XT) : Prop :=
    vp_in v2 7 ∧
    vp_in v3 7 ∧
    nd_X0_forget_45 tb K L2 L12 v1 v2 v3 c (xsb x tb (bs_cell (x_bal x tb) (upM (b_cell (x_bal x tb)) v2.toNatClampNeg v3.toNatClampNeg (0 : Int64))))
set_option maxHeartbeats 4000000 in
set_option maxRecDepth 100000 in
theorem snd_X0_forget_36 {l : Launch} (κ : XC l xTX cX0_forget yX0_forget.cls 4 (none) 1) (tb : Nat) (htb : tb < 6) (K : CS → XT → Prop) (hQ : xRet κ (fun v ω' => ∃ (c' : CS) (t' : XT), v = none ∧ ω' = wX c' t' ∧ K c' t')) (L2 : Int32 → Int32 → CS → XT → Prop) (L12 : Int32 → Int32 → Int32 → CS → XT → Prop) (hL2 : ∀ (v1 : Int32) (v2 : Int32) (c : CS) (x : XT), L2 v1 v2 c x → Wat κ 2 [(0, .ref (xb tb)), (1, .int v1), (2, .int v2)] [] (wX c x)) (hL12 : ∀ (v1 : Int32) (v2 : Int32) (v3 : Int32) (c : CS) (x : XT), L12 v1 v2 v3 c x → Wat κ 12 [(0, .ref (xb tb)), (1, .int v1), (2, .int v2), (3, .int v3)] [] (wX c x)) (v1 : Int32) (v2 : Int32) (v3 : Int32) (c : CS) (x : XT) (h : nd_X0_forget_36 tb K L2 L12 v1 v2 v3 c x) : Wat κ 36 [(0, .ref (xb tb)), (1, .int v1), (2, .int v2), (3, .int v3)] [] (wX c x) := by
    unfold nd_X0_forget_36 at h
    refine xr_aload_n (pc := 36) κ 0 (x := (xb tb)) dX0_forget_36 rfl rfl ?_
    refine xr_get (pc := 37) κ xc0 (k := (xb tb)) (f := 2) (v := .ref (xb tb + 1)) kw_1_113 (xb_lt (j := 0) htb (by decide)) (wXb_obj _ _ htb) (by decide) rfl dX0_forget_37 ?_
    refine xr_iload_n (pc := 40) κ 2 (x := v2) dX0_forget_40 rfl rfl ?_
    obtain ⟨i5, h⟩ := h
    refine xr_aald (pc := 41) κ (k := (xb tb + 1)) (n := 7) (j := xb tb + 2 + v2.toNatClampNeg) (xb_lt (j := 1) htb (by decide)) (xTX_out htb) rfl (wXb_out _ _ htb) i5 (if_pos (vp_lt i5)) dX0_forget_41 ?_
    refine xr_iload_n (pc := 42) κ 3 (x := v3) dX0_forget_42 rfl rfl ?_
    refine xr_lconst (pc := 43) κ (v := 0) dX0_forget_43 (by decide) ?_
    obtain ⟨i6, h⟩ := h
    refine xr_last (pc := 44) κ (k := (xb tb + 2 + v2.toNatClampNeg)) (n := 7) (f := (b_cell (x_bal x tb)) v2.toNatClampNeg) (ω' := wX c (xsb x tb (bs_cell (x_bal x tb) (upM (b_cell (x_bal x tb)) v2.toNatClampNeg v3.toNatClampNeg (0 : Int64))))) (xb_row_lt htb (vp_lt i5)) (xTX_row htb (vp_lt i5)) (wXb_row _ _ htb (vp_lt i5)) i6 (wXb_srow _ _ htb (vp_lt i5) _ _) dX0_forget_44 ?_
    exact snd_X0_forget_45 κ tb htb K hQ _ _ hL2 hL12 _ _ _ _ _ h
def nd_X0_forget_12 (tb : Nat) (K : CS → XT → Prop) (L2 : Int32 → Int32 → CS → XT → Prop) : Nat → Int32 → Int32 → Int32 → CS → XT → Prop
  | 0 => fun _ _ _ _ _ => False
  | n + 1 => fun v1 v2 v3 c x =>
    ((b_knots (x_bal x tb)) ≤ v3 →
      L2 v1 (v2 + 1) c x) ∧
    (¬ (b_knots (x_bal x tb)) ≤ v3 →
      wp_X5_has v1 v2 (fun r3 =>
        (¬ r3 = 0 →
          nd_X0_forget_36 tb K L2 (fun v1 v2 v3 c x => nd_X0_forget_12 tb K L2 n v1 v2 v3 c x) v1 v2 v3 c x) ∧
        (r3 = 0 →
          wp_X5_has v1 v3 (fun r7 =>
            (r7 = 0 →
              nd_X0_forget_45 tb K L2 (fun v1 v2 v3 c x => nd_X0_forget_12 tb K L2 n v1 v2 v3 c x) v1 v2 v3 c x) ∧
            (¬ r7 = 0 →
              nd_X0_forget_36 tb K L2 (fun v1 v2 v3 c x => nd_X0_forget_12 tb K L2 n v1 v2 v3 c x) v1 v2 v3 c x)))))
set_option maxHeartbeats 4000000 in
set_option maxRecDepth 100000 in
theorem snd_X0_forget_12 {l : Launch} (κ : XC l xTX cX0_forget yX0_forget.cls 4 (none) 1) (tb : Nat) (htb : tb < 6) (K : CS → XT → Prop) (hQ : xRet κ (fun v ω' => ∃ (c' : CS) (t' : XT), v = none ∧ ω' = wX c' t' ∧ K c' t')) (L2 : Int32 → Int32 → CS → XT → Prop) (hL2 : ∀ (v1 : Int32) (v2 : Int32) (c : CS) (x : XT), L2 v1 v2 c x → Wat κ 2 [(0, .ref (xb tb)), (1, .int v1), (2, .int v2)] [] (wX c x)) : ∀ (n : Nat) (v1 : Int32) (v2 : Int32) (v3 : Int32) (c : CS) (x : XT), nd_X0_forget_12 tb K L2 n v1 v2 v3 c x → Wat κ 12 [(0, .ref (xb tb)), (1, .int v1), (2, .int v2), (3, .int v3)] [] (wX c x) := by
  intro n
  induction n with
  | zero => intro v1 v2 v3 c x h; exact h.elim
  | succ n ih =>
    intro v1 v2 v3 c x h
    unfold nd_X0_forget_12 at h
    refine xr_iload_n (pc := 12) κ 3 (x := v3) dX0_forget_12 rfl rfl ?_
    refine xr_aload_n (pc := 13) κ 0 (x := (xb tb)) dX0_forget_13 rfl rfl ?_
    refine xr_get (pc := 14) κ xc0 (k := (xb tb)) (f := 0) (v := .int (b_knots (x_bal x tb))) kw_1_109 (xb_lt (j := 0) htb (by decide)) (wXb_obj _ _ htb) (by decide) rfl dX0_forget_14 ?_
    refine xr_icmp_ge (pc := 17) κ (tgt := 51) dX0_forget_17 (by decide) (fun c2 => ?_) (fun c2 => ?_)
    · have h := h.1 c2
      refine xr_iinc (pc := 51) κ 2 [1, 2, 0, 3] (lv' := [(0, .ref (xb tb)), (1, .int v1), (2, .int (v2 + 1)), (3, .int v3)]) (x := v2) (v := v2 + 1) dX0_forget_51 rfl rfl (by decide) rfl ?_
      refine xr_goto (pc := 54) κ (tgt := 2) dX0_forget_54 (by decide) ?_
      refine xr_sub (pc := 2) κ [0, 1, 2] (lv' := [(0, .ref (xb tb)), (1, .int v1), (2, .int (v2 + 1))]) rfl ?_
      exact hL2 _ _ _ _ h
    · have h := h.2 c2
      refine xr_iload_n (pc := 20) κ 1 (x := v1) dX0_forget_20 rfl rfl ?_
      refine xr_iload_n (pc := 21) κ 2 (x := v2) dX0_forget_21 rfl rfl ?_
      refine xr_callSN (pc := 22) κ [.int v1, .int v2] kw_2_35 tg_X5_has (snd_X5_has _ _ _ h) rfl (by decide) (by decide) (Nat.le_of_ble_eq_true rfl) dX0_forget_22 (fun v9 ω9 hk9 => ?_)
      obtain ⟨r3, rfl, e9, h⟩ := hk9
      rw [e9]
      show Wat κ 25 [(0, .ref (xb tb)), (1, .int v1), (2, .int v2), (3, .int v3)] [.int r3] (wX c x)
      refine xr_if_ne (pc := 25) κ (tgt := 36) dX0_forget_25 (by decide) (fun c4 => ?_) (fun c4 => ?_)
      · have h := h.1 c4
        exact snd_X0_forget_36 κ tb htb K hQ _ _ hL2 ih _ _ _ _ _ h
      · have h := h.2 c4
        refine xr_iload_n (pc := 28) κ 1 (x := v1) dX0_forget_28 rfl rfl ?_
        refine xr_iload_n (pc := 29) κ 3 (x := v3) dX0_forget_29 rfl rfl ?_
        refine xr_callSN (pc := 30) κ [.int v1, .int v3] kw_2_35 tg_X5_has (snd_X5_has _ _ _ h) rfl (by decide) (by decide) (Nat.le_of_ble_eq_true rfl) dX0_forget_30 (fun v9 ω9 hk9 => ?_)
        obtain ⟨r7, rfl, e9, h⟩ := hk9
        rw [e9]
        show Wat κ 33 [(0, .ref (xb tb)), (1, .int v1), (2, .int v2), (3, .int v3)] [.int r7] (wX c x)
        refine xr_if_eq (pc := 33) κ (tgt := 45) dX0_forget_33 (by decide) (fun c8 => ?_) (fun c8 => ?_)
        · have h := h.1 c8
          exact snd_X0_forget_45 κ tb htb K hQ _ _ hL2 ih _ _ _ _ _ h
        · have h := h.2 c8
          exact snd_X0_forget_36 κ tb htb K hQ _ _ hL2 ih _ _ _ _ _ h
def nd_X0_forget_2 (tb : Nat) (K : CS → XT → Prop) : Nat → Int32 → Int32 → CS → XT → Prop
  | 0 => fun _ _ _ _ => False
  | n + 1 => fun v1 v2 c x =>
    ((b_knots (x_bal x tb)) ≤ v2 →
      K c x) ∧
    (¬ (b_knots (x_bal x tb)) ≤ v2 →
      ∃ n12 : Nat, nd_X0_forget_12 tb K (fun v1 v2 c x => nd_X0_forget_2 tb K n v1 v2 c x) n12 v1 v2 (0 : Int32) c x)
set_option maxHeartbeats 4000000 in
set_option maxRecDepth 100000 in
theorem snd_X0_forget_2 {l : Launch} (κ : XC l xTX cX0_forget yX0_forget.cls 4 (none) 1) (tb : Nat) (htb : tb < 6) (K : CS → XT → Prop) (hQ : xRet κ (fun v ω' => ∃ (c' : CS) (t' : XT), v = none ∧ ω' = wX c' t' ∧ K c' t')) : ∀ (n : Nat) (v1 : Int32) (v2 : Int32) (c : CS) (x : XT), nd_X0_forget_2 tb K n v1 v2 c x → Wat κ 2 [(0, .ref (xb tb)), (1, .int v1), (2, .int v2)] [] (wX c x) := by
  intro n
  induction n with
  | zero => intro v1 v2 c x h; exact h.elim
  | succ n ih =>
    intro v1 v2 c x h
    unfold nd_X0_forget_2 at h
    refine xr_iload_n (pc := 2) κ 2 (x := v2) dX0_forget_2 rfl rfl ?_
    refine xr_aload_n (pc := 3) κ 0 (x := (xb tb)) dX0_forget_3 rfl rfl ?_
    refine xr_get (pc := 4) κ xc0 (k := (xb tb)) (f := 0) (v := .int (b_knots (x_bal x tb))) kw_1_109 (xb_lt (j := 0) htb (by decide)) (wXb_obj _ _ htb) (by decide) rfl dX0_forget_4 ?_
    refine xr_icmp_ge (pc := 7) κ (tgt := 57) dX0_forget_7 (by decide) (fun c1 => ?_) (fun c1 => ?_)
    · have h := h.1 c1
      exact xr_vret (pc := 57) κ _ hQ dX0_forget_57 ⟨_, _, rfl, rfl, h⟩
    · have h := h.2 c1
      refine xr_iconst (pc := 10) κ (v := 0) dX0_forget_10 (by decide) ?_
      refine xr_istore_n (pc := 11) κ [1, 2, 3, 0] (lv' := [(0, .ref (xb tb)), (1, .int v1), (2, .int v2), (3, .int (0 : Int32))]) dX0_forget_11 rfl (by decide) rfl ?_
      obtain ⟨n0, h⟩ := h
      exact snd_X0_forget_12 κ tb htb K hQ _ ih n0 _ _ _ _ _ h
def wp_X0_forget (tb : Nat) (pads : Int32) (c : CS) (x : XT) (K : CS → XT → Prop) : Prop :=
    ∃ n2 : Nat, nd_X0_forget_2 tb K n2 pads (0 : Int32) c x
set_option maxHeartbeats 4000000 in
set_option maxRecDepth 100000 in
theorem snd_X0_forget {l : Launch} (tb : Nat) (htb : tb < 6) (pads : Int32) (c : CS) (x : XT) (K : CS → XT → Prop) (h : wp_X0_forget tb pads c x K) : XM l xTX yX0_forget cX0_forget 4 (none) 1 [.ref (xb tb), .int pads] (wX c x) (fun v ω' => ∃ (c' : CS) (t' : XT), v = none ∧ ω' = wX c' t' ∧ K c' t') := by
    refine XM.of (by decide) (Nat.le_of_ble_eq_true rfl) (fun κ hQ => ?_)
    show Wat κ 0 [(0, .ref (xb tb)), (1, .int pads)] [] (wX c x)
    unfold wp_X0_forget at h
    refine xr_iconst (pc := 0) κ (v := 0) dX0_forget_0 (by decide) ?_
    refine xr_istore_n (pc := 1) κ [1, 2, 0] (lv' := [(0, .ref (xb tb)), (1, .int pads), (2, .int (0 : Int32))]) dX0_forget_1 rfl (by decide) rfl ?_
    obtain ⟨n0, h⟩ := h
    exact snd_X0_forget_2 κ tb htb K hQ n0 _ _ _ _ h
-- ChipVolts$Balance.weigh([I)V, level 0
def nd_X0_weigh_15 (tb : Nat) (K : CS → XT → Prop) (L2 : Int32 → CS → XT → Prop) : Nat → Int32 → Int64 → Int32 → CS → XT → Prop
  | 0 => fun _ _ _ _ _ => False
  | n + 1 => fun v2 v3 v5 c x =>
    ((b_knots (x_bal x tb)) ≤ v5 →
      vp_in v2 7 ∧
      L2 (v2 + 1) c (xsb x tb (bs_above (x_bal x tb) (vp_updL (b_above (x_bal x tb)) v2.toNatClampNeg v3)))) ∧
    (¬ (b_knots (x_bal x tb)) ≤ v5 →
      vp_in v2 7 ∧
      vp_in v5 7 ∧
      vp_in v5 7 ∧
      nd_X0_weigh_15 tb K L2 n v2 (v3 + (((b_cell (x_bal x tb)) v2.toNatClampNeg v5.toNatClampNeg) * (Int32.toInt64 (c_pulls c v5.toNatClampNeg)))) (v5 + 1) c x)
set_option maxHeartbeats 4000000 in
set_option maxRecDepth 100000 in
theorem snd_X0_weigh_15 {l : Launch} (κ : XC l xTX cX0_weigh yX0_weigh.cls 6 (none) 0) (tb : Nat) (htb : tb < 6) (K : CS → XT → Prop) (hQ : xRet κ (fun v ω' => ∃ (c' : CS) (t' : XT), v = none ∧ ω' = wX c' t' ∧ K c' t')) (L2 : Int32 → CS → XT → Prop) (hL2 : ∀ (v2 : Int32) (c : CS) (x : XT), L2 v2 c x → Wat κ 2 [(0, .ref (xb tb)), (1, .ref 2), (2, .int v2)] [] (wX c x)) : ∀ (n : Nat) (v2 : Int32) (v3 : Int64) (v5 : Int32) (c : CS) (x : XT), nd_X0_weigh_15 tb K L2 n v2 v3 v5 c x → Wat κ 15 [(0, .ref (xb tb)), (1, .ref 2), (2, .int v2), (3, .long v3), (5, .int v5)] [] (wX c x) := by
  intro n
  induction n with
  | zero => intro v2 v3 v5 c x h; exact h.elim
  | succ n ih =>
    intro v2 v3 v5 c x h
    unfold nd_X0_weigh_15 at h
    refine xr_iload (pc := 15) κ 4 (x := v5) dX0_weigh_15 rfl ?_
    refine xr_aload_n (pc := 17) κ 0 (x := (xb tb)) dX0_weigh_17 rfl rfl ?_
    refine xr_get (pc := 18) κ xc0 (k := (xb tb)) (f := 0) (v := .int (b_knots (x_bal x tb))) kw_1_109 (xb_lt (j := 0) htb (by decide)) (wXb_obj _ _ htb) (by decide) rfl dX0_weigh_18 ?_
    refine xr_icmp_ge (pc := 21) κ (tgt := 48) dX0_weigh_21 (by decide) (fun c2 => ?_) (fun c2 => ?_)
    · have h := h.1 c2
      refine xr_aload_n (pc := 48) κ 0 (x := (xb tb)) dX0_weigh_48 rfl rfl ?_
      refine xr_get (pc := 49) κ xc0 (k := (xb tb)) (f := 3) (v := .ref (xb tb + 9)) kw_1_117 (xb_lt (j := 0) htb (by decide)) (wXb_obj _ _ htb) (by decide) rfl dX0_weigh_49 ?_
      refine xr_iload_n (pc := 52) κ 2 (x := v2) dX0_weigh_52 rfl rfl ?_
      refine xr_lload_n (pc := 53) κ 3 (x := v3) dX0_weigh_53 rfl rfl ?_
      obtain ⟨i3, h⟩ := h
      refine xr_last (pc := 54) κ (k := (xb tb + 9)) (n := 7) (f := b_above (x_bal x tb)) (ω' := wX c (xsb x tb (bs_above (x_bal x tb) (vp_updL (b_above (x_bal x tb)) v2.toNatClampNeg v3)))) (xb_lt (j := 9) htb (by decide)) (xTX_long (j := 9) htb (by decide) (by decide)) (wXb_above _ _ htb) i3 (wXb_sabove _ _ htb _) dX0_weigh_54 ?_
      refine xr_iinc (pc := 55) κ 2 [1, 2, 0, 3, 4] (lv' := [(0, .ref (xb tb)), (1, .ref 2), (2, .int (v2 + 1)), (3, .long v3), (5, .int v5)]) (x := v2) (v := v2 + 1) dX0_weigh_55 rfl rfl (by decide) rfl ?_
      refine xr_goto (pc := 58) κ (tgt := 2) dX0_weigh_58 (by decide) ?_
      refine xr_sub (pc := 2) κ [0, 1, 2] (lv' := [(0, .ref (xb tb)), (1, .ref 2), (2, .int (v2 + 1))]) rfl ?_
      exact hL2 _ _ _ h
    · have h := h.2 c2
      refine xr_lload_n (pc := 24) κ 3 (x := v3) dX0_weigh_24 rfl rfl ?_
      refine xr_aload_n (pc := 25) κ 0 (x := (xb tb)) dX0_weigh_25 rfl rfl ?_
      refine xr_get (pc := 26) κ xc0 (k := (xb tb)) (f := 2) (v := .ref (xb tb + 1)) kw_1_113 (xb_lt (j := 0) htb (by decide)) (wXb_obj _ _ htb) (by decide) rfl dX0_weigh_26 ?_
      refine xr_iload_n (pc := 29) κ 2 (x := v2) dX0_weigh_29 rfl rfl ?_
      obtain ⟨i4, h⟩ := h
      refine xr_aald (pc := 30) κ (k := (xb tb + 1)) (n := 7) (j := xb tb + 2 + v2.toNatClampNeg) (xb_lt (j := 1) htb (by decide)) (xTX_out htb) rfl (wXb_out _ _ htb) i4 (if_pos (vp_lt i4)) dX0_weigh_30 ?_
      refine xr_iload (pc := 31) κ 4 (x := v5) dX0_weigh_31 rfl ?_
      obtain ⟨i5, h⟩ := h
      refine xr_lald (pc := 33) κ (k := (xb tb + 2 + v2.toNatClampNeg)) (n := 7) (f := (b_cell (x_bal x tb)) v2.toNatClampNeg) (xb_row_lt htb (vp_lt i4)) (xTX_row htb (vp_lt i4)) (wXb_row _ _ htb (vp_lt i4)) i5 dX0_weigh_33 ?_
      refine xr_aload_n (pc := 34) κ 1 (x := 2) dX0_weigh_34 rfl rfl ?_
      refine xr_iload (pc := 35) κ 4 (x := v5) dX0_weigh_35 rfl ?_
      obtain ⟨i6, h⟩ := h
      refine xr_iald (pc := 37) κ (k := 2) (n := 7) (f := c_pulls c) (by decide) rfl rfl i6 dX0_weigh_37 ?_
      refine xr_i2l (pc := 38) κ dX0_weigh_38 ?_
      refine xr_lmul (pc := 39) κ dX0_weigh_39 ?_
      refine xr_ladd (pc := 40) κ dX0_weigh_40 ?_
      refine xr_lstore_n (pc := 41) κ [1, 2, 3, 0, 4] (lv' := [(0, .ref (xb tb)), (1, .ref 2), (2, .int v2), (3, .long (v3 + (((b_cell (x_bal x tb)) v2.toNatClampNeg v5.toNatClampNeg) * (Int32.toInt64 (c_pulls c v5.toNatClampNeg))))), (5, .int v5)]) dX0_weigh_41 rfl (by decide) rfl ?_
      refine xr_iinc (pc := 42) κ 4 [1, 2, 3, 4, 0] (lv' := [(0, .ref (xb tb)), (1, .ref 2), (2, .int v2), (3, .long (v3 + (((b_cell (x_bal x tb)) v2.toNatClampNeg v5.toNatClampNeg) * (Int32.toInt64 (c_pulls c v5.toNatClampNeg))))), (5, .int (v5 + 1))]) (x := v5) (v := v5 + 1) dX0_weigh_42 rfl rfl (by decide) rfl ?_
      refine xr_goto (pc := 45) κ (tgt := 15) dX0_weigh_45 (by decide) ?_
      exact ih _ _ _ _ _ h
def nd_X0_weigh_2 (tb : Nat) (K : CS → XT → Prop) : Nat → Int32 → CS → XT → Prop
  | 0 => fun _ _ _ => False
  | n + 1 => fun v2 c x =>
    ((b_knots (x_bal x tb)) ≤ v2 →
      K c x) ∧
    (¬ (b_knots (x_bal x tb)) ≤ v2 →
      ∃ n15 : Nat, nd_X0_weigh_15 tb K (fun v2 c x => nd_X0_weigh_2 tb K n v2 c x) n15 v2 (0 : Int64) (0 : Int32) c x)
set_option maxHeartbeats 4000000 in
set_option maxRecDepth 100000 in
theorem snd_X0_weigh_2 {l : Launch} (κ : XC l xTX cX0_weigh yX0_weigh.cls 6 (none) 0) (tb : Nat) (htb : tb < 6) (K : CS → XT → Prop) (hQ : xRet κ (fun v ω' => ∃ (c' : CS) (t' : XT), v = none ∧ ω' = wX c' t' ∧ K c' t')) : ∀ (n : Nat) (v2 : Int32) (c : CS) (x : XT), nd_X0_weigh_2 tb K n v2 c x → Wat κ 2 [(0, .ref (xb tb)), (1, .ref 2), (2, .int v2)] [] (wX c x) := by
  intro n
  induction n with
  | zero => intro v2 c x h; exact h.elim
  | succ n ih =>
    intro v2 c x h
    unfold nd_X0_weigh_2 at h
    refine xr_iload_n (pc := 2) κ 2 (x := v2) dX0_weigh_2 rfl rfl ?_
    refine xr_aload_n (pc := 3) κ 0 (x := (xb tb)) dX0_weigh_3 rfl rfl ?_
    refine xr_get (pc := 4) κ xc0 (k := (xb tb)) (f := 0) (v := .int (b_knots (x_bal x tb))) kw_1_109 (xb_lt (j := 0) htb (by decide)) (wXb_obj _ _ htb) (by decide) rfl dX0_weigh_4 ?_
    refine xr_icmp_ge (pc := 7) κ (tgt := 61) dX0_weigh_7 (by decide) (fun c1 => ?_) (fun c1 => ?_)
    · have h := h.1 c1
      exact xr_vret (pc := 61) κ _ hQ dX0_weigh_61 ⟨_, _, rfl, rfl, h⟩
    · have h := h.2 c1
      refine xr_lconst (pc := 10) κ (v := 0) dX0_weigh_10 (by decide) ?_
      refine xr_lstore_n (pc := 11) κ [1, 2, 3, 0] (lv' := [(0, .ref (xb tb)), (1, .ref 2), (2, .int v2), (3, .long (0 : Int64))]) dX0_weigh_11 rfl (by decide) rfl ?_
      refine xr_iconst (pc := 12) κ (v := 0) dX0_weigh_12 (by decide) ?_
      refine xr_istore (pc := 13) κ [1, 2, 3, 4, 0] (lv' := [(0, .ref (xb tb)), (1, .ref 2), (2, .int v2), (3, .long (0 : Int64)), (5, .int (0 : Int32))]) dX0_weigh_13 (by decide) rfl ?_
      obtain ⟨n0, h⟩ := h
      exact snd_X0_weigh_15 κ tb htb K hQ _ ih n0 _ _ _ _ _ h
def wp_X0_weigh (tb : Nat) (c : CS) (x : XT) (K : CS → XT → Prop) : Prop :=
    ∃ n2 : Nat, nd_X0_weigh_2 tb K n2 (0 : Int32) c x
set_option maxHeartbeats 4000000 in
set_option maxRecDepth 100000 in
theorem snd_X0_weigh {l : Launch} (tb : Nat) (htb : tb < 6) (c : CS) (x : XT) (K : CS → XT → Prop) (h : wp_X0_weigh tb  c x K) : XM l xTX yX0_weigh cX0_weigh 6 (none) 0 [.ref (xb tb), .ref 2] (wX c x) (fun v ω' => ∃ (c' : CS) (t' : XT), v = none ∧ ω' = wX c' t' ∧ K c' t') := by
    refine XM.of (by decide) (Nat.le_of_ble_eq_true rfl) (fun κ hQ => ?_)
    show Wat κ 0 [(0, .ref (xb tb)), (1, .ref 2)] [] (wX c x)
    unfold wp_X0_weigh at h
    refine xr_iconst (pc := 0) κ (v := 0) dX0_weigh_0 (by decide) ?_
    refine xr_istore_n (pc := 1) κ [1, 2, 0] (lv' := [(0, .ref (xb tb)), (1, .ref 2), (2, .int (0 : Int32))]) dX0_weigh_1 rfl (by decide) rfl ?_
    obtain ⟨n0, h⟩ := h
    exact snd_X0_weigh_2 κ tb htb K hQ n0 _ _ _ h
-- ChipVolts$Balance.settle(LChipVolts$Net;I)Z, level 2
def wp_X0_settle (tb : Nat) (pads : Int32) (c : CS) (x : XT) (K : Int32 → CS → XT → Prop) : Prop :=
    wp_X0_lay tb c x (fun c1_ x1_ =>
      wp_X0_takeOutAllBut tb pads c1_ x1_ (fun r2 c2_ x2_ =>
        (¬ r2 = 0 →
          wp_X0_forget tb pads c2_ x2_ (fun c4_ x4_ =>
            wp_X0_weigh tb c4_ x4_ (fun c5_ x5_ =>
              K (1 : Int32) c5_ x5_))) ∧
        (r2 = 0 →
          K (0 : Int32) c2_ x2_)))
set_option maxHeartbeats 4000000 in
set_option maxRecDepth 100000 in
theorem snd_X0_settle {l : Launch} (tb : Nat) (htb : tb < 6) (pads : Int32) (c : CS) (x : XT) (K : Int32 → CS → XT → Prop) (h : wp_X0_settle tb pads c x K) : XM l xTX yX0_settle cX0_settle 3 (some .boolean) 2 [.ref (xb tb), .ref 1, .int pads] (wX c x) (fun v ω' => ∃ (r : Int32) (c' : CS) (t' : XT), v = some (.int r) ∧ ω' = wX c' t' ∧ K r c' t') := by
    refine XM.of (by decide) (Nat.le_of_ble_eq_true rfl) (fun κ hQ => ?_)
    show Wat κ 0 [(0, .ref (xb tb)), (1, .ref 1), (2, .int pads)] [] (wX c x)
    unfold wp_X0_settle at h
    refine xr_aload_n (pc := 0) κ 0 (x := (xb tb)) dX0_settle_0 rfl rfl ?_
    refine xr_aload_n (pc := 1) κ 1 (x := 1) dX0_settle_1 rfl rfl ?_
    refine xr_callV (pc := 2) κ [.ref 1] kw_2_27 tg_X0_lay (snd_X0_lay tb htb  _ _ _ h) rfl (by decide) (by decide) (xb_lt (j := 0) htb (by decide)) (wXb_obj _ _ htb) (ci := 0) rfl rfl (Nat.le_of_ble_eq_true rfl) dX0_settle_2 (fun v9 ω9 hk9 => ?_)
    obtain ⟨c1_, x1_, rfl, rfl, h⟩ := hk9
    skip
    show Wat κ 5 [(0, .ref (xb tb)), (1, .ref 1), (2, .int pads)] [] (wX c1_ x1_)
    refine xr_aload_n (pc := 5) κ 0 (x := (xb tb)) dX0_settle_5 rfl rfl ?_
    refine xr_iload_n (pc := 6) κ 2 (x := pads) dX0_settle_6 rfl rfl ?_
    refine xr_callV (pc := 7) κ [.int pads] kw_2_31 tg_X0_takeOutAllBut (snd_X0_takeOutAllBut tb htb _ _ _ _ h) rfl (by decide) (by decide) (xb_lt (j := 0) htb (by decide)) (wXb_obj _ _ htb) (ci := 0) rfl rfl (Nat.le_of_ble_eq_true rfl) dX0_settle_7 (fun v9 ω9 hk9 => ?_)
    obtain ⟨r2, c2_, x2_, rfl, rfl, h⟩ := hk9
    skip
    show Wat κ 10 [(0, .ref (xb tb)), (1, .ref 1), (2, .int pads)] [.int r2] (wX c2_ x2_)
    refine xr_if_ne (pc := 10) κ (tgt := 15) dX0_settle_10 (by decide) (fun c3 => ?_) (fun c3 => ?_)
    · have h := h.1 c3
      refine xr_aload_n (pc := 15) κ 0 (x := (xb tb)) dX0_settle_15 rfl rfl ?_
      refine xr_iload_n (pc := 16) κ 2 (x := pads) dX0_settle_16 rfl rfl ?_
      refine xr_callV (pc := 17) κ [.int pads] kw_2_40 tg_X0_forget (snd_X0_forget tb htb _ _ _ _ h) rfl (by decide) (by decide) (xb_lt (j := 0) htb (by decide)) (wXb_obj _ _ htb) (ci := 0) rfl rfl (Nat.le_of_ble_eq_true rfl) dX0_settle_17 (fun v9 ω9 hk9 => ?_)
      obtain ⟨c4_, x4_, rfl, rfl, h⟩ := hk9
      skip
      show Wat κ 20 [(0, .ref (xb tb)), (1, .ref 1), (2, .int pads)] [] (wX c4_ x4_)
      refine xr_aload_n (pc := 20) κ 0 (x := (xb tb)) dX0_settle_20 rfl rfl ?_
      refine xr_aload_n (pc := 21) κ 1 (x := 1) dX0_settle_21 rfl rfl ?_
      refine xr_getN (pc := 22) κ xc2 (k := 1) (f := 3) (v := .ref 2) kw_1_36 (by decide) rfl (by decide) rfl dX0_settle_22 ?_
      refine xr_callV (pc := 25) κ [.ref 2] kw_2_44 tg_X0_weigh (snd_X0_weigh tb htb  _ _ _ h) rfl (by decide) (by decide) (xb_lt (j := 0) htb (by decide)) (wXb_obj _ _ htb) (ci := 0) rfl rfl (Nat.le_of_ble_eq_true rfl) dX0_settle_25 (fun v9 ω9 hk9 => ?_)
      obtain ⟨c5_, x5_, rfl, rfl, h⟩ := hk9
      skip
      show Wat κ 28 [(0, .ref (xb tb)), (1, .ref 1), (2, .int pads)] [] (wX c5_ x5_)
      refine xr_iconst (pc := 28) κ (v := 1) dX0_settle_28 (by decide) ?_
      exact xr_zret (pc := 29) κ _ hQ rfl dX0_settle_29 ⟨_, _, _, rfl, rfl, h⟩
    · have h := h.2 c3
      refine xr_iconst (pc := 13) κ (v := 0) dX0_settle_13 (by decide) ?_
      exact xr_zret (pc := 14) κ _ hQ rfl dX0_settle_14 ⟨_, _, _, rfl, rfl, h⟩
-- ChipVolts$Balance.highest()I, level 0
def nd_X0_highest_30 (tb : Nat) (K : Int32 → CS → XT → Prop) (L4 : Int32 → Int32 → CS → XT → Prop) (v1 : Int32) (v2 : Int32) (c : CS) (x : XT) : Prop :=
    L4 v1 (v2 + 1) c x
set_option maxHeartbeats 4000000 in
set_option maxRecDepth 100000 in
theorem snd_X0_highest_30 {l : Launch} (κ : XC l xTX cX0_highest yX0_highest.cls 3 (some .int) 0) (tb : Nat) (htb : tb < 6) (K : Int32 → CS → XT → Prop) (hQ : xRet κ (fun v ω' => ∃ (r : Int32) (c' : CS) (t' : XT), v = some (.int r) ∧ ω' = wX c' t' ∧ K r c' t')) (L4 : Int32 → Int32 → CS → XT → Prop) (hL4 : ∀ (v1 : Int32) (v2 : Int32) (c : CS) (x : XT), L4 v1 v2 c x → Wat κ 4 [(0, .ref (xb tb)), (1, .int v1), (2, .int v2)] [] (wX c x)) (v1 : Int32) (v2 : Int32) (c : CS) (x : XT) (h : nd_X0_highest_30 tb K L4 v1 v2 c x) : Wat κ 30 [(0, .ref (xb tb)), (1, .int v1), (2, .int v2)] [] (wX c x) := by
    unfold nd_X0_highest_30 at h
    refine xr_iinc (pc := 30) κ 2 [1, 2, 0] (lv' := [(0, .ref (xb tb)), (1, .int v1), (2, .int (v2 + 1))]) (x := v2) (v := v2 + 1) dX0_highest_30 rfl rfl (by decide) rfl ?_
    refine xr_goto (pc := 33) κ (tgt := 4) dX0_highest_33 (by decide) ?_
    exact hL4 _ _ _ _ h
def nd_X0_highest_4 (tb : Nat) (K : Int32 → CS → XT → Prop) : Nat → Int32 → Int32 → CS → XT → Prop
  | 0 => fun _ _ _ _ => False
  | n + 1 => fun v1 v2 c x =>
    ((b_knots (x_bal x tb)) ≤ v2 →
      K v1 c x) ∧
    (¬ (b_knots (x_bal x tb)) ≤ v2 →
      vp_in v2 7 ∧
      vp_in v1 7 ∧
      ((b_above (x_bal x tb) v2.toNatClampNeg) ≤ (b_above (x_bal x tb) v1.toNatClampNeg) →
        nd_X0_highest_30 tb K (fun v1 v2 c x => nd_X0_highest_4 tb K n v1 v2 c x) v1 v2 c x) ∧
      (¬ (b_above (x_bal x tb) v2.toNatClampNeg) ≤ (b_above (x_bal x tb) v1.toNatClampNeg) →
        nd_X0_highest_30 tb K (fun v1 v2 c x => nd_X0_highest_4 tb K n v1 v2 c x) v2 v2 c x))
set_option maxHeartbeats 4000000 in
set_option maxRecDepth 100000 in
theorem snd_X0_highest_4 {l : Launch} (κ : XC l xTX cX0_highest yX0_highest.cls 3 (some .int) 0) (tb : Nat) (htb : tb < 6) (K : Int32 → CS → XT → Prop) (hQ : xRet κ (fun v ω' => ∃ (r : Int32) (c' : CS) (t' : XT), v = some (.int r) ∧ ω' = wX c' t' ∧ K r c' t')) : ∀ (n : Nat) (v1 : Int32) (v2 : Int32) (c : CS) (x : XT), nd_X0_highest_4 tb K n v1 v2 c x → Wat κ 4 [(0, .ref (xb tb)), (1, .int v1), (2, .int v2)] [] (wX c x) := by
  intro n
  induction n with
  | zero => intro v1 v2 c x h; exact h.elim
  | succ n ih =>
    intro v1 v2 c x h
    unfold nd_X0_highest_4 at h
    refine xr_iload_n (pc := 4) κ 2 (x := v2) dX0_highest_4 rfl rfl ?_
    refine xr_aload_n (pc := 5) κ 0 (x := (xb tb)) dX0_highest_5 rfl rfl ?_
    refine xr_get (pc := 6) κ xc0 (k := (xb tb)) (f := 0) (v := .int (b_knots (x_bal x tb))) kw_1_109 (xb_lt (j := 0) htb (by decide)) (wXb_obj _ _ htb) (by decide) rfl dX0_highest_6 ?_
    refine xr_icmp_ge (pc := 9) κ (tgt := 36) dX0_highest_9 (by decide) (fun c1 => ?_) (fun c1 => ?_)
    · have h := h.1 c1
      refine xr_iload_n (pc := 36) κ 1 (x := v1) dX0_highest_36 rfl rfl ?_
      exact xr_iret (pc := 37) κ _ hQ dX0_highest_37 ⟨_, _, _, rfl, rfl, h⟩
    · have h := h.2 c1
      refine xr_aload_n (pc := 12) κ 0 (x := (xb tb)) dX0_highest_12 rfl rfl ?_
      refine xr_get (pc := 13) κ xc0 (k := (xb tb)) (f := 3) (v := .ref (xb tb + 9)) kw_1_117 (xb_lt (j := 0) htb (by decide)) (wXb_obj _ _ htb) (by decide) rfl dX0_highest_13 ?_
      refine xr_iload_n (pc := 16) κ 2 (x := v2) dX0_highest_16 rfl rfl ?_
      obtain ⟨i2, h⟩ := h
      refine xr_lald (pc := 17) κ (k := (xb tb + 9)) (n := 7) (f := b_above (x_bal x tb)) (xb_lt (j := 9) htb (by decide)) (xTX_long (j := 9) htb (by decide) (by decide)) (wXb_above _ _ htb) i2 dX0_highest_17 ?_
      refine xr_aload_n (pc := 18) κ 0 (x := (xb tb)) dX0_highest_18 rfl rfl ?_
      refine xr_get (pc := 19) κ xc0 (k := (xb tb)) (f := 3) (v := .ref (xb tb + 9)) kw_1_117 (xb_lt (j := 0) htb (by decide)) (wXb_obj _ _ htb) (by decide) rfl dX0_highest_19 ?_
      refine xr_iload_n (pc := 22) κ 1 (x := v1) dX0_highest_22 rfl rfl ?_
      obtain ⟨i3, h⟩ := h
      refine xr_lald (pc := 23) κ (k := (xb tb + 9)) (n := 7) (f := b_above (x_bal x tb)) (xb_lt (j := 9) htb (by decide)) (xTX_long (j := 9) htb (by decide) (by decide)) (wXb_above _ _ htb) i3 dX0_highest_23 ?_
      refine xr_lcmp_le (pc := 24) κ (tgt := 30) dX0_highest_24 dX0_highest_25 (by decide) (fun c4 => ?_) (fun c4 => ?_)
      · have h := h.1 c4
        exact snd_X0_highest_30 κ tb htb K hQ _ ih _ _ _ _ h
      · have h := h.2 c4
        refine xr_iload_n (pc := 28) κ 2 (x := v2) dX0_highest_28 rfl rfl ?_
        refine xr_istore_n (pc := 29) κ [1, 0, 2] (lv' := [(0, .ref (xb tb)), (1, .int v2), (2, .int v2)]) dX0_highest_29 rfl (by decide) rfl ?_
        exact snd_X0_highest_30 κ tb htb K hQ _ ih _ _ _ _ h
def wp_X0_highest (tb : Nat) (c : CS) (x : XT) (K : Int32 → CS → XT → Prop) : Prop :=
    ∃ n4 : Nat, nd_X0_highest_4 tb K n4 (0 : Int32) (1 : Int32) c x
set_option maxHeartbeats 4000000 in
set_option maxRecDepth 100000 in
theorem snd_X0_highest {l : Launch} (tb : Nat) (htb : tb < 6) (c : CS) (x : XT) (K : Int32 → CS → XT → Prop) (h : wp_X0_highest tb  c x K) : XM l xTX yX0_highest cX0_highest 3 (some .int) 0 [.ref (xb tb)] (wX c x) (fun v ω' => ∃ (r : Int32) (c' : CS) (t' : XT), v = some (.int r) ∧ ω' = wX c' t' ∧ K r c' t') := by
    refine XM.of (by decide) (Nat.le_of_ble_eq_true rfl) (fun κ hQ => ?_)
    show Wat κ 0 [(0, .ref (xb tb))] [] (wX c x)
    unfold wp_X0_highest at h
    refine xr_iconst (pc := 0) κ (v := 0) dX0_highest_0 (by decide) ?_
    refine xr_istore_n (pc := 1) κ [1, 0] (lv' := [(0, .ref (xb tb)), (1, .int (0 : Int32))]) dX0_highest_1 rfl (by decide) rfl ?_
    refine xr_iconst (pc := 2) κ (v := 1) dX0_highest_2 (by decide) ?_
    refine xr_istore_n (pc := 3) κ [1, 2, 0] (lv' := [(0, .ref (xb tb)), (1, .int (0 : Int32)), (2, .int (1 : Int32))]) dX0_highest_3 rfl (by decide) rfl ?_
    obtain ⟨n0, h⟩ := h
    exact snd_X0_highest_4 κ tb htb K hQ n0 _ _ _ _ h
-- ChipVolts$Balance.highestAbove()J, level 1
def wp_X0_highestAbove (tb : Nat) (c : CS) (x : XT) (K : Int64 → CS → XT → Prop) : Prop :=
    wp_X0_highest tb c x (fun r1 c1_ x1_ =>
      vp_in r1 7 ∧
      K (b_above (x_bal x1_ tb) r1.toNatClampNeg) c1_ x1_)
set_option maxHeartbeats 4000000 in
set_option maxRecDepth 100000 in
theorem snd_X0_highestAbove {l : Launch} (tb : Nat) (htb : tb < 6) (c : CS) (x : XT) (K : Int64 → CS → XT → Prop) (h : wp_X0_highestAbove tb  c x K) : XM l xTX yX0_highestAbove cX0_highestAbove 1 (some .long) 1 [.ref (xb tb)] (wX c x) (fun v ω' => ∃ (r : Int64) (c' : CS) (t' : XT), v = some (.long r) ∧ ω' = wX c' t' ∧ K r c' t') := by
    refine XM.of (by decide) (Nat.le_of_ble_eq_true rfl) (fun κ hQ => ?_)
    show Wat κ 0 [(0, .ref (xb tb))] [] (wX c x)
    unfold wp_X0_highestAbove at h
    refine xr_aload_n (pc := 0) κ 0 (x := (xb tb)) dX0_highestAbove_0 rfl rfl ?_
    refine xr_get (pc := 1) κ xc0 (k := (xb tb)) (f := 3) (v := .ref (xb tb + 9)) kw_1_117 (xb_lt (j := 0) htb (by decide)) (wXb_obj _ _ htb) (by decide) rfl dX0_highestAbove_1 ?_
    refine xr_aload_n (pc := 4) κ 0 (x := (xb tb)) dX0_highestAbove_4 rfl rfl ?_
    refine xr_callV (pc := 5) κ [] kw_2_136 tg_X0_highest (snd_X0_highest tb htb  _ _ _ h) rfl (by decide) (by decide) (xb_lt (j := 0) htb (by decide)) (wXb_obj _ _ htb) (ci := 0) rfl rfl (Nat.le_of_ble_eq_true rfl) dX0_highestAbove_5 (fun v9 ω9 hk9 => ?_)
    obtain ⟨r1, c1_, x1_, rfl, rfl, h⟩ := hk9
    skip
    show Wat κ 8 [(0, .ref (xb tb))] [.int r1, .ref (xb tb + 9)] (wX c1_ x1_)
    obtain ⟨i2, h⟩ := h
    refine xr_lald (pc := 8) κ (k := (xb tb + 9)) (n := 7) (f := b_above (x_bal x1_ tb)) (xb_lt (j := 9) htb (by decide)) (xTX_long (j := 9) htb (by decide) (by decide)) (wXb_above _ _ htb) i2 dX0_highestAbove_8 ?_
    exact xr_lret (pc := 9) κ _ hQ dX0_highestAbove_9 ⟨_, _, _, rfl, rfl, h⟩
-- ChipVolts$Balance.isWithin(I)Z, level 2
def wp_X0_isWithin (tb : Nat) (lim : Int32) (c : CS) (x : XT) (K : Int32 → CS → XT → Prop) : Prop :=
    wp_X0_highestAbove tb c x (fun r1 c1_ x1_ =>
      (((Int32.toInt64 lim) * (b_below (x_bal x1_ tb))) < r1 →
        K (0 : Int32) c1_ x1_) ∧
      (¬ ((Int32.toInt64 lim) * (b_below (x_bal x1_ tb))) < r1 →
        K (1 : Int32) c1_ x1_))
set_option maxHeartbeats 4000000 in
set_option maxRecDepth 100000 in
theorem snd_X0_isWithin {l : Launch} (tb : Nat) (htb : tb < 6) (lim : Int32) (c : CS) (x : XT) (K : Int32 → CS → XT → Prop) (h : wp_X0_isWithin tb lim c x K) : XM l xTX yX0_isWithin cX0_isWithin 2 (some .boolean) 2 [.ref (xb tb), .int lim] (wX c x) (fun v ω' => ∃ (r : Int32) (c' : CS) (t' : XT), v = some (.int r) ∧ ω' = wX c' t' ∧ K r c' t') := by
    refine XM.of (by decide) (Nat.le_of_ble_eq_true rfl) (fun κ hQ => ?_)
    show Wat κ 0 [(0, .ref (xb tb)), (1, .int lim)] [] (wX c x)
    unfold wp_X0_isWithin at h
    refine xr_aload_n (pc := 0) κ 0 (x := (xb tb)) dX0_isWithin_0 rfl rfl ?_
    refine xr_callV (pc := 1) κ [] kw_2_181 tg_X0_highestAbove (snd_X0_highestAbove tb htb  _ _ _ h) rfl (by decide) (by decide) (xb_lt (j := 0) htb (by decide)) (wXb_obj _ _ htb) (ci := 0) rfl rfl (Nat.le_of_ble_eq_true rfl) dX0_isWithin_1 (fun v9 ω9 hk9 => ?_)
    obtain ⟨r1, c1_, x1_, rfl, rfl, h⟩ := hk9
    skip
    show Wat κ 4 [(0, .ref (xb tb)), (1, .int lim)] [.long r1] (wX c1_ x1_)
    refine xr_iload_n (pc := 4) κ 1 (x := lim) dX0_isWithin_4 rfl rfl ?_
    refine xr_i2l (pc := 5) κ dX0_isWithin_5 ?_
    refine xr_aload_n (pc := 6) κ 0 (x := (xb tb)) dX0_isWithin_6 rfl rfl ?_
    refine xr_get (pc := 7) κ xc0 (k := (xb tb)) (f := 1) (v := .long (b_below (x_bal x1_ tb))) kw_1_111 (xb_lt (j := 0) htb (by decide)) (wXb_obj _ _ htb) (by decide) rfl dX0_isWithin_7 ?_
    refine xr_lmul (pc := 10) κ dX0_isWithin_10 ?_
    refine xr_lcmp_gt (pc := 11) κ (tgt := 19) dX0_isWithin_11 dX0_isWithin_12 (by decide) (fun c2 => ?_) (fun c2 => ?_)
    · have h := h.1 c2
      refine xr_iconst (pc := 19) κ (v := 0) dX0_isWithin_19 (by decide) ?_
      exact xr_zret (pc := 20) κ _ hQ rfl dX0_isWithin_20 ⟨_, _, _, rfl, rfl, h⟩
    · have h := h.2 c2
      refine xr_iconst (pc := 15) κ (v := 1) dX0_isWithin_15 (by decide) ?_
      refine xr_goto (pc := 16) κ (tgt := 20) dX0_isWithin_16 (by decide) ?_
      exact xr_zret (pc := 20) κ _ hQ rfl dX0_isWithin_20 ⟨_, _, _, rfl, rfl, h⟩
-- ChipVolts$Balance.alter(LChipVolts$Balance;III)Z, level 0
def nd_X0_alter_116 (tb : Nat) (ub : Nat) (K : Int32 → CS → XT → Prop) : Nat → Int32 → Int64 → Int32 → CS → XT → Prop
  | 0 => fun _ _ _ _ _ => False
  | n + 1 => fun v4 v5 v7 c x =>
    ((b_knots (x_bal x tb)) ≤ v7 →
      K (1 : Int32) c x) ∧
    (¬ (b_knots (x_bal x tb)) ≤ v7 →
      vp_in v7 7 ∧
      vp_in v7 7 ∧
      ¬ (b_below (x_bal x ub)) = 0 ∧
      vp_in v7 7 ∧
      nd_X0_alter_116 tb ub K n v4 v5 (v7 + 1) c (xsb x tb (bs_above (x_bal x tb) (vp_updL (b_above (x_bal x tb)) v7.toNatClampNeg ((((b_above (x_bal x ub) v7.toNatClampNeg) * (b_below (x_bal x tb))) - (((Int32.toInt64 v4) * (b_spread (x_bal x tb) v7.toNatClampNeg)) * v5)) / (b_below (x_bal x ub)))))))
set_option maxHeartbeats 4000000 in
set_option maxRecDepth 100000 in
theorem snd_X0_alter_116 {l : Launch} (κ : XC l xTX cX0_alter yX0_alter.cls 8 (some .boolean) 0) (tb : Nat) (ub : Nat) (htb : tb < 6) (hub : ub < 6) (hne : ub ≠ tb) (K : Int32 → CS → XT → Prop) (hQ : xRet κ (fun v ω' => ∃ (r : Int32) (c' : CS) (t' : XT), v = some (.int r) ∧ ω' = wX c' t' ∧ K r c' t')) : ∀ (n : Nat) (v4 : Int32) (v5 : Int64) (v7 : Int32) (c : CS) (x : XT), nd_X0_alter_116 tb ub K n v4 v5 v7 c x → Wat κ 116 [(0, .ref (xb tb)), (1, .ref (xb ub)), (4, .int v4), (5, .long v5), (7, .int v7)] [] (wX c x) := by
  intro n
  induction n with
  | zero => intro v4 v5 v7 c x h; exact h.elim
  | succ n ih =>
    intro v4 v5 v7 c x h
    unfold nd_X0_alter_116 at h
    refine xr_iload (pc := 116) κ 4 (x := v7) dX0_alter_116 rfl ?_
    refine xr_aload_n (pc := 118) κ 0 (x := (xb tb)) dX0_alter_118 rfl rfl ?_
    refine xr_get (pc := 119) κ xc0 (k := (xb tb)) (f := 0) (v := .int (b_knots (x_bal x tb))) kw_1_109 (xb_lt (j := 0) htb (by decide)) (wXb_obj _ _ htb) (by decide) rfl dX0_alter_119 ?_
    refine xr_icmp_ge (pc := 122) κ (tgt := 170) dX0_alter_122 (by decide) (fun c8 => ?_) (fun c8 => ?_)
    · have h := h.1 c8
      refine xr_iconst (pc := 170) κ (v := 1) dX0_alter_170 (by decide) ?_
      exact xr_zret (pc := 171) κ _ hQ rfl dX0_alter_171 ⟨_, _, _, rfl, rfl, h⟩
    · have h := h.2 c8
      refine xr_aload_n (pc := 125) κ 0 (x := (xb tb)) dX0_alter_125 rfl rfl ?_
      refine xr_get (pc := 126) κ xc0 (k := (xb tb)) (f := 3) (v := .ref (xb tb + 9)) kw_1_117 (xb_lt (j := 0) htb (by decide)) (wXb_obj _ _ htb) (by decide) rfl dX0_alter_126 ?_
      refine xr_iload (pc := 129) κ 4 (x := v7) dX0_alter_129 rfl ?_
      refine xr_aload_n (pc := 131) κ 1 (x := (xb ub)) dX0_alter_131 rfl rfl ?_
      refine xr_get (pc := 132) κ xc0 (k := (xb ub)) (f := 3) (v := .ref (xb ub + 9)) kw_1_117 (xb_lt (j := 0) hub (by decide)) (wXb_obj _ _ hub) (by decide) rfl dX0_alter_132 ?_
      refine xr_iload (pc := 135) κ 4 (x := v7) dX0_alter_135 rfl ?_
      obtain ⟨i9, h⟩ := h
      refine xr_lald (pc := 137) κ (k := (xb ub + 9)) (n := 7) (f := b_above (x_bal x ub)) (xb_lt (j := 9) hub (by decide)) (xTX_long (j := 9) hub (by decide) (by decide)) (wXb_above _ _ hub) i9 dX0_alter_137 ?_
      refine xr_aload_n (pc := 138) κ 0 (x := (xb tb)) dX0_alter_138 rfl rfl ?_
      refine xr_get (pc := 139) κ xc0 (k := (xb tb)) (f := 1) (v := .long (b_below (x_bal x tb))) kw_1_111 (xb_lt (j := 0) htb (by decide)) (wXb_obj _ _ htb) (by decide) rfl dX0_alter_139 ?_
      refine xr_lmul (pc := 142) κ dX0_alter_142 ?_
      refine xr_iload (pc := 143) κ 2 (x := v4) dX0_alter_143 rfl ?_
      refine xr_i2l (pc := 145) κ dX0_alter_145 ?_
      refine xr_aload_n (pc := 146) κ 0 (x := (xb tb)) dX0_alter_146 rfl rfl ?_
      refine xr_get (pc := 147) κ xc0 (k := (xb tb)) (f := 4) (v := .ref (xb tb + 10)) kw_1_119 (xb_lt (j := 0) htb (by decide)) (wXb_obj _ _ htb) (by decide) rfl dX0_alter_147 ?_
      refine xr_iload (pc := 150) κ 4 (x := v7) dX0_alter_150 rfl ?_
      obtain ⟨i10, h⟩ := h
      refine xr_lald (pc := 152) κ (k := (xb tb + 10)) (n := 7) (f := b_spread (x_bal x tb)) (xb_lt (j := 10) htb (by decide)) (xTX_long (j := 10) htb (by decide) (by decide)) (wXb_spread _ _ htb) i10 dX0_alter_152 ?_
      refine xr_lmul (pc := 153) κ dX0_alter_153 ?_
      refine xr_lload (pc := 154) κ 3 (x := v5) dX0_alter_154 rfl ?_
      refine xr_lmul (pc := 156) κ dX0_alter_156 ?_
      refine xr_lsub (pc := 157) κ dX0_alter_157 ?_
      refine xr_aload_n (pc := 158) κ 1 (x := (xb ub)) dX0_alter_158 rfl rfl ?_
      refine xr_get (pc := 159) κ xc0 (k := (xb ub)) (f := 1) (v := .long (b_below (x_bal x ub))) kw_1_111 (xb_lt (j := 0) hub (by decide)) (wXb_obj _ _ hub) (by decide) rfl dX0_alter_159 ?_
      obtain ⟨i11, h⟩ := h
      refine xr_ldiv (pc := 162) κ i11 dX0_alter_162 ?_
      obtain ⟨i12, h⟩ := h
      refine xr_last (pc := 163) κ (k := (xb tb + 9)) (n := 7) (f := b_above (x_bal x tb)) (ω' := wX c (xsb x tb (bs_above (x_bal x tb) (vp_updL (b_above (x_bal x tb)) v7.toNatClampNeg ((((b_above (x_bal x ub) v7.toNatClampNeg) * (b_below (x_bal x tb))) - (((Int32.toInt64 v4) * (b_spread (x_bal x tb) v7.toNatClampNeg)) * v5)) / (b_below (x_bal x ub))))))) (xb_lt (j := 9) htb (by decide)) (xTX_long (j := 9) htb (by decide) (by decide)) (wXb_above _ _ htb) i12 (wXb_sabove _ _ htb _) dX0_alter_163 ?_
      refine xr_iinc (pc := 164) κ 4 [1, 2, 3, 4, 0] (lv' := [(0, .ref (xb tb)), (1, .ref (xb ub)), (4, .int v4), (5, .long v5), (7, .int (v7 + 1))]) (x := v7) (v := v7 + 1) dX0_alter_164 rfl rfl (by decide) rfl ?_
      refine xr_goto (pc := 167) κ (tgt := 116) dX0_alter_167 (by decide) ?_
      exact ih _ _ _ _ _ h
def nd_X0_alter_11 (tb : Nat) (ub : Nat) (K : Int32 → CS → XT → Prop) : Nat → Int32 → Int32 → Int32 → Int32 → CS → XT → Prop
  | 0 => fun _ _ _ _ _ _ => False
  | n + 1 => fun v2 v3 v4 v5 c x =>
    ((b_knots (x_bal x tb)) ≤ v5 →
      vp_in v2 7 ∧
      vp_in v3 7 ∧
      (((b_below (x_bal x ub)) + ((Int32.toInt64 v4) * ((b_spread (x_bal x tb) v2.toNatClampNeg) - (b_spread (x_bal x tb) v3.toNatClampNeg)))) ≤ (0 : Int64) →
        K (0 : Int32) c (xsb x tb (bs_below (x_bal x tb) ((b_below (x_bal x ub)) + ((Int32.toInt64 v4) * ((b_spread (x_bal x tb) v2.toNatClampNeg) - (b_spread (x_bal x tb) v3.toNatClampNeg))))))) ∧
      (¬ ((b_below (x_bal x ub)) + ((Int32.toInt64 v4) * ((b_spread (x_bal x tb) v2.toNatClampNeg) - (b_spread (x_bal x tb) v3.toNatClampNeg)))) ≤ (0 : Int64) →
        ((0 : Int64) < (b_below (x_bal x ub)) →
          vp_in v2 7 ∧
          vp_in v3 7 ∧
          ∃ n116 : Nat, nd_X0_alter_116 tb ub K n116 v4 ((b_above (x_bal x ub) v2.toNatClampNeg) - (b_above (x_bal x ub) v3.toNatClampNeg)) (0 : Int32) c (xsb x tb (bs_below (x_bal x tb) ((b_below (x_bal x ub)) + ((Int32.toInt64 v4) * ((b_spread (x_bal x tb) v2.toNatClampNeg) - (b_spread (x_bal x tb) v3.toNatClampNeg))))))) ∧
        (¬ (0 : Int64) < (b_below (x_bal x ub)) →
          K (0 : Int32) c (xsb x tb (bs_below (x_bal x tb) ((b_below (x_bal x ub)) + ((Int32.toInt64 v4) * ((b_spread (x_bal x tb) v2.toNatClampNeg) - (b_spread (x_bal x tb) v3.toNatClampNeg))))))))) ∧
    (¬ (b_knots (x_bal x tb)) ≤ v5 →
      vp_in v5 7 ∧
      vp_in v2 7 ∧
      vp_in v5 7 ∧
      vp_in v3 7 ∧
      vp_in v5 7 ∧
      nd_X0_alter_11 tb ub K n v2 v3 v4 (v5 + 1) c (xsb x tb (bs_spread (x_bal x tb) (vp_updL (b_spread (x_bal x tb)) v5.toNatClampNeg (((b_cell (x_bal x ub)) v5.toNatClampNeg v2.toNatClampNeg) - ((b_cell (x_bal x ub)) v5.toNatClampNeg v3.toNatClampNeg))))))
set_option maxHeartbeats 4000000 in
set_option maxRecDepth 100000 in
theorem snd_X0_alter_11 {l : Launch} (κ : XC l xTX cX0_alter yX0_alter.cls 8 (some .boolean) 0) (tb : Nat) (ub : Nat) (htb : tb < 6) (hub : ub < 6) (hne : ub ≠ tb) (K : Int32 → CS → XT → Prop) (hQ : xRet κ (fun v ω' => ∃ (r : Int32) (c' : CS) (t' : XT), v = some (.int r) ∧ ω' = wX c' t' ∧ K r c' t')) : ∀ (n : Nat) (v2 : Int32) (v3 : Int32) (v4 : Int32) (v5 : Int32) (c : CS) (x : XT), nd_X0_alter_11 tb ub K n v2 v3 v4 v5 c x → Wat κ 11 [(0, .ref (xb tb)), (1, .ref (xb ub)), (2, .int v2), (3, .int v3), (4, .int v4), (5, .int v5)] [] (wX c x) := by
  intro n
  induction n with
  | zero => intro v2 v3 v4 v5 c x h; exact h.elim
  | succ n ih =>
    intro v2 v3 v4 v5 c x h
    unfold nd_X0_alter_11 at h
    refine xr_iload (pc := 11) κ 5 (x := v5) dX0_alter_11 rfl ?_
    refine xr_aload_n (pc := 13) κ 0 (x := (xb tb)) dX0_alter_13 rfl rfl ?_
    refine xr_get (pc := 14) κ xc0 (k := (xb tb)) (f := 0) (v := .int (b_knots (x_bal x tb))) kw_1_109 (xb_lt (j := 0) htb (by decide)) (wXb_obj _ _ htb) (by decide) rfl dX0_alter_14 ?_
    refine xr_icmp_ge (pc := 17) κ (tgt := 52) dX0_alter_17 (by decide) (fun c1 => ?_) (fun c1 => ?_)
    · have h := h.1 c1
      refine xr_aload_n (pc := 52) κ 0 (x := (xb tb)) dX0_alter_52 rfl rfl ?_
      refine xr_aload_n (pc := 53) κ 1 (x := (xb ub)) dX0_alter_53 rfl rfl ?_
      refine xr_get (pc := 54) κ xc0 (k := (xb ub)) (f := 1) (v := .long (b_below (x_bal x ub))) kw_1_111 (xb_lt (j := 0) hub (by decide)) (wXb_obj _ _ hub) (by decide) rfl dX0_alter_54 ?_
      refine xr_iload (pc := 57) κ 4 (x := v4) dX0_alter_57 rfl ?_
      refine xr_i2l (pc := 59) κ dX0_alter_59 ?_
      refine xr_aload_n (pc := 60) κ 0 (x := (xb tb)) dX0_alter_60 rfl rfl ?_
      refine xr_get (pc := 61) κ xc0 (k := (xb tb)) (f := 4) (v := .ref (xb tb + 10)) kw_1_119 (xb_lt (j := 0) htb (by decide)) (wXb_obj _ _ htb) (by decide) rfl dX0_alter_61 ?_
      refine xr_iload_n (pc := 64) κ 2 (x := v2) dX0_alter_64 rfl rfl ?_
      obtain ⟨i2, h⟩ := h
      refine xr_lald (pc := 65) κ (k := (xb tb + 10)) (n := 7) (f := b_spread (x_bal x tb)) (xb_lt (j := 10) htb (by decide)) (xTX_long (j := 10) htb (by decide) (by decide)) (wXb_spread _ _ htb) i2 dX0_alter_65 ?_
      refine xr_aload_n (pc := 66) κ 0 (x := (xb tb)) dX0_alter_66 rfl rfl ?_
      refine xr_get (pc := 67) κ xc0 (k := (xb tb)) (f := 4) (v := .ref (xb tb + 10)) kw_1_119 (xb_lt (j := 0) htb (by decide)) (wXb_obj _ _ htb) (by decide) rfl dX0_alter_67 ?_
      refine xr_iload_n (pc := 70) κ 3 (x := v3) dX0_alter_70 rfl rfl ?_
      obtain ⟨i3, h⟩ := h
      refine xr_lald (pc := 71) κ (k := (xb tb + 10)) (n := 7) (f := b_spread (x_bal x tb)) (xb_lt (j := 10) htb (by decide)) (xTX_long (j := 10) htb (by decide) (by decide)) (wXb_spread _ _ htb) i3 dX0_alter_71 ?_
      refine xr_lsub (pc := 72) κ dX0_alter_72 ?_
      refine xr_lmul (pc := 73) κ dX0_alter_73 ?_
      refine xr_ladd (pc := 74) κ dX0_alter_74 ?_
      refine xr_put (pc := 75) κ xc0 (k := (xb tb)) (f := 1) (v := .long ((b_below (x_bal x ub)) + ((Int32.toInt64 v4) * ((b_spread (x_bal x tb) v2.toNatClampNeg) - (b_spread (x_bal x tb) v3.toNatClampNeg))))) (ω' := wX c (xsb x tb (bs_below (x_bal x tb) ((b_below (x_bal x ub)) + ((Int32.toInt64 v4) * ((b_spread (x_bal x tb) v2.toNatClampNeg) - (b_spread (x_bal x tb) v3.toNatClampNeg))))))) kw_1_111 (xb_lt (j := 0) htb (by decide)) (wXb_obj _ _ htb) (by decide) rfl (fun _ => rfl) (fun _ => rfl) (Nat.le_of_ble_eq_true rfl) (wXb_below _ _ htb _) dX0_alter_75 ?_
      refine xr_aload_n (pc := 78) κ 0 (x := (xb tb)) dX0_alter_78 rfl rfl ?_
      refine xr_get (pc := 79) κ xc0 (k := (xb tb)) (f := 1) (v := .long ((b_below (x_bal x ub)) + ((Int32.toInt64 v4) * ((b_spread (x_bal x tb) v2.toNatClampNeg) - (b_spread (x_bal x tb) v3.toNatClampNeg))))) kw_1_111 (xb_lt (j := 0) htb (by decide)) (wXbo_obj _ _ _ htb) (by decide) rfl dX0_alter_79 ?_
      refine xr_lconst (pc := 82) κ (v := 0) dX0_alter_82 (by decide) ?_
      refine xr_lcmp_le (pc := 83) κ (tgt := 96) dX0_alter_83 dX0_alter_84 (by decide) (fun c4 => ?_) (fun c4 => ?_)
      · have h := h.1 c4
        refine xr_iconst (pc := 96) κ (v := 0) dX0_alter_96 (by decide) ?_
        exact xr_zret (pc := 97) κ _ hQ rfl dX0_alter_97 ⟨_, _, _, rfl, rfl, h⟩
      · have h := h.2 c4
        refine xr_aload_n (pc := 87) κ 1 (x := (xb ub)) dX0_alter_87 rfl rfl ?_
        refine xr_get (pc := 88) κ xc0 (k := (xb ub)) (f := 1) (v := .long (b_below (x_bal x ub))) kw_1_111 (xb_lt (j := 0) hub (by decide)) (wXbd_obj _ _ _ hub hne) (by decide) rfl dX0_alter_88 ?_
        refine xr_lconst (pc := 91) κ (v := 0) dX0_alter_91 (by decide) ?_
        refine xr_lcmp_gt (pc := 92) κ (tgt := 98) dX0_alter_92 dX0_alter_93 (by decide) (fun c5 => ?_) (fun c5 => ?_)
        · have h := h.1 c5
          refine xr_aload_n (pc := 98) κ 1 (x := (xb ub)) dX0_alter_98 rfl rfl ?_
          refine xr_get (pc := 99) κ xc0 (k := (xb ub)) (f := 3) (v := .ref (xb ub + 9)) kw_1_117 (xb_lt (j := 0) hub (by decide)) (wXbd_obj _ _ _ hub hne) (by decide) rfl dX0_alter_99 ?_
          refine xr_iload_n (pc := 102) κ 2 (x := v2) dX0_alter_102 rfl rfl ?_
          obtain ⟨i6, h⟩ := h
          refine xr_lald (pc := 103) κ (k := (xb ub + 9)) (n := 7) (f := b_above (x_bal x ub)) (xb_lt (j := 9) hub (by decide)) (xTX_long (j := 9) hub (by decide) (by decide)) (wXbd_above _ _ _ hub hne) i6 dX0_alter_103 ?_
          refine xr_aload_n (pc := 104) κ 1 (x := (xb ub)) dX0_alter_104 rfl rfl ?_
          refine xr_get (pc := 105) κ xc0 (k := (xb ub)) (f := 3) (v := .ref (xb ub + 9)) kw_1_117 (xb_lt (j := 0) hub (by decide)) (wXbd_obj _ _ _ hub hne) (by decide) rfl dX0_alter_105 ?_
          refine xr_iload_n (pc := 108) κ 3 (x := v3) dX0_alter_108 rfl rfl ?_
          obtain ⟨i7, h⟩ := h
          refine xr_lald (pc := 109) κ (k := (xb ub + 9)) (n := 7) (f := b_above (x_bal x ub)) (xb_lt (j := 9) hub (by decide)) (xTX_long (j := 9) hub (by decide) (by decide)) (wXbd_above _ _ _ hub hne) i7 dX0_alter_109 ?_
          refine xr_lsub (pc := 110) κ dX0_alter_110 ?_
          refine xr_lstore (pc := 111) κ [1, 2, 3, 4, 5, 0] (lv' := [(0, .ref (xb tb)), (1, .ref (xb ub)), (2, .int v2), (3, .int v3), (4, .int v4), (5, .long ((b_above (x_bal x ub) v2.toNatClampNeg) - (b_above (x_bal x ub) v3.toNatClampNeg)))]) dX0_alter_111 (by decide) rfl ?_
          refine xr_iconst (pc := 113) κ (v := 0) dX0_alter_113 (by decide) ?_
          refine xr_istore (pc := 114) κ [1, 2, 3, 4, 5, 6, 0] (lv' := [(0, .ref (xb tb)), (1, .ref (xb ub)), (2, .int v2), (3, .int v3), (4, .int v4), (5, .long ((b_above (x_bal x ub) v2.toNatClampNeg) - (b_above (x_bal x ub) v3.toNatClampNeg))), (7, .int (0 : Int32))]) dX0_alter_114 (by decide) rfl ?_
          refine xr_sub (pc := 116) κ [0, 1, 4, 5, 6] (lv' := [(0, .ref (xb tb)), (1, .ref (xb ub)), (4, .int v4), (5, .long ((b_above (x_bal x ub) v2.toNatClampNeg) - (b_above (x_bal x ub) v3.toNatClampNeg))), (7, .int (0 : Int32))]) rfl ?_
          obtain ⟨n0, h⟩ := h
          exact snd_X0_alter_116 κ tb ub htb hub hne K hQ n0 _ _ _ _ _ h
        · have h := h.2 c5
          refine xr_iconst (pc := 96) κ (v := 0) dX0_alter_96 (by decide) ?_
          exact xr_zret (pc := 97) κ _ hQ rfl dX0_alter_97 ⟨_, _, _, rfl, rfl, h⟩
    · have h := h.2 c1
      refine xr_aload_n (pc := 20) κ 0 (x := (xb tb)) dX0_alter_20 rfl rfl ?_
      refine xr_get (pc := 21) κ xc0 (k := (xb tb)) (f := 4) (v := .ref (xb tb + 10)) kw_1_119 (xb_lt (j := 0) htb (by decide)) (wXb_obj _ _ htb) (by decide) rfl dX0_alter_21 ?_
      refine xr_iload (pc := 24) κ 5 (x := v5) dX0_alter_24 rfl ?_
      refine xr_aload_n (pc := 26) κ 1 (x := (xb ub)) dX0_alter_26 rfl rfl ?_
      refine xr_get (pc := 27) κ xc0 (k := (xb ub)) (f := 2) (v := .ref (xb ub + 1)) kw_1_113 (xb_lt (j := 0) hub (by decide)) (wXb_obj _ _ hub) (by decide) rfl dX0_alter_27 ?_
      refine xr_iload (pc := 30) κ 5 (x := v5) dX0_alter_30 rfl ?_
      obtain ⟨i13, h⟩ := h
      refine xr_aald (pc := 32) κ (k := (xb ub + 1)) (n := 7) (j := xb ub + 2 + v5.toNatClampNeg) (xb_lt (j := 1) hub (by decide)) (xTX_out hub) rfl (wXb_out _ _ hub) i13 (if_pos (vp_lt i13)) dX0_alter_32 ?_
      refine xr_iload_n (pc := 33) κ 2 (x := v2) dX0_alter_33 rfl rfl ?_
      obtain ⟨i14, h⟩ := h
      refine xr_lald (pc := 34) κ (k := (xb ub + 2 + v5.toNatClampNeg)) (n := 7) (f := (b_cell (x_bal x ub)) v5.toNatClampNeg) (xb_row_lt hub (vp_lt i13)) (xTX_row hub (vp_lt i13)) (wXb_row _ _ hub (vp_lt i13)) i14 dX0_alter_34 ?_
      refine xr_aload_n (pc := 35) κ 1 (x := (xb ub)) dX0_alter_35 rfl rfl ?_
      refine xr_get (pc := 36) κ xc0 (k := (xb ub)) (f := 2) (v := .ref (xb ub + 1)) kw_1_113 (xb_lt (j := 0) hub (by decide)) (wXb_obj _ _ hub) (by decide) rfl dX0_alter_36 ?_
      refine xr_iload (pc := 39) κ 5 (x := v5) dX0_alter_39 rfl ?_
      obtain ⟨i15, h⟩ := h
      refine xr_aald (pc := 41) κ (k := (xb ub + 1)) (n := 7) (j := xb ub + 2 + v5.toNatClampNeg) (xb_lt (j := 1) hub (by decide)) (xTX_out hub) rfl (wXb_out _ _ hub) i15 (if_pos (vp_lt i15)) dX0_alter_41 ?_
      refine xr_iload_n (pc := 42) κ 3 (x := v3) dX0_alter_42 rfl rfl ?_
      obtain ⟨i16, h⟩ := h
      refine xr_lald (pc := 43) κ (k := (xb ub + 2 + v5.toNatClampNeg)) (n := 7) (f := (b_cell (x_bal x ub)) v5.toNatClampNeg) (xb_row_lt hub (vp_lt i15)) (xTX_row hub (vp_lt i15)) (wXb_row _ _ hub (vp_lt i15)) i16 dX0_alter_43 ?_
      refine xr_lsub (pc := 44) κ dX0_alter_44 ?_
      obtain ⟨i17, h⟩ := h
      refine xr_last (pc := 45) κ (k := (xb tb + 10)) (n := 7) (f := b_spread (x_bal x tb)) (ω' := wX c (xsb x tb (bs_spread (x_bal x tb) (vp_updL (b_spread (x_bal x tb)) v5.toNatClampNeg (((b_cell (x_bal x ub)) v5.toNatClampNeg v2.toNatClampNeg) - ((b_cell (x_bal x ub)) v5.toNatClampNeg v3.toNatClampNeg)))))) (xb_lt (j := 10) htb (by decide)) (xTX_long (j := 10) htb (by decide) (by decide)) (wXb_spread _ _ htb) i17 (wXb_sspread _ _ htb _) dX0_alter_45 ?_
      refine xr_iinc (pc := 46) κ 5 [1, 2, 3, 4, 5, 0] (lv' := [(0, .ref (xb tb)), (1, .ref (xb ub)), (2, .int v2), (3, .int v3), (4, .int v4), (5, .int (v5 + 1))]) (x := v5) (v := v5 + 1) dX0_alter_46 rfl rfl (by decide) rfl ?_
      refine xr_goto (pc := 49) κ (tgt := 11) dX0_alter_49 (by decide) ?_
      exact ih _ _ _ _ _ _ h
def wp_X0_alter (tb : Nat) (ub : Nat) (a : Int32) (b : Int32) (mo : Int32) (c : CS) (x : XT) (K : Int32 → CS → XT → Prop) : Prop :=
    ∃ n11 : Nat, nd_X0_alter_11 tb ub K n11 a b mo (0 : Int32) c (xsb x tb (bs_knots (x_bal x tb) (b_knots (x_bal x ub))))
set_option maxHeartbeats 4000000 in
set_option maxRecDepth 100000 in
theorem snd_X0_alter {l : Launch} (tb : Nat) (ub : Nat) (htb : tb < 6) (hub : ub < 6) (hne : ub ≠ tb) (a : Int32) (b : Int32) (mo : Int32) (c : CS) (x : XT) (K : Int32 → CS → XT → Prop) (h : wp_X0_alter tb ub a b mo c x K) : XM l xTX yX0_alter cX0_alter 8 (some .boolean) 0 [.ref (xb tb), .ref (xb ub), .int a, .int b, .int mo] (wX c x) (fun v ω' => ∃ (r : Int32) (c' : CS) (t' : XT), v = some (.int r) ∧ ω' = wX c' t' ∧ K r c' t') := by
    refine XM.of (by decide) (Nat.le_of_ble_eq_true rfl) (fun κ hQ => ?_)
    show Wat κ 0 [(0, .ref (xb tb)), (1, .ref (xb ub)), (2, .int a), (3, .int b), (4, .int mo)] [] (wX c x)
    unfold wp_X0_alter at h
    refine xr_aload_n (pc := 0) κ 0 (x := (xb tb)) dX0_alter_0 rfl rfl ?_
    refine xr_aload_n (pc := 1) κ 1 (x := (xb ub)) dX0_alter_1 rfl rfl ?_
    refine xr_get (pc := 2) κ xc0 (k := (xb ub)) (f := 0) (v := .int (b_knots (x_bal x ub))) kw_1_109 (xb_lt (j := 0) hub (by decide)) (wXb_obj _ _ hub) (by decide) rfl dX0_alter_2 ?_
    refine xr_put (pc := 5) κ xc0 (k := (xb tb)) (f := 0) (v := .int (b_knots (x_bal x ub))) (ω' := wX c (xsb x tb (bs_knots (x_bal x tb) (b_knots (x_bal x ub))))) kw_1_109 (xb_lt (j := 0) htb (by decide)) (wXb_obj _ _ htb) (by decide) rfl (fun _ => rfl) (fun _ => rfl) (Nat.le_of_ble_eq_true rfl) (wXb_knots _ _ htb _) dX0_alter_5 ?_
    refine xr_iconst (pc := 8) κ (v := 0) dX0_alter_8 (by decide) ?_
    refine xr_istore (pc := 9) κ [1, 2, 3, 4, 5, 0] (lv' := [(0, .ref (xb tb)), (1, .ref (xb ub)), (2, .int a), (3, .int b), (4, .int mo), (5, .int (0 : Int32))]) dX0_alter_9 (by decide) rfl ?_
    obtain ⟨n0, h⟩ := h
    exact snd_X0_alter_11 κ tb ub htb hub hne K hQ n0 _ _ _ _ _ _ h
-- ChipVolts$Balance.alterCells(LChipVolts$Balance;I)V, level 0
def nd_X0_alterCells_23 (tb : Nat) (ub : Nat) (K : CS → XT → Prop) (L12 : Int32 → Int32 → CS → XT → Prop) : Nat → Int32 → Int32 → Int32 → CS → XT → Prop
  | 0 => fun _ _ _ _ _ => False
  | n + 1 => fun v2 v3 v4 c x =>
    ((b_knots (x_bal x tb)) ≤ v4 →
      L12 v2 (v3 + 1) c x) ∧
    (¬ (b_knots (x_bal x tb)) ≤ v4 →
      vp_in v3 7 ∧
      vp_in v4 7 ∧
      vp_in v3 7 ∧
      vp_in v3 7 ∧
      vp_in v4 7 ∧
      ¬ (b_below (x_bal x ub)) = 0 ∧
      vp_in v4 7 ∧
      nd_X0_alterCells_23 tb ub K L12 n v2 v3 (v4 + 1) c (xsb x tb (bs_cell (x_bal x tb) (upM (b_cell (x_bal x tb)) v3.toNatClampNeg v4.toNatClampNeg (((((b_cell (x_bal x ub)) v3.toNatClampNeg v4.toNatClampNeg) * (b_below (x_bal x tb))) - (((Int32.toInt64 v2) * (b_spread (x_bal x tb) v3.toNatClampNeg)) * (b_spread (x_bal x tb) v4.toNatClampNeg))) / (b_below (x_bal x ub)))))))
set_option maxHeartbeats 4000000 in
set_option maxRecDepth 100000 in
theorem snd_X0_alterCells_23 {l : Launch} (κ : XC l xTX cX0_alterCells yX0_alterCells.cls 7 (none) 0) (tb : Nat) (ub : Nat) (htb : tb < 6) (hub : ub < 6) (hne : ub ≠ tb) (K : CS → XT → Prop) (hQ : xRet κ (fun v ω' => ∃ (c' : CS) (t' : XT), v = none ∧ ω' = wX c' t' ∧ K c' t')) (L12 : Int32 → Int32 → CS → XT → Prop) (hL12 : ∀ (v2 : Int32) (v3 : Int32) (c : CS) (x : XT), L12 v2 v3 c x → Wat κ 12 [(0, .ref (xb tb)), (1, .ref (xb ub)), (2, .int v2), (3, .int v3)] [] (wX c x)) : ∀ (n : Nat) (v2 : Int32) (v3 : Int32) (v4 : Int32) (c : CS) (x : XT), nd_X0_alterCells_23 tb ub K L12 n v2 v3 v4 c x → Wat κ 23 [(0, .ref (xb tb)), (1, .ref (xb ub)), (2, .int v2), (3, .int v3), (4, .int v4)] [] (wX c x) := by
  intro n
  induction n with
  | zero => intro v2 v3 v4 c x h; exact h.elim
  | succ n ih =>
    intro v2 v3 v4 c x h
    unfold nd_X0_alterCells_23 at h
    refine xr_iload (pc := 23) κ 4 (x := v4) dX0_alterCells_23 rfl ?_
    refine xr_aload_n (pc := 25) κ 0 (x := (xb tb)) dX0_alterCells_25 rfl rfl ?_
    refine xr_get (pc := 26) κ xc0 (k := (xb tb)) (f := 0) (v := .int (b_knots (x_bal x tb))) kw_1_109 (xb_lt (j := 0) htb (by decide)) (wXb_obj _ _ htb) (by decide) rfl dX0_alterCells_26 ?_
    refine xr_icmp_ge (pc := 29) κ (tgt := 88) dX0_alterCells_29 (by decide) (fun c3 => ?_) (fun c3 => ?_)
    · have h := h.1 c3
      refine xr_iinc (pc := 88) κ 3 [1, 2, 3, 0, 4] (lv' := [(0, .ref (xb tb)), (1, .ref (xb ub)), (2, .int v2), (3, .int (v3 + 1)), (4, .int v4)]) (x := v3) (v := v3 + 1) dX0_alterCells_88 rfl rfl (by decide) rfl ?_
      refine xr_goto (pc := 91) κ (tgt := 12) dX0_alterCells_91 (by decide) ?_
      refine xr_sub (pc := 12) κ [0, 1, 2, 3] (lv' := [(0, .ref (xb tb)), (1, .ref (xb ub)), (2, .int v2), (3, .int (v3 + 1))]) rfl ?_
      exact hL12 _ _ _ _ h
    · have h := h.2 c3
      refine xr_iload_n (pc := 32) κ 2 (x := v2) dX0_alterCells_32 rfl rfl ?_
      refine xr_i2l (pc := 33) κ dX0_alterCells_33 ?_
      refine xr_aload_n (pc := 34) κ 0 (x := (xb tb)) dX0_alterCells_34 rfl rfl ?_
      refine xr_get (pc := 35) κ xc0 (k := (xb tb)) (f := 4) (v := .ref (xb tb + 10)) kw_1_119 (xb_lt (j := 0) htb (by decide)) (wXb_obj _ _ htb) (by decide) rfl dX0_alterCells_35 ?_
      refine xr_iload_n (pc := 38) κ 3 (x := v3) dX0_alterCells_38 rfl rfl ?_
      obtain ⟨i4, h⟩ := h
      refine xr_lald (pc := 39) κ (k := (xb tb + 10)) (n := 7) (f := b_spread (x_bal x tb)) (xb_lt (j := 10) htb (by decide)) (xTX_long (j := 10) htb (by decide) (by decide)) (wXb_spread _ _ htb) i4 dX0_alterCells_39 ?_
      refine xr_lmul (pc := 40) κ dX0_alterCells_40 ?_
      refine xr_aload_n (pc := 41) κ 0 (x := (xb tb)) dX0_alterCells_41 rfl rfl ?_
      refine xr_get (pc := 42) κ xc0 (k := (xb tb)) (f := 4) (v := .ref (xb tb + 10)) kw_1_119 (xb_lt (j := 0) htb (by decide)) (wXb_obj _ _ htb) (by decide) rfl dX0_alterCells_42 ?_
      refine xr_iload (pc := 45) κ 4 (x := v4) dX0_alterCells_45 rfl ?_
      obtain ⟨i5, h⟩ := h
      refine xr_lald (pc := 47) κ (k := (xb tb + 10)) (n := 7) (f := b_spread (x_bal x tb)) (xb_lt (j := 10) htb (by decide)) (xTX_long (j := 10) htb (by decide) (by decide)) (wXb_spread _ _ htb) i5 dX0_alterCells_47 ?_
      refine xr_lmul (pc := 48) κ dX0_alterCells_48 ?_
      refine xr_lstore (pc := 49) κ [1, 2, 3, 4, 5, 0] (lv' := [(0, .ref (xb tb)), (1, .ref (xb ub)), (2, .int v2), (3, .int v3), (4, .int v4), (5, .long (((Int32.toInt64 v2) * (b_spread (x_bal x tb) v3.toNatClampNeg)) * (b_spread (x_bal x tb) v4.toNatClampNeg)))]) dX0_alterCells_49 (by decide) rfl ?_
      refine xr_aload_n (pc := 51) κ 0 (x := (xb tb)) dX0_alterCells_51 rfl rfl ?_
      refine xr_get (pc := 52) κ xc0 (k := (xb tb)) (f := 2) (v := .ref (xb tb + 1)) kw_1_113 (xb_lt (j := 0) htb (by decide)) (wXb_obj _ _ htb) (by decide) rfl dX0_alterCells_52 ?_
      refine xr_iload_n (pc := 55) κ 3 (x := v3) dX0_alterCells_55 rfl rfl ?_
      obtain ⟨i6, h⟩ := h
      refine xr_aald (pc := 56) κ (k := (xb tb + 1)) (n := 7) (j := xb tb + 2 + v3.toNatClampNeg) (xb_lt (j := 1) htb (by decide)) (xTX_out htb) rfl (wXb_out _ _ htb) i6 (if_pos (vp_lt i6)) dX0_alterCells_56 ?_
      refine xr_iload (pc := 57) κ 4 (x := v4) dX0_alterCells_57 rfl ?_
      refine xr_aload_n (pc := 59) κ 1 (x := (xb ub)) dX0_alterCells_59 rfl rfl ?_
      refine xr_get (pc := 60) κ xc0 (k := (xb ub)) (f := 2) (v := .ref (xb ub + 1)) kw_1_113 (xb_lt (j := 0) hub (by decide)) (wXb_obj _ _ hub) (by decide) rfl dX0_alterCells_60 ?_
      refine xr_iload_n (pc := 63) κ 3 (x := v3) dX0_alterCells_63 rfl rfl ?_
      obtain ⟨i7, h⟩ := h
      refine xr_aald (pc := 64) κ (k := (xb ub + 1)) (n := 7) (j := xb ub + 2 + v3.toNatClampNeg) (xb_lt (j := 1) hub (by decide)) (xTX_out hub) rfl (wXb_out _ _ hub) i7 (if_pos (vp_lt i7)) dX0_alterCells_64 ?_
      refine xr_iload (pc := 65) κ 4 (x := v4) dX0_alterCells_65 rfl ?_
      obtain ⟨i8, h⟩ := h
      refine xr_lald (pc := 67) κ (k := (xb ub + 2 + v3.toNatClampNeg)) (n := 7) (f := (b_cell (x_bal x ub)) v3.toNatClampNeg) (xb_row_lt hub (vp_lt i7)) (xTX_row hub (vp_lt i7)) (wXb_row _ _ hub (vp_lt i7)) i8 dX0_alterCells_67 ?_
      refine xr_aload_n (pc := 68) κ 0 (x := (xb tb)) dX0_alterCells_68 rfl rfl ?_
      refine xr_get (pc := 69) κ xc0 (k := (xb tb)) (f := 1) (v := .long (b_below (x_bal x tb))) kw_1_111 (xb_lt (j := 0) htb (by decide)) (wXb_obj _ _ htb) (by decide) rfl dX0_alterCells_69 ?_
      refine xr_lmul (pc := 72) κ dX0_alterCells_72 ?_
      refine xr_lload (pc := 73) κ 5 (x := (((Int32.toInt64 v2) * (b_spread (x_bal x tb) v3.toNatClampNeg)) * (b_spread (x_bal x tb) v4.toNatClampNeg))) dX0_alterCells_73 rfl ?_
      refine xr_lsub (pc := 75) κ dX0_alterCells_75 ?_
      refine xr_aload_n (pc := 76) κ 1 (x := (xb ub)) dX0_alterCells_76 rfl rfl ?_
      refine xr_get (pc := 77) κ xc0 (k := (xb ub)) (f := 1) (v := .long (b_below (x_bal x ub))) kw_1_111 (xb_lt (j := 0) hub (by decide)) (wXb_obj _ _ hub) (by decide) rfl dX0_alterCells_77 ?_
      obtain ⟨i9, h⟩ := h
      refine xr_ldiv (pc := 80) κ i9 dX0_alterCells_80 ?_
      obtain ⟨i10, h⟩ := h
      refine xr_last (pc := 81) κ (k := (xb tb + 2 + v3.toNatClampNeg)) (n := 7) (f := (b_cell (x_bal x tb)) v3.toNatClampNeg) (ω' := wX c (xsb x tb (bs_cell (x_bal x tb) (upM (b_cell (x_bal x tb)) v3.toNatClampNeg v4.toNatClampNeg (((((b_cell (x_bal x ub)) v3.toNatClampNeg v4.toNatClampNeg) * (b_below (x_bal x tb))) - (((Int32.toInt64 v2) * (b_spread (x_bal x tb) v3.toNatClampNeg)) * (b_spread (x_bal x tb) v4.toNatClampNeg))) / (b_below (x_bal x ub))))))) (xb_row_lt htb (vp_lt i7)) (xTX_row htb (vp_lt i7)) (wXb_row _ _ htb (vp_lt i7)) i10 (wXb_srow _ _ htb (vp_lt i7) _ _) dX0_alterCells_81 ?_
      refine xr_iinc (pc := 82) κ 4 [1, 2, 3, 4, 0, 5] (lv' := [(0, .ref (xb tb)), (1, .ref (xb ub)), (2, .int v2), (3, .int v3), (4, .int (v4 + 1)), (5, .long (((Int32.toInt64 v2) * (b_spread (x_bal x tb) v3.toNatClampNeg)) * (b_spread (x_bal x tb) v4.toNatClampNeg)))]) (x := v4) (v := v4 + 1) dX0_alterCells_82 rfl rfl (by decide) rfl ?_
      refine xr_goto (pc := 85) κ (tgt := 23) dX0_alterCells_85 (by decide) ?_
      refine xr_sub (pc := 23) κ [0, 1, 2, 3, 4] (lv' := [(0, .ref (xb tb)), (1, .ref (xb ub)), (2, .int v2), (3, .int v3), (4, .int (v4 + 1))]) rfl ?_
      exact ih _ _ _ _ _ h
def nd_X0_alterCells_12 (tb : Nat) (ub : Nat) (K : CS → XT → Prop) : Nat → Int32 → Int32 → CS → XT → Prop
  | 0 => fun _ _ _ _ => False
  | n + 1 => fun v2 v3 c x =>
    ((b_knots (x_bal x tb)) ≤ v3 →
      K c x) ∧
    (¬ (b_knots (x_bal x tb)) ≤ v3 →
      ∃ n23 : Nat, nd_X0_alterCells_23 tb ub K (fun v2 v3 c x => nd_X0_alterCells_12 tb ub K n v2 v3 c x) n23 v2 v3 (0 : Int32) c x)
set_option maxHeartbeats 4000000 in
set_option maxRecDepth 100000 in
theorem snd_X0_alterCells_12 {l : Launch} (κ : XC l xTX cX0_alterCells yX0_alterCells.cls 7 (none) 0) (tb : Nat) (ub : Nat) (htb : tb < 6) (hub : ub < 6) (hne : ub ≠ tb) (K : CS → XT → Prop) (hQ : xRet κ (fun v ω' => ∃ (c' : CS) (t' : XT), v = none ∧ ω' = wX c' t' ∧ K c' t')) : ∀ (n : Nat) (v2 : Int32) (v3 : Int32) (c : CS) (x : XT), nd_X0_alterCells_12 tb ub K n v2 v3 c x → Wat κ 12 [(0, .ref (xb tb)), (1, .ref (xb ub)), (2, .int v2), (3, .int v3)] [] (wX c x) := by
  intro n
  induction n with
  | zero => intro v2 v3 c x h; exact h.elim
  | succ n ih =>
    intro v2 v3 c x h
    unfold nd_X0_alterCells_12 at h
    refine xr_iload_n (pc := 12) κ 3 (x := v3) dX0_alterCells_12 rfl rfl ?_
    refine xr_aload_n (pc := 13) κ 0 (x := (xb tb)) dX0_alterCells_13 rfl rfl ?_
    refine xr_get (pc := 14) κ xc0 (k := (xb tb)) (f := 0) (v := .int (b_knots (x_bal x tb))) kw_1_109 (xb_lt (j := 0) htb (by decide)) (wXb_obj _ _ htb) (by decide) rfl dX0_alterCells_14 ?_
    refine xr_icmp_ge (pc := 17) κ (tgt := 94) dX0_alterCells_17 (by decide) (fun c2 => ?_) (fun c2 => ?_)
    · have h := h.1 c2
      exact xr_vret (pc := 94) κ _ hQ dX0_alterCells_94 ⟨_, _, rfl, rfl, h⟩
    · have h := h.2 c2
      refine xr_iconst (pc := 20) κ (v := 0) dX0_alterCells_20 (by decide) ?_
      refine xr_istore (pc := 21) κ [1, 2, 3, 4, 0] (lv' := [(0, .ref (xb tb)), (1, .ref (xb ub)), (2, .int v2), (3, .int v3), (4, .int (0 : Int32))]) dX0_alterCells_21 (by decide) rfl ?_
      obtain ⟨n0, h⟩ := h
      exact snd_X0_alterCells_23 κ tb ub htb hub hne K hQ _ ih n0 _ _ _ _ _ h
def wp_X0_alterCells (tb : Nat) (ub : Nat) (mo : Int32) (c : CS) (x : XT) (K : CS → XT → Prop) : Prop :=
    ((0 : Int64) < (b_below (x_bal x ub)) →
      ∃ n12 : Nat, nd_X0_alterCells_12 tb ub K n12 mo (0 : Int32) c x) ∧
    (¬ (0 : Int64) < (b_below (x_bal x ub)) →
      K c x)
set_option maxHeartbeats 4000000 in
set_option maxRecDepth 100000 in
theorem snd_X0_alterCells {l : Launch} (tb : Nat) (ub : Nat) (htb : tb < 6) (hub : ub < 6) (hne : ub ≠ tb) (mo : Int32) (c : CS) (x : XT) (K : CS → XT → Prop) (h : wp_X0_alterCells tb ub mo c x K) : XM l xTX yX0_alterCells cX0_alterCells 7 (none) 0 [.ref (xb tb), .ref (xb ub), .int mo] (wX c x) (fun v ω' => ∃ (c' : CS) (t' : XT), v = none ∧ ω' = wX c' t' ∧ K c' t') := by
    refine XM.of (by decide) (Nat.le_of_ble_eq_true rfl) (fun κ hQ => ?_)
    show Wat κ 0 [(0, .ref (xb tb)), (1, .ref (xb ub)), (2, .int mo)] [] (wX c x)
    unfold wp_X0_alterCells at h
    refine xr_aload_n (pc := 0) κ 1 (x := (xb ub)) dX0_alterCells_0 rfl rfl ?_
    refine xr_get (pc := 1) κ xc0 (k := (xb ub)) (f := 1) (v := .long (b_below (x_bal x ub))) kw_1_111 (xb_lt (j := 0) hub (by decide)) (wXb_obj _ _ hub) (by decide) rfl dX0_alterCells_1 ?_
    refine xr_lconst (pc := 4) κ (v := 0) dX0_alterCells_4 (by decide) ?_
    refine xr_lcmp_gt (pc := 5) κ (tgt := 10) dX0_alterCells_5 dX0_alterCells_6 (by decide) (fun c1 => ?_) (fun c1 => ?_)
    · have h := h.1 c1
      refine xr_iconst (pc := 10) κ (v := 0) dX0_alterCells_10 (by decide) ?_
      refine xr_istore_n (pc := 11) κ [1, 2, 3, 0] (lv' := [(0, .ref (xb tb)), (1, .ref (xb ub)), (2, .int mo), (3, .int (0 : Int32))]) dX0_alterCells_11 rfl (by decide) rfl ?_
      obtain ⟨n0, h⟩ := h
      exact snd_X0_alterCells_12 κ tb ub htb hub hne K hQ n0 _ _ _ _ h
    · have h := h.2 c1
      exact xr_vret (pc := 9) κ _ hQ dX0_alterCells_9 ⟨_, _, rfl, rfl, h⟩
-- ChipVolts$Waking.weighAwake(LChipVolts$Balance;LChipVolts$Blocks;I)V, level 1
def nd_X3_weighAwake_65 (K : CS → XT → Prop) (L3 : Int32 → Int32 → CS → XT → Prop) (L18 : Int32 → Int32 → Int64 → Int32 → CS → XT → Prop) (v3 : Int32) (v4 : Int32) (v5 : Int64) (v7 : Int32) (c : CS) (x : XT) : Prop :=
    L18 v3 v4 v5 (v7 + 1) c x
set_option maxHeartbeats 4000000 in
set_option maxRecDepth 100000 in
theorem snd_X3_weighAwake_65 {l : Launch} (κ : XC l xTX cX3_weighAwake yX3_weighAwake.cls 8 (none) 1) (K : CS → XT → Prop) (hQ : xRet κ (fun v ω' => ∃ (c' : CS) (t' : XT), v = none ∧ ω' = wX c' t' ∧ K c' t')) (L3 : Int32 → Int32 → CS → XT → Prop) (L18 : Int32 → Int32 → Int64 → Int32 → CS → XT → Prop) (hL3 : ∀ (v3 : Int32) (v4 : Int32) (c : CS) (x : XT), L3 v3 v4 c x → Wat κ 3 [(0, .ref 81), (1, .ref (xb 0)), (2, .ref 7), (3, .int v3), (4, .int v4)] [] (wX c x)) (hL18 : ∀ (v3 : Int32) (v4 : Int32) (v5 : Int64) (v7 : Int32) (c : CS) (x : XT), L18 v3 v4 v5 v7 c x → Wat κ 18 [(0, .ref 81), (1, .ref (xb 0)), (2, .ref 7), (3, .int v3), (4, .int v4), (5, .long v5), (7, .int v7)] [] (wX c x)) (v3 : Int32) (v4 : Int32) (v5 : Int64) (v7 : Int32) (c : CS) (x : XT) (h : nd_X3_weighAwake_65 K L3 L18 v3 v4 v5 v7 c x) : Wat κ 65 [(0, .ref 81), (1, .ref (xb 0)), (2, .ref 7), (3, .int v3), (4, .int v4), (5, .long v5), (7, .int v7)] [] (wX c x) := by
    unfold nd_X3_weighAwake_65 at h
    refine xr_iinc (pc := 65) κ 6 [1, 2, 3, 4, 5, 6, 0] (lv' := [(0, .ref 81), (1, .ref (xb 0)), (2, .ref 7), (3, .int v3), (4, .int v4), (5, .long v5), (7, .int (v7 + 1))]) (x := v7) (v := v7 + 1) dX3_weighAwake_65 rfl rfl (by decide) rfl ?_
    refine xr_goto (pc := 68) κ (tgt := 18) dX3_weighAwake_68 (by decide) ?_
    exact hL18 _ _ _ _ _ _ h
def nd_X3_weighAwake_18 (K : CS → XT → Prop) (L3 : Int32 → Int32 → CS → XT → Prop) : Nat → Int32 → Int32 → Int64 → Int32 → CS → XT → Prop
  | 0 => fun _ _ _ _ _ _ => False
  | n + 1 => fun v3 v4 v5 v7 c x =>
    ((c_nb c) ≤ v7 →
      vp_in v4 7 ∧
      L3 v3 (v4 + 1) c (xs_awake x (vp_updL (x_awake x) v4.toNatClampNeg v5))) ∧
    (¬ (c_nb c) ≤ v7 →
      wp_X5_has v3 v7 (fun r4 =>
        (r4 = 0 →
          nd_X3_weighAwake_65 K L3 (fun v3 v4 v5 v7 c x => nd_X3_weighAwake_18 K L3 n v3 v4 v5 v7 c x) v3 v4 v5 v7 c x) ∧
        (¬ r4 = 0 →
          vp_in v4 7 ∧
          vp_in v7 6 ∧
          vp_in (c_sits c v7.toNatClampNeg) 7 ∧
          vp_in v7 6 ∧
          nd_X3_weighAwake_65 K L3 (fun v3 v4 v5 v7 c x => nd_X3_weighAwake_18 K L3 n v3 v4 v5 v7 c x) v3 v4 (v5 + (((b_cell (x_bal x 0)) v4.toNatClampNeg (((c_sits c v7.toNatClampNeg)).toNatClampNeg)) * (Int32.toInt64 (c_most c v7.toNatClampNeg)))) v7 c x)))
set_option maxHeartbeats 4000000 in
set_option maxRecDepth 100000 in
theorem snd_X3_weighAwake_18 {l : Launch} (κ : XC l xTX cX3_weighAwake yX3_weighAwake.cls 8 (none) 1) (K : CS → XT → Prop) (hQ : xRet κ (fun v ω' => ∃ (c' : CS) (t' : XT), v = none ∧ ω' = wX c' t' ∧ K c' t')) (L3 : Int32 → Int32 → CS → XT → Prop) (hL3 : ∀ (v3 : Int32) (v4 : Int32) (c : CS) (x : XT), L3 v3 v4 c x → Wat κ 3 [(0, .ref 81), (1, .ref (xb 0)), (2, .ref 7), (3, .int v3), (4, .int v4)] [] (wX c x)) : ∀ (n : Nat) (v3 : Int32) (v4 : Int32) (v5 : Int64) (v7 : Int32) (c : CS) (x : XT), nd_X3_weighAwake_18 K L3 n v3 v4 v5 v7 c x → Wat κ 18 [(0, .ref 81), (1, .ref (xb 0)), (2, .ref 7), (3, .int v3), (4, .int v4), (5, .long v5), (7, .int v7)] [] (wX c x) := by
  intro n
  induction n with
  | zero => intro v3 v4 v5 v7 c x h; exact h.elim
  | succ n ih =>
    intro v3 v4 v5 v7 c x h
    unfold nd_X3_weighAwake_18 at h
    refine xr_iload (pc := 18) κ 6 (x := v7) dX3_weighAwake_18 rfl ?_
    refine xr_aload_n (pc := 20) κ 2 (x := 7) dX3_weighAwake_20 rfl rfl ?_
    refine xr_getN (pc := 21) κ xc1 (k := 7) (f := 0) (v := .int (c_nb c)) kw_1_78 (by decide) rfl (by decide) rfl dX3_weighAwake_21 ?_
    refine xr_icmp_ge (pc := 24) κ (tgt := 71) dX3_weighAwake_24 (by decide) (fun c2 => ?_) (fun c2 => ?_)
    · have h := h.1 c2
      refine xr_aload_n (pc := 71) κ 0 (x := 81) dX3_weighAwake_71 rfl rfl ?_
      refine xr_get (pc := 72) κ xc3 (k := 81) (f := 1) (v := .ref 83) kw_1_172 (by decide) rfl (by decide) rfl dX3_weighAwake_72 ?_
      refine xr_iload (pc := 75) κ 4 (x := v4) dX3_weighAwake_75 rfl ?_
      refine xr_lload (pc := 77) κ 5 (x := v5) dX3_weighAwake_77 rfl ?_
      obtain ⟨i3, h⟩ := h
      refine xr_last (pc := 79) κ (k := 83) (n := 7) (f := x_awake x) (ω' := wX c (xs_awake x (vp_updL (x_awake x) v4.toNatClampNeg v5))) (by decide) rfl rfl i3 (wXa_awake _ _ _) dX3_weighAwake_79 ?_
      refine xr_iinc (pc := 80) κ 4 [1, 2, 3, 4, 0, 5, 6] (lv' := [(0, .ref 81), (1, .ref (xb 0)), (2, .ref 7), (3, .int v3), (4, .int (v4 + 1)), (5, .long v5), (7, .int v7)]) (x := v4) (v := v4 + 1) dX3_weighAwake_80 rfl rfl (by decide) rfl ?_
      refine xr_goto (pc := 83) κ (tgt := 3) dX3_weighAwake_83 (by decide) ?_
      refine xr_sub (pc := 3) κ [0, 1, 2, 3, 4] (lv' := [(0, .ref 81), (1, .ref (xb 0)), (2, .ref 7), (3, .int v3), (4, .int (v4 + 1))]) rfl ?_
      exact hL3 _ _ _ _ h
    · have h := h.2 c2
      refine xr_iload_n (pc := 27) κ 3 (x := v3) dX3_weighAwake_27 rfl rfl ?_
      refine xr_iload (pc := 28) κ 6 (x := v7) dX3_weighAwake_28 rfl ?_
      refine xr_callSN (pc := 30) κ [.int v3, .int v7] kw_2_222 tg_X5_has (snd_X5_has _ _ _ h) rfl (by decide) (by decide) (Nat.le_of_ble_eq_true rfl) dX3_weighAwake_30 (fun v9 ω9 hk9 => ?_)
      obtain ⟨r4, rfl, e9, h⟩ := hk9
      rw [e9]
      show Wat κ 33 [(0, .ref 81), (1, .ref (xb 0)), (2, .ref 7), (3, .int v3), (4, .int v4), (5, .long v5), (7, .int v7)] [.int r4] (wX c x)
      refine xr_if_eq (pc := 33) κ (tgt := 65) dX3_weighAwake_33 (by decide) (fun c5 => ?_) (fun c5 => ?_)
      · have h := h.1 c5
        exact snd_X3_weighAwake_65 κ K hQ _ _ hL3 ih _ _ _ _ _ _ h
      · have h := h.2 c5
        refine xr_lload (pc := 36) κ 5 (x := v5) dX3_weighAwake_36 rfl ?_
        refine xr_aload_n (pc := 38) κ 1 (x := (xb 0)) dX3_weighAwake_38 rfl rfl ?_
        refine xr_getN (pc := 39) κ xc0 (k := (xb 0)) (f := 2) (v := .ref (xb 0 + 1)) kw_1_114 (xb_lt (j := 0) (by decide) (by decide)) (wXb_obj _ _ (by decide)) (by decide) rfl dX3_weighAwake_39 ?_
        refine xr_iload (pc := 42) κ 4 (x := v4) dX3_weighAwake_42 rfl ?_
        obtain ⟨i6, h⟩ := h
        refine xr_aald (pc := 44) κ (k := (xb 0 + 1)) (n := 7) (j := xb 0 + 2 + v4.toNatClampNeg) (xb_lt (j := 1) (by decide) (by decide)) (xTX_out (by decide)) rfl (wXb_out _ _ (by decide)) i6 (if_pos (vp_lt i6)) dX3_weighAwake_44 ?_
        refine xr_aload_n (pc := 45) κ 2 (x := 7) dX3_weighAwake_45 rfl rfl ?_
        refine xr_getN (pc := 46) κ xc1 (k := 7) (f := 2) (v := .ref 8) kw_1_83 (by decide) rfl (by decide) rfl dX3_weighAwake_46 ?_
        refine xr_iload (pc := 49) κ 6 (x := v7) dX3_weighAwake_49 rfl ?_
        obtain ⟨i7, h⟩ := h
        refine xr_iald (pc := 51) κ (k := 8) (n := 6) (f := c_sits c) (by decide) rfl rfl i7 dX3_weighAwake_51 ?_
        obtain ⟨i8, h⟩ := h
        refine xr_lald (pc := 52) κ (k := (xb 0 + 2 + v4.toNatClampNeg)) (n := 7) (f := (b_cell (x_bal x 0)) v4.toNatClampNeg) (xb_row_lt (by decide) (vp_lt i6)) (xTX_row (by decide) (vp_lt i6)) (wXb_row _ _ (by decide) (vp_lt i6)) i8 dX3_weighAwake_52 ?_
        refine xr_aload_n (pc := 53) κ 2 (x := 7) dX3_weighAwake_53 rfl rfl ?_
        refine xr_getN (pc := 54) κ xc1 (k := 7) (f := 3) (v := .ref 9) kw_1_86 (by decide) rfl (by decide) rfl dX3_weighAwake_54 ?_
        refine xr_iload (pc := 57) κ 6 (x := v7) dX3_weighAwake_57 rfl ?_
        obtain ⟨i9, h⟩ := h
        refine xr_iald (pc := 59) κ (k := 9) (n := 6) (f := c_most c) (by decide) rfl rfl i9 dX3_weighAwake_59 ?_
        refine xr_i2l (pc := 60) κ dX3_weighAwake_60 ?_
        refine xr_lmul (pc := 61) κ dX3_weighAwake_61 ?_
        refine xr_ladd (pc := 62) κ dX3_weighAwake_62 ?_
        refine xr_lstore (pc := 63) κ [1, 2, 3, 4, 5, 0, 6] (lv' := [(0, .ref 81), (1, .ref (xb 0)), (2, .ref 7), (3, .int v3), (4, .int v4), (5, .long (v5 + (((b_cell (x_bal x 0)) v4.toNatClampNeg (((c_sits c v7.toNatClampNeg)).toNatClampNeg)) * (Int32.toInt64 (c_most c v7.toNatClampNeg))))), (7, .int v7)]) dX3_weighAwake_63 (by decide) rfl ?_
        exact snd_X3_weighAwake_65 κ K hQ _ _ hL3 ih _ _ _ _ _ _ h
def nd_X3_weighAwake_3 (K : CS → XT → Prop) : Nat → Int32 → Int32 → CS → XT → Prop
  | 0 => fun _ _ _ _ => False
  | n + 1 => fun v3 v4 c x =>
    ((b_knots (x_bal x 0)) ≤ v4 →
      K c x) ∧
    (¬ (b_knots (x_bal x 0)) ≤ v4 →
      ∃ n18 : Nat, nd_X3_weighAwake_18 K (fun v3 v4 c x => nd_X3_weighAwake_3 K n v3 v4 c x) n18 v3 v4 (0 : Int64) (0 : Int32) c x)
set_option maxHeartbeats 4000000 in
set_option maxRecDepth 100000 in
theorem snd_X3_weighAwake_3 {l : Launch} (κ : XC l xTX cX3_weighAwake yX3_weighAwake.cls 8 (none) 1) (K : CS → XT → Prop) (hQ : xRet κ (fun v ω' => ∃ (c' : CS) (t' : XT), v = none ∧ ω' = wX c' t' ∧ K c' t')) : ∀ (n : Nat) (v3 : Int32) (v4 : Int32) (c : CS) (x : XT), nd_X3_weighAwake_3 K n v3 v4 c x → Wat κ 3 [(0, .ref 81), (1, .ref (xb 0)), (2, .ref 7), (3, .int v3), (4, .int v4)] [] (wX c x) := by
  intro n
  induction n with
  | zero => intro v3 v4 c x h; exact h.elim
  | succ n ih =>
    intro v3 v4 c x h
    unfold nd_X3_weighAwake_3 at h
    refine xr_iload (pc := 3) κ 4 (x := v4) dX3_weighAwake_3 rfl ?_
    refine xr_aload_n (pc := 5) κ 1 (x := (xb 0)) dX3_weighAwake_5 rfl rfl ?_
    refine xr_getN (pc := 6) κ xc0 (k := (xb 0)) (f := 0) (v := .int (b_knots (x_bal x 0))) kw_1_110 (xb_lt (j := 0) (by decide) (by decide)) (wXb_obj _ _ (by decide)) (by decide) rfl dX3_weighAwake_6 ?_
    refine xr_icmp_ge (pc := 9) κ (tgt := 86) dX3_weighAwake_9 (by decide) (fun c1 => ?_) (fun c1 => ?_)
    · have h := h.1 c1
      exact xr_vret (pc := 86) κ _ hQ dX3_weighAwake_86 ⟨_, _, rfl, rfl, h⟩
    · have h := h.2 c1
      refine xr_lconst (pc := 12) κ (v := 0) dX3_weighAwake_12 (by decide) ?_
      refine xr_lstore (pc := 13) κ [1, 2, 3, 4, 5, 0] (lv' := [(0, .ref 81), (1, .ref (xb 0)), (2, .ref 7), (3, .int v3), (4, .int v4), (5, .long (0 : Int64))]) dX3_weighAwake_13 (by decide) rfl ?_
      refine xr_iconst (pc := 15) κ (v := 0) dX3_weighAwake_15 (by decide) ?_
      refine xr_istore (pc := 16) κ [1, 2, 3, 4, 5, 6, 0] (lv' := [(0, .ref 81), (1, .ref (xb 0)), (2, .ref 7), (3, .int v3), (4, .int v4), (5, .long (0 : Int64)), (7, .int (0 : Int32))]) dX3_weighAwake_16 (by decide) rfl ?_
      obtain ⟨n0, h⟩ := h
      exact snd_X3_weighAwake_18 κ K hQ _ ih n0 _ _ _ _ _ _ h
def wp_X3_weighAwake (set : Int32) (c : CS) (x : XT) (K : CS → XT → Prop) : Prop :=
    ∃ n3 : Nat, nd_X3_weighAwake_3 K n3 set (0 : Int32) c x
set_option maxHeartbeats 4000000 in
set_option maxRecDepth 100000 in
theorem snd_X3_weighAwake {l : Launch} (set : Int32) (c : CS) (x : XT) (K : CS → XT → Prop) (h : wp_X3_weighAwake set c x K) : XM l xTX yX3_weighAwake cX3_weighAwake 8 (none) 1 [.ref 81, .ref (xb 0), .ref 7, .int set] (wX c x) (fun v ω' => ∃ (c' : CS) (t' : XT), v = none ∧ ω' = wX c' t' ∧ K c' t') := by
    refine XM.of (by decide) (Nat.le_of_ble_eq_true rfl) (fun κ hQ => ?_)
    show Wat κ 0 [(0, .ref 81), (1, .ref (xb 0)), (2, .ref 7), (3, .int set)] [] (wX c x)
    unfold wp_X3_weighAwake at h
    refine xr_iconst (pc := 0) κ (v := 0) dX3_weighAwake_0 (by decide) ?_
    refine xr_istore (pc := 1) κ [1, 2, 3, 4, 0] (lv' := [(0, .ref 81), (1, .ref (xb 0)), (2, .ref 7), (3, .int set), (4, .int (0 : Int32))]) dX3_weighAwake_1 (by decide) rfl ?_
    obtain ⟨n0, h⟩ := h
    exact snd_X3_weighAwake_3 κ K hQ n0 _ _ _ _ h
-- ChipVolts$Waking.peakOf(LChipVolts$Balance;LChipVolts$Blocks;I)J, level 1
def nd_X3_peakOf_17 (K : Int64 → CS → XT → Prop) : Nat → Int32 → Int64 → Int64 → Int32 → CS → XT → Prop
  | 0 => fun _ _ _ _ _ _ => False
  | n + 1 => fun v3 v4 v6 v8 c x =>
    ((b_knots (x_bal x 0)) ≤ v8 →
      K v6 c x) ∧
    (¬ (b_knots (x_bal x 0)) ≤ v8 →
      vp_in v8 7 ∧
      vp_in v8 7 ∧
      vp_in v3 6 ∧
      vp_in (c_sits c v3.toNatClampNeg) 7 ∧
      nd_X3_peakOf_17 K n v3 v4 (if ((x_awake x v8.toNatClampNeg) + (((b_cell (x_bal x 0)) v8.toNatClampNeg (((c_sits c v3.toNatClampNeg)).toNatClampNeg)) * v4)) < v6 then v6 else ((x_awake x v8.toNatClampNeg) + (((b_cell (x_bal x 0)) v8.toNatClampNeg (((c_sits c v3.toNatClampNeg)).toNatClampNeg)) * v4))) (v8 + 1) c x)
set_option maxHeartbeats 4000000 in
set_option maxRecDepth 100000 in
theorem snd_X3_peakOf_17 {l : Launch} (κ : XC l xTX cX3_peakOf yX3_peakOf.cls 9 (some .long) 1) (K : Int64 → CS → XT → Prop) (hQ : xRet κ (fun v ω' => ∃ (r : Int64) (c' : CS) (t' : XT), v = some (.long r) ∧ ω' = wX c' t' ∧ K r c' t')) : ∀ (n : Nat) (v3 : Int32) (v4 : Int64) (v6 : Int64) (v8 : Int32) (c : CS) (x : XT), nd_X3_peakOf_17 K n v3 v4 v6 v8 c x → Wat κ 17 [(0, .ref 81), (1, .ref (xb 0)), (2, .ref 7), (3, .int v3), (4, .long v4), (6, .long v6), (8, .int v8)] [] (wX c x) := by
  intro n
  induction n with
  | zero => intro v3 v4 v6 v8 c x h; exact h.elim
  | succ n ih =>
    intro v3 v4 v6 v8 c x h
    unfold nd_X3_peakOf_17 at h
    refine xr_iload (pc := 17) κ 6 (x := v8) dX3_peakOf_17 rfl ?_
    refine xr_aload_n (pc := 19) κ 1 (x := (xb 0)) dX3_peakOf_19 rfl rfl ?_
    refine xr_getN (pc := 20) κ xc0 (k := (xb 0)) (f := 0) (v := .int (b_knots (x_bal x 0))) kw_1_110 (xb_lt (j := 0) (by decide) (by decide)) (wXb_obj _ _ (by decide)) (by decide) rfl dX3_peakOf_20 ?_
    refine xr_icmp_ge (pc := 23) κ (tgt := 64) dX3_peakOf_23 (by decide) (fun c2 => ?_) (fun c2 => ?_)
    · have h := h.1 c2
      refine xr_lload (pc := 64) κ 5 (x := v6) dX3_peakOf_64 rfl ?_
      exact xr_lret (pc := 66) κ _ hQ dX3_peakOf_66 ⟨_, _, _, rfl, rfl, h⟩
    · have h := h.2 c2
      refine xr_lload (pc := 26) κ 5 (x := v6) dX3_peakOf_26 rfl ?_
      refine xr_aload_n (pc := 28) κ 0 (x := 81) dX3_peakOf_28 rfl rfl ?_
      refine xr_get (pc := 29) κ xc3 (k := 81) (f := 1) (v := .ref 83) kw_1_172 (by decide) rfl (by decide) rfl dX3_peakOf_29 ?_
      refine xr_iload (pc := 32) κ 6 (x := v8) dX3_peakOf_32 rfl ?_
      obtain ⟨i3, h⟩ := h
      refine xr_lald (pc := 34) κ (k := 83) (n := 7) (f := x_awake x) (by decide) rfl rfl i3 dX3_peakOf_34 ?_
      refine xr_aload_n (pc := 35) κ 1 (x := (xb 0)) dX3_peakOf_35 rfl rfl ?_
      refine xr_getN (pc := 36) κ xc0 (k := (xb 0)) (f := 2) (v := .ref (xb 0 + 1)) kw_1_114 (xb_lt (j := 0) (by decide) (by decide)) (wXb_obj _ _ (by decide)) (by decide) rfl dX3_peakOf_36 ?_
      refine xr_iload (pc := 39) κ 6 (x := v8) dX3_peakOf_39 rfl ?_
      obtain ⟨i4, h⟩ := h
      refine xr_aald (pc := 41) κ (k := (xb 0 + 1)) (n := 7) (j := xb 0 + 2 + v8.toNatClampNeg) (xb_lt (j := 1) (by decide) (by decide)) (xTX_out (by decide)) rfl (wXb_out _ _ (by decide)) i4 (if_pos (vp_lt i4)) dX3_peakOf_41 ?_
      refine xr_aload_n (pc := 42) κ 2 (x := 7) dX3_peakOf_42 rfl rfl ?_
      refine xr_getN (pc := 43) κ xc1 (k := 7) (f := 2) (v := .ref 8) kw_1_83 (by decide) rfl (by decide) rfl dX3_peakOf_43 ?_
      refine xr_iload_n (pc := 46) κ 3 (x := v3) dX3_peakOf_46 rfl rfl ?_
      obtain ⟨i5, h⟩ := h
      refine xr_iald (pc := 47) κ (k := 8) (n := 6) (f := c_sits c) (by decide) rfl rfl i5 dX3_peakOf_47 ?_
      obtain ⟨i6, h⟩ := h
      refine xr_lald (pc := 48) κ (k := (xb 0 + 2 + v8.toNatClampNeg)) (n := 7) (f := (b_cell (x_bal x 0)) v8.toNatClampNeg) (xb_row_lt (by decide) (vp_lt i4)) (xTX_row (by decide) (vp_lt i4)) (wXb_row _ _ (by decide) (vp_lt i4)) i6 dX3_peakOf_48 ?_
      refine xr_lload (pc := 49) κ 4 (x := v4) dX3_peakOf_49 rfl ?_
      refine xr_lmul (pc := 51) κ dX3_peakOf_51 ?_
      refine xr_ladd (pc := 52) κ dX3_peakOf_52 ?_
      refine xr_mmaxL (pc := 53) κ kw_2_228 kw_2_229 kw_1_8 kw_2_230 (by omega) (Nat.le_of_ble_eq_true rfl) dX3_peakOf_53 ?_
      refine xr_lstore (pc := 56) κ [1, 2, 3, 4, 5, 0, 6] (lv' := [(0, .ref 81), (1, .ref (xb 0)), (2, .ref 7), (3, .int v3), (4, .long v4), (6, .long (if ((x_awake x v8.toNatClampNeg) + (((b_cell (x_bal x 0)) v8.toNatClampNeg (((c_sits c v3.toNatClampNeg)).toNatClampNeg)) * v4)) < v6 then v6 else ((x_awake x v8.toNatClampNeg) + (((b_cell (x_bal x 0)) v8.toNatClampNeg (((c_sits c v3.toNatClampNeg)).toNatClampNeg)) * v4)))), (8, .int v8)]) dX3_peakOf_56 (by decide) rfl ?_
      refine xr_iinc (pc := 58) κ 6 [1, 2, 3, 4, 5, 6, 0] (lv' := [(0, .ref 81), (1, .ref (xb 0)), (2, .ref 7), (3, .int v3), (4, .long v4), (6, .long (if ((x_awake x v8.toNatClampNeg) + (((b_cell (x_bal x 0)) v8.toNatClampNeg (((c_sits c v3.toNatClampNeg)).toNatClampNeg)) * v4)) < v6 then v6 else ((x_awake x v8.toNatClampNeg) + (((b_cell (x_bal x 0)) v8.toNatClampNeg (((c_sits c v3.toNatClampNeg)).toNatClampNeg)) * v4)))), (8, .int (v8 + 1))]) (x := v8) (v := v8 + 1) dX3_peakOf_58 rfl rfl (by decide) rfl ?_
      refine xr_goto (pc := 61) κ (tgt := 17) dX3_peakOf_61 (by decide) ?_
      exact ih _ _ _ _ _ _ h
def wp_X3_peakOf (b : Int32) (c : CS) (x : XT) (K : Int64 → CS → XT → Prop) : Prop :=
    vp_in b 6 ∧
    ∃ n17 : Nat, nd_X3_peakOf_17 K n17 b (Int32.toInt64 ((3 : Int32) * (c_most c b.toNatClampNeg))) (0 : Int64) (0 : Int32) c x
set_option maxHeartbeats 4000000 in
set_option maxRecDepth 100000 in
theorem snd_X3_peakOf {l : Launch} (b : Int32) (c : CS) (x : XT) (K : Int64 → CS → XT → Prop) (h : wp_X3_peakOf b c x K) : XM l xTX yX3_peakOf cX3_peakOf 9 (some .long) 1 [.ref 81, .ref (xb 0), .ref 7, .int b] (wX c x) (fun v ω' => ∃ (r : Int64) (c' : CS) (t' : XT), v = some (.long r) ∧ ω' = wX c' t' ∧ K r c' t') := by
    refine XM.of (by decide) (Nat.le_of_ble_eq_true rfl) (fun κ hQ => ?_)
    show Wat κ 0 [(0, .ref 81), (1, .ref (xb 0)), (2, .ref 7), (3, .int b)] [] (wX c x)
    unfold wp_X3_peakOf at h
    refine xr_iconst (pc := 0) κ (v := 3) dX3_peakOf_0 (by decide) ?_
    refine xr_aload_n (pc := 1) κ 2 (x := 7) dX3_peakOf_1 rfl rfl ?_
    refine xr_getN (pc := 2) κ xc1 (k := 7) (f := 3) (v := .ref 9) kw_1_86 (by decide) rfl (by decide) rfl dX3_peakOf_2 ?_
    refine xr_iload_n (pc := 5) κ 3 (x := b) dX3_peakOf_5 rfl rfl ?_
    obtain ⟨i1, h⟩ := h
    refine xr_iald (pc := 6) κ (k := 9) (n := 6) (f := c_most c) (by decide) rfl rfl i1 dX3_peakOf_6 ?_
    refine xr_imul (pc := 7) κ dX3_peakOf_7 ?_
    refine xr_i2l (pc := 8) κ dX3_peakOf_8 ?_
    refine xr_lstore (pc := 9) κ [1, 2, 3, 4, 0] (lv' := [(0, .ref 81), (1, .ref (xb 0)), (2, .ref 7), (3, .int b), (4, .long (Int32.toInt64 ((3 : Int32) * (c_most c b.toNatClampNeg))))]) dX3_peakOf_9 (by decide) rfl ?_
    refine xr_lconst (pc := 11) κ (v := 0) dX3_peakOf_11 (by decide) ?_
    refine xr_lstore (pc := 12) κ [1, 2, 3, 4, 5, 0] (lv' := [(0, .ref 81), (1, .ref (xb 0)), (2, .ref 7), (3, .int b), (4, .long (Int32.toInt64 ((3 : Int32) * (c_most c b.toNatClampNeg)))), (6, .long (0 : Int64))]) dX3_peakOf_12 (by decide) rfl ?_
    refine xr_iconst (pc := 14) κ (v := 0) dX3_peakOf_14 (by decide) ?_
    refine xr_istore (pc := 15) κ [1, 2, 3, 4, 5, 6, 0] (lv' := [(0, .ref 81), (1, .ref (xb 0)), (2, .ref 7), (3, .int b), (4, .long (Int32.toInt64 ((3 : Int32) * (c_most c b.toNatClampNeg)))), (6, .long (0 : Int64)), (8, .int (0 : Int32))]) dX3_peakOf_15 (by decide) rfl ?_
    obtain ⟨n0, h⟩ := h
    exact snd_X3_peakOf_17 κ K hQ n0 _ _ _ _ _ _ h
-- ChipVolts$Waking.leastAfter(LChipVolts$Balance;LChipVolts$Blocks;I)J, level 2
def nd_X3_leastAfter_80 (K : Int64 → CS → XT → Prop) (L15 : Int32 → Int64 → Int32 → CS → XT → Prop) (v3 : Int32) (v4 : Int64) (v6 : Int32) (c : CS) (x : XT) : Prop :=
    L15 v3 v4 (v6 + 1) c x
set_option maxHeartbeats 4000000 in
set_option maxRecDepth 100000 in
theorem snd_X3_leastAfter_80 {l : Launch} (κ : XC l xTX cX3_leastAfter yX3_leastAfter.cls 9 (some .long) 2) (K : Int64 → CS → XT → Prop) (hQ : xRet κ (fun v ω' => ∃ (r : Int64) (c' : CS) (t' : XT), v = some (.long r) ∧ ω' = wX c' t' ∧ K r c' t')) (L15 : Int32 → Int64 → Int32 → CS → XT → Prop) (hL15 : ∀ (v3 : Int32) (v4 : Int64) (v6 : Int32) (c : CS) (x : XT), L15 v3 v4 v6 c x → Wat κ 15 [(0, .ref 81), (1, .ref (xb 0)), (2, .ref 7), (3, .int v3), (4, .long v4), (6, .int v6)] [] (wX c x)) (v3 : Int32) (v4 : Int64) (v6 : Int32) (c : CS) (x : XT) (h : nd_X3_leastAfter_80 K L15 v3 v4 v6 c x) : Wat κ 80 [(0, .ref 81), (1, .ref (xb 0)), (2, .ref 7), (3, .int v3), (4, .long v4), (6, .int v6)] [] (wX c x) := by
    unfold nd_X3_leastAfter_80 at h
    refine xr_iinc (pc := 80) κ 5 [1, 2, 3, 4, 5, 0] (lv' := [(0, .ref 81), (1, .ref (xb 0)), (2, .ref 7), (3, .int v3), (4, .long v4), (6, .int (v6 + 1))]) (x := v6) (v := v6 + 1) dX3_leastAfter_80 rfl rfl (by decide) rfl ?_
    refine xr_goto (pc := 83) κ (tgt := 15) dX3_leastAfter_83 (by decide) ?_
    exact hL15 _ _ _ _ _ h
def nd_X3_leastAfter_78 (K : Int64 → CS → XT → Prop) (L15 : Int32 → Int64 → Int32 → CS → XT → Prop) (v3 : Int32) (v6 : Int32) (s0 : Int64) (c : CS) (x : XT) : Prop :=
    nd_X3_leastAfter_80 K L15 v3 s0 v6 c x
set_option maxHeartbeats 4000000 in
set_option maxRecDepth 100000 in
theorem snd_X3_leastAfter_78 {l : Launch} (κ : XC l xTX cX3_leastAfter yX3_leastAfter.cls 9 (some .long) 2) (K : Int64 → CS → XT → Prop) (hQ : xRet κ (fun v ω' => ∃ (r : Int64) (c' : CS) (t' : XT), v = some (.long r) ∧ ω' = wX c' t' ∧ K r c' t')) (L15 : Int32 → Int64 → Int32 → CS → XT → Prop) (hL15 : ∀ (v3 : Int32) (v4 : Int64) (v6 : Int32) (c : CS) (x : XT), L15 v3 v4 v6 c x → Wat κ 15 [(0, .ref 81), (1, .ref (xb 0)), (2, .ref 7), (3, .int v3), (4, .long v4), (6, .int v6)] [] (wX c x)) (v3 : Int32) (v6 : Int32) (s0 : Int64) (c : CS) (x : XT) (h : nd_X3_leastAfter_78 K L15 v3 v6 s0 c x) : Wat κ 78 [(0, .ref 81), (1, .ref (xb 0)), (2, .ref 7), (3, .int v3), (6, .int v6)] [.long s0] (wX c x) := by
    unfold nd_X3_leastAfter_78 at h
    refine xr_lstore (pc := 78) κ [1, 2, 3, 4, 0, 5] (lv' := [(0, .ref 81), (1, .ref (xb 0)), (2, .ref 7), (3, .int v3), (4, .long s0), (6, .int v6)]) dX3_leastAfter_78 (by decide) rfl ?_
    exact snd_X3_leastAfter_80 κ K hQ _ hL15 _ _ _ _ _ h
def nd_X3_leastAfter_15 (K : Int64 → CS → XT → Prop) : Nat → Int32 → Int64 → Int32 → CS → XT → Prop
  | 0 => fun _ _ _ _ _ => False
  | n + 1 => fun v3 v4 v6 c x =>
    ((c_nb c) ≤ v6 →
      K v4 c x) ∧
    (¬ (c_nb c) ≤ v6 →
      wp_X5_has v3 v6 (fun r3 =>
        (¬ r3 = 0 →
          nd_X3_leastAfter_80 K (fun v3 v4 v6 c x => nd_X3_leastAfter_15 K n v3 v4 v6 c x) v3 v4 v6 c x) ∧
        (r3 = 0 →
          wp_X3_peakOf v6 c x (fun r5 c5_ x5_ =>
            vp_in (v3 ||| ((1 : Int32) <<< (v6 &&& 31))) 64 ∧
            (¬ v4 = (-1 : Int64) →
              nd_X3_leastAfter_78 K (fun v3 v4 v6 c x => nd_X3_leastAfter_15 K n v3 v4 v6 c x) v3 v6 (if (if (x_least x5_ (((v3 ||| ((1 : Int32) <<< (v6 &&& 31)))).toNatClampNeg)) < r5 then r5 else (x_least x5_ (((v3 ||| ((1 : Int32) <<< (v6 &&& 31)))).toNatClampNeg))) < v4 then (if (x_least x5_ (((v3 ||| ((1 : Int32) <<< (v6 &&& 31)))).toNatClampNeg)) < r5 then r5 else (x_least x5_ (((v3 ||| ((1 : Int32) <<< (v6 &&& 31)))).toNatClampNeg))) else v4) c5_ x5_) ∧
            (v4 = (-1 : Int64) →
              nd_X3_leastAfter_78 K (fun v3 v4 v6 c x => nd_X3_leastAfter_15 K n v3 v4 v6 c x) v3 v6 (if (x_least x5_ (((v3 ||| ((1 : Int32) <<< (v6 &&& 31)))).toNatClampNeg)) < r5 then r5 else (x_least x5_ (((v3 ||| ((1 : Int32) <<< (v6 &&& 31)))).toNatClampNeg))) c5_ x5_)))))
set_option maxHeartbeats 4000000 in
set_option maxRecDepth 100000 in
theorem snd_X3_leastAfter_15 {l : Launch} (κ : XC l xTX cX3_leastAfter yX3_leastAfter.cls 9 (some .long) 2) (K : Int64 → CS → XT → Prop) (hQ : xRet κ (fun v ω' => ∃ (r : Int64) (c' : CS) (t' : XT), v = some (.long r) ∧ ω' = wX c' t' ∧ K r c' t')) : ∀ (n : Nat) (v3 : Int32) (v4 : Int64) (v6 : Int32) (c : CS) (x : XT), nd_X3_leastAfter_15 K n v3 v4 v6 c x → Wat κ 15 [(0, .ref 81), (1, .ref (xb 0)), (2, .ref 7), (3, .int v3), (4, .long v4), (6, .int v6)] [] (wX c x) := by
  intro n
  induction n with
  | zero => intro v3 v4 v6 c x h; exact h.elim
  | succ n ih =>
    intro v3 v4 v6 c x h
    unfold nd_X3_leastAfter_15 at h
    refine xr_iload (pc := 15) κ 5 (x := v6) dX3_leastAfter_15 rfl ?_
    refine xr_aload_n (pc := 17) κ 2 (x := 7) dX3_leastAfter_17 rfl rfl ?_
    refine xr_getN (pc := 18) κ xc1 (k := 7) (f := 0) (v := .int (c_nb c)) kw_1_78 (by decide) rfl (by decide) rfl dX3_leastAfter_18 ?_
    refine xr_icmp_ge (pc := 21) κ (tgt := 86) dX3_leastAfter_21 (by decide) (fun c2 => ?_) (fun c2 => ?_)
    · have h := h.1 c2
      refine xr_lload (pc := 86) κ 4 (x := v4) dX3_leastAfter_86 rfl ?_
      exact xr_lret (pc := 88) κ _ hQ dX3_leastAfter_88 ⟨_, _, _, rfl, rfl, h⟩
    · have h := h.2 c2
      refine xr_iload_n (pc := 24) κ 3 (x := v3) dX3_leastAfter_24 rfl rfl ?_
      refine xr_iload (pc := 25) κ 5 (x := v6) dX3_leastAfter_25 rfl ?_
      refine xr_callSN (pc := 27) κ [.int v3, .int v6] kw_2_222 tg_X5_has (snd_X5_has _ _ _ h) rfl (by decide) (by decide) (Nat.le_of_ble_eq_true rfl) dX3_leastAfter_27 (fun v9 ω9 hk9 => ?_)
      obtain ⟨r3, rfl, e9, h⟩ := hk9
      rw [e9]
      show Wat κ 30 [(0, .ref 81), (1, .ref (xb 0)), (2, .ref 7), (3, .int v3), (4, .long v4), (6, .int v6)] [.int r3] (wX c x)
      refine xr_if_ne (pc := 30) κ (tgt := 80) dX3_leastAfter_30 (by decide) (fun c4 => ?_) (fun c4 => ?_)
      · have h := h.1 c4
        exact snd_X3_leastAfter_80 κ K hQ _ ih _ _ _ _ _ h
      · have h := h.2 c4
        refine xr_aload_n (pc := 33) κ 0 (x := 81) dX3_leastAfter_33 rfl rfl ?_
        refine xr_aload_n (pc := 34) κ 1 (x := (xb 0)) dX3_leastAfter_34 rfl rfl ?_
        refine xr_aload_n (pc := 35) κ 2 (x := 7) dX3_leastAfter_35 rfl rfl ?_
        refine xr_iload (pc := 36) κ 5 (x := v6) dX3_leastAfter_36 rfl ?_
        refine xr_callV (pc := 38) κ [.ref (xb 0), .ref 7, .int v6] kw_2_224 tg_X3_peakOf (snd_X3_peakOf _ _ _ _ h) rfl (by decide) (by decide) (by decide) rfl (ci := 3) rfl rfl (Nat.le_of_ble_eq_true rfl) dX3_leastAfter_38 (fun v9 ω9 hk9 => ?_)
        obtain ⟨r5, c5_, x5_, rfl, rfl, h⟩ := hk9
        skip
        show Wat κ 41 [(0, .ref 81), (1, .ref (xb 0)), (2, .ref 7), (3, .int v3), (4, .long v4), (6, .int v6)] [.long r5] (wX c5_ x5_)
        refine xr_aload_n (pc := 41) κ 0 (x := 81) dX3_leastAfter_41 rfl rfl ?_
        refine xr_get (pc := 42) κ xc3 (k := 81) (f := 0) (v := .ref 82) kw_1_170 (by decide) rfl (by decide) rfl dX3_leastAfter_42 ?_
        refine xr_iload_n (pc := 45) κ 3 (x := v3) dX3_leastAfter_45 rfl rfl ?_
        refine xr_iconst (pc := 46) κ (v := 1) dX3_leastAfter_46 (by decide) ?_
        refine xr_iload (pc := 47) κ 5 (x := v6) dX3_leastAfter_47 rfl ?_
        refine xr_ishl (pc := 49) κ dX3_leastAfter_49 ?_
        refine xr_ior (pc := 50) κ dX3_leastAfter_50 ?_
        obtain ⟨i6, h⟩ := h
        refine xr_lald (pc := 51) κ (k := 82) (n := 64) (f := x_least x5_) (by decide) rfl rfl i6 dX3_leastAfter_51 ?_
        refine xr_mmaxL (pc := 52) κ kw_2_228 kw_2_229 kw_1_8 kw_2_230 (by omega) (Nat.le_of_ble_eq_true rfl) dX3_leastAfter_52 ?_
        refine xr_lstore (pc := 55) κ [1, 2, 3, 4, 5, 6, 0] (lv' := [(0, .ref 81), (1, .ref (xb 0)), (2, .ref 7), (3, .int v3), (4, .long v4), (6, .int v6), (7, .long (if (x_least x5_ (((v3 ||| ((1 : Int32) <<< (v6 &&& 31)))).toNatClampNeg)) < r5 then r5 else (x_least x5_ (((v3 ||| ((1 : Int32) <<< (v6 &&& 31)))).toNatClampNeg))))]) dX3_leastAfter_55 (by decide) rfl ?_
        refine xr_lload (pc := 57) κ 4 (x := v4) dX3_leastAfter_57 rfl ?_
        refine xr_ldc2 (pc := 59) κ (v := -1) kw_2_223 dX3_leastAfter_59 ?_
        refine xr_lcmp_ne (pc := 62) κ (tgt := 71) dX3_leastAfter_62 dX3_leastAfter_63 (by decide) (fun c7 => ?_) (fun c7 => ?_)
        · have h := h.1 c7
          refine xr_lload (pc := 71) κ 4 (x := v4) dX3_leastAfter_71 rfl ?_
          refine xr_lload (pc := 73) κ 6 (x := (if (x_least x5_ (((v3 ||| ((1 : Int32) <<< (v6 &&& 31)))).toNatClampNeg)) < r5 then r5 else (x_least x5_ (((v3 ||| ((1 : Int32) <<< (v6 &&& 31)))).toNatClampNeg)))) dX3_leastAfter_73 rfl ?_
          refine xr_mminL (pc := 75) κ kw_2_231 kw_2_232 kw_1_8 kw_2_233 (by omega) (Nat.le_of_ble_eq_true rfl) dX3_leastAfter_75 ?_
          refine xr_sub (pc := 78) κ [0, 1, 2, 3, 5] (lv' := [(0, .ref 81), (1, .ref (xb 0)), (2, .ref 7), (3, .int v3), (6, .int v6)]) rfl ?_
          exact snd_X3_leastAfter_78 κ K hQ _ ih _ _ _ _ _ h
        · have h := h.2 c7
          refine xr_lload (pc := 66) κ 6 (x := (if (x_least x5_ (((v3 ||| ((1 : Int32) <<< (v6 &&& 31)))).toNatClampNeg)) < r5 then r5 else (x_least x5_ (((v3 ||| ((1 : Int32) <<< (v6 &&& 31)))).toNatClampNeg)))) dX3_leastAfter_66 rfl ?_
          refine xr_goto (pc := 68) κ (tgt := 78) dX3_leastAfter_68 (by decide) ?_
          refine xr_sub (pc := 78) κ [0, 1, 2, 3, 5] (lv' := [(0, .ref 81), (1, .ref (xb 0)), (2, .ref 7), (3, .int v3), (6, .int v6)]) rfl ?_
          exact snd_X3_leastAfter_78 κ K hQ _ ih _ _ _ _ _ h
def wp_X3_leastAfter (set : Int32) (c : CS) (x : XT) (K : Int64 → CS → XT → Prop) : Prop :=
    wp_X3_weighAwake set c x (fun c1_ x1_ =>
      ∃ n15 : Nat, nd_X3_leastAfter_15 K n15 set (-1 : Int64) (0 : Int32) c1_ x1_)
set_option maxHeartbeats 4000000 in
set_option maxRecDepth 100000 in
theorem snd_X3_leastAfter {l : Launch} (set : Int32) (c : CS) (x : XT) (K : Int64 → CS → XT → Prop) (h : wp_X3_leastAfter set c x K) : XM l xTX yX3_leastAfter cX3_leastAfter 9 (some .long) 2 [.ref 81, .ref (xb 0), .ref 7, .int set] (wX c x) (fun v ω' => ∃ (r : Int64) (c' : CS) (t' : XT), v = some (.long r) ∧ ω' = wX c' t' ∧ K r c' t') := by
    refine XM.of (by decide) (Nat.le_of_ble_eq_true rfl) (fun κ hQ => ?_)
    show Wat κ 0 [(0, .ref 81), (1, .ref (xb 0)), (2, .ref 7), (3, .int set)] [] (wX c x)
    unfold wp_X3_leastAfter at h
    refine xr_aload_n (pc := 0) κ 0 (x := 81) dX3_leastAfter_0 rfl rfl ?_
    refine xr_aload_n (pc := 1) κ 1 (x := (xb 0)) dX3_leastAfter_1 rfl rfl ?_
    refine xr_aload_n (pc := 2) κ 2 (x := 7) dX3_leastAfter_2 rfl rfl ?_
    refine xr_iload_n (pc := 3) κ 3 (x := set) dX3_leastAfter_3 rfl rfl ?_
    refine xr_callV (pc := 4) κ [.ref (xb 0), .ref 7, .int set] kw_2_218 tg_X3_weighAwake (snd_X3_weighAwake _ _ _ _ h) rfl (by decide) (by decide) (by decide) rfl (ci := 3) rfl rfl (Nat.le_of_ble_eq_true rfl) dX3_leastAfter_4 (fun v9 ω9 hk9 => ?_)
    obtain ⟨c1_, x1_, rfl, rfl, h⟩ := hk9
    skip
    show Wat κ 7 [(0, .ref 81), (1, .ref (xb 0)), (2, .ref 7), (3, .int set)] [] (wX c1_ x1_)
    refine xr_ldc2 (pc := 7) κ (v := -1) kw_2_223 dX3_leastAfter_7 ?_
    refine xr_lstore (pc := 10) κ [1, 2, 3, 4, 0] (lv' := [(0, .ref 81), (1, .ref (xb 0)), (2, .ref 7), (3, .int set), (4, .long (-1 : Int64))]) dX3_leastAfter_10 (by decide) rfl ?_
    refine xr_iconst (pc := 12) κ (v := 0) dX3_leastAfter_12 (by decide) ?_
    refine xr_istore (pc := 13) κ [1, 2, 3, 4, 5, 0] (lv' := [(0, .ref 81), (1, .ref (xb 0)), (2, .ref 7), (3, .int set), (4, .long (-1 : Int64)), (6, .int (0 : Int32))]) dX3_leastAfter_13 (by decide) rfl ?_
    obtain ⟨n0, h⟩ := h
    exact snd_X3_leastAfter_15 κ K hQ n0 _ _ _ _ _ h
-- ChipVolts$Waking.firstToCome(LChipVolts$Balance;LChipVolts$Blocks;I)I, level 2
def nd_X3_firstToCome_70 (K : Int32 → CS → XT → Prop) (L10 : Int32 → Int32 → CS → XT → Prop) (v3 : Int32) (v4 : Int32) (c : CS) (x : XT) : Prop :=
    L10 v3 (v4 + 1) c x
set_option maxHeartbeats 4000000 in
set_option maxRecDepth 100000 in
theorem snd_X3_firstToCome_70 {l : Launch} (κ : XC l xTX cX3_firstToCome yX3_firstToCome.cls 5 (some .int) 2) (K : Int32 → CS → XT → Prop) (hQ : xRet κ (fun v ω' => ∃ (r : Int32) (c' : CS) (t' : XT), v = some (.int r) ∧ ω' = wX c' t' ∧ K r c' t')) (L10 : Int32 → Int32 → CS → XT → Prop) (hL10 : ∀ (v3 : Int32) (v4 : Int32) (c : CS) (x : XT), L10 v3 v4 c x → Wat κ 10 [(0, .ref 81), (1, .ref (xb 0)), (2, .ref 7), (3, .int v3), (4, .int v4)] [] (wX c x)) (v3 : Int32) (v4 : Int32) (c : CS) (x : XT) (h : nd_X3_firstToCome_70 K L10 v3 v4 c x) : Wat κ 70 [(0, .ref 81), (1, .ref (xb 0)), (2, .ref 7), (3, .int v3), (4, .int v4)] [] (wX c x) := by
    unfold nd_X3_firstToCome_70 at h
    refine xr_iinc (pc := 70) κ 4 [1, 2, 3, 4, 0] (lv' := [(0, .ref 81), (1, .ref (xb 0)), (2, .ref 7), (3, .int v3), (4, .int (v4 + 1))]) (x := v4) (v := v4 + 1) dX3_firstToCome_70 rfl rfl (by decide) rfl ?_
    refine xr_goto (pc := 73) κ (tgt := 10) dX3_firstToCome_73 (by decide) ?_
    exact hL10 _ _ _ _ h
def nd_X3_firstToCome_10 (K : Int32 → CS → XT → Prop) : Nat → Int32 → Int32 → CS → XT → Prop
  | 0 => fun _ _ _ _ => False
  | n + 1 => fun v3 v4 c x =>
    ((c_nb c) ≤ v4 →
      K (-1 : Int32) c x) ∧
    (¬ (c_nb c) ≤ v4 →
      wp_X5_has v3 v4 (fun r3 =>
        (¬ r3 = 0 →
          nd_X3_firstToCome_70 K (fun v3 v4 c x => nd_X3_firstToCome_10 K n v3 v4 c x) v3 v4 c x) ∧
        (r3 = 0 →
          vp_in (v3 ||| ((1 : Int32) <<< (v4 &&& 31))) 64 ∧
          vp_in (0 : Int32) 64 ∧
          ((x_least x (((0 : Int32)).toNatClampNeg)) < (x_least x (((v3 ||| ((1 : Int32) <<< (v4 &&& 31)))).toNatClampNeg)) →
            nd_X3_firstToCome_70 K (fun v3 v4 c x => nd_X3_firstToCome_10 K n v3 v4 c x) v3 v4 c x) ∧
          (¬ (x_least x (((0 : Int32)).toNatClampNeg)) < (x_least x (((v3 ||| ((1 : Int32) <<< (v4 &&& 31)))).toNatClampNeg)) →
            wp_X3_peakOf v4 c x (fun r8 c8_ x8_ =>
              vp_in (0 : Int32) 64 ∧
              ((x_least x8_ (((0 : Int32)).toNatClampNeg)) < r8 →
                nd_X3_firstToCome_70 K (fun v3 v4 c x => nd_X3_firstToCome_10 K n v3 v4 c x) v3 v4 c8_ x8_) ∧
              (¬ (x_least x8_ (((0 : Int32)).toNatClampNeg)) < r8 →
                K v4 c8_ x8_))))))
set_option maxHeartbeats 4000000 in
set_option maxRecDepth 100000 in
theorem snd_X3_firstToCome_10 {l : Launch} (κ : XC l xTX cX3_firstToCome yX3_firstToCome.cls 5 (some .int) 2) (K : Int32 → CS → XT → Prop) (hQ : xRet κ (fun v ω' => ∃ (r : Int32) (c' : CS) (t' : XT), v = some (.int r) ∧ ω' = wX c' t' ∧ K r c' t')) : ∀ (n : Nat) (v3 : Int32) (v4 : Int32) (c : CS) (x : XT), nd_X3_firstToCome_10 K n v3 v4 c x → Wat κ 10 [(0, .ref 81), (1, .ref (xb 0)), (2, .ref 7), (3, .int v3), (4, .int v4)] [] (wX c x) := by
  intro n
  induction n with
  | zero => intro v3 v4 c x h; exact h.elim
  | succ n ih =>
    intro v3 v4 c x h
    unfold nd_X3_firstToCome_10 at h
    refine xr_iload (pc := 10) κ 4 (x := v4) dX3_firstToCome_10 rfl ?_
    refine xr_aload_n (pc := 12) κ 2 (x := 7) dX3_firstToCome_12 rfl rfl ?_
    refine xr_getN (pc := 13) κ xc1 (k := 7) (f := 0) (v := .int (c_nb c)) kw_1_78 (by decide) rfl (by decide) rfl dX3_firstToCome_13 ?_
    refine xr_icmp_ge (pc := 16) κ (tgt := 76) dX3_firstToCome_16 (by decide) (fun c2 => ?_) (fun c2 => ?_)
    · have h := h.1 c2
      refine xr_iconst (pc := 76) κ (v := -1) dX3_firstToCome_76 (by decide) ?_
      exact xr_iret (pc := 77) κ _ hQ dX3_firstToCome_77 ⟨_, _, _, rfl, rfl, h⟩
    · have h := h.2 c2
      refine xr_iload_n (pc := 19) κ 3 (x := v3) dX3_firstToCome_19 rfl rfl ?_
      refine xr_iload (pc := 20) κ 4 (x := v4) dX3_firstToCome_20 rfl ?_
      refine xr_callSN (pc := 22) κ [.int v3, .int v4] kw_2_222 tg_X5_has (snd_X5_has _ _ _ h) rfl (by decide) (by decide) (Nat.le_of_ble_eq_true rfl) dX3_firstToCome_22 (fun v9 ω9 hk9 => ?_)
      obtain ⟨r3, rfl, e9, h⟩ := hk9
      rw [e9]
      show Wat κ 25 [(0, .ref 81), (1, .ref (xb 0)), (2, .ref 7), (3, .int v3), (4, .int v4)] [.int r3] (wX c x)
      refine xr_if_ne (pc := 25) κ (tgt := 70) dX3_firstToCome_25 (by decide) (fun c4 => ?_) (fun c4 => ?_)
      · have h := h.1 c4
        exact snd_X3_firstToCome_70 κ K hQ _ ih _ _ _ _ h
      · have h := h.2 c4
        refine xr_aload_n (pc := 28) κ 0 (x := 81) dX3_firstToCome_28 rfl rfl ?_
        refine xr_get (pc := 29) κ xc3 (k := 81) (f := 0) (v := .ref 82) kw_1_170 (by decide) rfl (by decide) rfl dX3_firstToCome_29 ?_
        refine xr_iload_n (pc := 32) κ 3 (x := v3) dX3_firstToCome_32 rfl rfl ?_
        refine xr_iconst (pc := 33) κ (v := 1) dX3_firstToCome_33 (by decide) ?_
        refine xr_iload (pc := 34) κ 4 (x := v4) dX3_firstToCome_34 rfl ?_
        refine xr_ishl (pc := 36) κ dX3_firstToCome_36 ?_
        refine xr_ior (pc := 37) κ dX3_firstToCome_37 ?_
        obtain ⟨i5, h⟩ := h
        refine xr_lald (pc := 38) κ (k := 82) (n := 64) (f := x_least x) (by decide) rfl rfl i5 dX3_firstToCome_38 ?_
        refine xr_aload_n (pc := 39) κ 0 (x := 81) dX3_firstToCome_39 rfl rfl ?_
        refine xr_get (pc := 40) κ xc3 (k := 81) (f := 0) (v := .ref 82) kw_1_170 (by decide) rfl (by decide) rfl dX3_firstToCome_40 ?_
        refine xr_iconst (pc := 43) κ (v := 0) dX3_firstToCome_43 (by decide) ?_
        obtain ⟨i6, h⟩ := h
        refine xr_lald (pc := 44) κ (k := 82) (n := 64) (f := x_least x) (by decide) rfl rfl i6 dX3_firstToCome_44 ?_
        refine xr_lcmp_gt (pc := 45) κ (tgt := 70) dX3_firstToCome_45 dX3_firstToCome_46 (by decide) (fun c7 => ?_) (fun c7 => ?_)
        · have h := h.1 c7
          exact snd_X3_firstToCome_70 κ K hQ _ ih _ _ _ _ h
        · have h := h.2 c7
          refine xr_aload_n (pc := 49) κ 0 (x := 81) dX3_firstToCome_49 rfl rfl ?_
          refine xr_aload_n (pc := 50) κ 1 (x := (xb 0)) dX3_firstToCome_50 rfl rfl ?_
          refine xr_aload_n (pc := 51) κ 2 (x := 7) dX3_firstToCome_51 rfl rfl ?_
          refine xr_iload (pc := 52) κ 4 (x := v4) dX3_firstToCome_52 rfl ?_
          refine xr_callV (pc := 54) κ [.ref (xb 0), .ref 7, .int v4] kw_2_224 tg_X3_peakOf (snd_X3_peakOf _ _ _ _ h) rfl (by decide) (by decide) (by decide) rfl (ci := 3) rfl rfl (Nat.le_of_ble_eq_true rfl) dX3_firstToCome_54 (fun v9 ω9 hk9 => ?_)
          obtain ⟨r8, c8_, x8_, rfl, rfl, h⟩ := hk9
          skip
          show Wat κ 57 [(0, .ref 81), (1, .ref (xb 0)), (2, .ref 7), (3, .int v3), (4, .int v4)] [.long r8] (wX c8_ x8_)
          refine xr_aload_n (pc := 57) κ 0 (x := 81) dX3_firstToCome_57 rfl rfl ?_
          refine xr_get (pc := 58) κ xc3 (k := 81) (f := 0) (v := .ref 82) kw_1_170 (by decide) rfl (by decide) rfl dX3_firstToCome_58 ?_
          refine xr_iconst (pc := 61) κ (v := 0) dX3_firstToCome_61 (by decide) ?_
          obtain ⟨i9, h⟩ := h
          refine xr_lald (pc := 62) κ (k := 82) (n := 64) (f := x_least x8_) (by decide) rfl rfl i9 dX3_firstToCome_62 ?_
          refine xr_lcmp_gt (pc := 63) κ (tgt := 70) dX3_firstToCome_63 dX3_firstToCome_64 (by decide) (fun c10 => ?_) (fun c10 => ?_)
          · have h := h.1 c10
            exact snd_X3_firstToCome_70 κ K hQ _ ih _ _ _ _ h
          · have h := h.2 c10
            refine xr_iload (pc := 67) κ 4 (x := v4) dX3_firstToCome_67 rfl ?_
            exact xr_iret (pc := 69) κ _ hQ dX3_firstToCome_69 ⟨_, _, _, rfl, rfl, h⟩
def wp_X3_firstToCome (set : Int32) (c : CS) (x : XT) (K : Int32 → CS → XT → Prop) : Prop :=
    wp_X3_weighAwake set c x (fun c1_ x1_ =>
      ∃ n10 : Nat, nd_X3_firstToCome_10 K n10 set (0 : Int32) c1_ x1_)
set_option maxHeartbeats 4000000 in
set_option maxRecDepth 100000 in
theorem snd_X3_firstToCome {l : Launch} (set : Int32) (c : CS) (x : XT) (K : Int32 → CS → XT → Prop) (h : wp_X3_firstToCome set c x K) : XM l xTX yX3_firstToCome cX3_firstToCome 5 (some .int) 2 [.ref 81, .ref (xb 0), .ref 7, .int set] (wX c x) (fun v ω' => ∃ (r : Int32) (c' : CS) (t' : XT), v = some (.int r) ∧ ω' = wX c' t' ∧ K r c' t') := by
    refine XM.of (by decide) (Nat.le_of_ble_eq_true rfl) (fun κ hQ => ?_)
    show Wat κ 0 [(0, .ref 81), (1, .ref (xb 0)), (2, .ref 7), (3, .int set)] [] (wX c x)
    unfold wp_X3_firstToCome at h
    refine xr_aload_n (pc := 0) κ 0 (x := 81) dX3_firstToCome_0 rfl rfl ?_
    refine xr_aload_n (pc := 1) κ 1 (x := (xb 0)) dX3_firstToCome_1 rfl rfl ?_
    refine xr_aload_n (pc := 2) κ 2 (x := 7) dX3_firstToCome_2 rfl rfl ?_
    refine xr_iload_n (pc := 3) κ 3 (x := set) dX3_firstToCome_3 rfl rfl ?_
    refine xr_callV (pc := 4) κ [.ref (xb 0), .ref 7, .int set] kw_2_218 tg_X3_weighAwake (snd_X3_weighAwake _ _ _ _ h) rfl (by decide) (by decide) (by decide) rfl (ci := 3) rfl rfl (Nat.le_of_ble_eq_true rfl) dX3_firstToCome_4 (fun v9 ω9 hk9 => ?_)
    obtain ⟨c1_, x1_, rfl, rfl, h⟩ := hk9
    skip
    show Wat κ 7 [(0, .ref 81), (1, .ref (xb 0)), (2, .ref 7), (3, .int set)] [] (wX c1_ x1_)
    refine xr_iconst (pc := 7) κ (v := 0) dX3_firstToCome_7 (by decide) ?_
    refine xr_istore (pc := 8) κ [1, 2, 3, 4, 0] (lv' := [(0, .ref 81), (1, .ref (xb 0)), (2, .ref 7), (3, .int set), (4, .int (0 : Int32))]) dX3_firstToCome_8 (by decide) rfl ?_
    obtain ⟨n0, h⟩ := h
    exact snd_X3_firstToCome_10 κ K hQ n0 _ _ _ _ h
-- ChipVolts$Waking.search(LChipVolts$Balance;LChipVolts$Blocks;)V, level 3
def nd_X3_search_53 (K : CS → XT → Prop) : Nat → Int32 → Int32 → CS → XT → Prop
  | 0 => fun _ _ _ _ => False
  | n + 1 => fun v4 v5 c x =>
    ((c_nb c) ≤ v5 →
      K c x) ∧
    (¬ (c_nb c) ≤ v5 →
      wp_X3_firstToCome v4 c x (fun r4 c4_ x4_ =>
        (¬ r4 = (-1 : Int32) →
          vp_in v5 6 ∧
          nd_X3_search_53 K n (v4 ||| ((1 : Int32) <<< (r4 &&& 31))) (v5 + 1) c4_ (xs_order x4_ (upd (x_order x4_) v5.toNatClampNeg r4))) ∧
        (r4 = (-1 : Int32) →
          K c4_ x4_)))
set_option maxHeartbeats 4000000 in
set_option maxRecDepth 100000 in
theorem snd_X3_search_53 {l : Launch} (κ : XC l xTX cX3_search yX3_search.cls 7 (none) 3) (K : CS → XT → Prop) (hQ : xRet κ (fun v ω' => ∃ (c' : CS) (t' : XT), v = none ∧ ω' = wX c' t' ∧ K c' t')) : ∀ (n : Nat) (v4 : Int32) (v5 : Int32) (c : CS) (x : XT), nd_X3_search_53 K n v4 v5 c x → Wat κ 53 [(0, .ref 81), (1, .ref (xb 0)), (2, .ref 7), (4, .int v4), (5, .int v5)] [] (wX c x) := by
  intro n
  induction n with
  | zero => intro v4 v5 c x h; exact h.elim
  | succ n ih =>
    intro v4 v5 c x h
    unfold nd_X3_search_53 at h
    refine xr_iload (pc := 53) κ 4 (x := v5) dX3_search_53 rfl ?_
    refine xr_aload_n (pc := 55) κ 2 (x := 7) dX3_search_55 rfl rfl ?_
    refine xr_getN (pc := 56) κ xc1 (k := 7) (f := 0) (v := .int (c_nb c)) kw_1_78 (by decide) rfl (by decide) rfl dX3_search_56 ?_
    refine xr_icmp_ge (pc := 59) κ (tgt := 103) dX3_search_59 (by decide) (fun c3 => ?_) (fun c3 => ?_)
    · have h := h.1 c3
      exact xr_vret (pc := 103) κ _ hQ dX3_search_103 ⟨_, _, rfl, rfl, h⟩
    · have h := h.2 c3
      refine xr_aload_n (pc := 62) κ 0 (x := 81) dX3_search_62 rfl rfl ?_
      refine xr_aload_n (pc := 63) κ 1 (x := (xb 0)) dX3_search_63 rfl rfl ?_
      refine xr_aload_n (pc := 64) κ 2 (x := 7) dX3_search_64 rfl rfl ?_
      refine xr_iload (pc := 65) κ 3 (x := v4) dX3_search_65 rfl ?_
      refine xr_callV (pc := 67) κ [.ref (xb 0), .ref 7, .int v4] kw_2_234 tg_X3_firstToCome (snd_X3_firstToCome _ _ _ _ h) rfl (by decide) (by decide) (by decide) rfl (ci := 3) rfl rfl (Nat.le_of_ble_eq_true rfl) dX3_search_67 (fun v9 ω9 hk9 => ?_)
      obtain ⟨r4, c4_, x4_, rfl, rfl, h⟩ := hk9
      skip
      show Wat κ 70 [(0, .ref 81), (1, .ref (xb 0)), (2, .ref 7), (4, .int v4), (5, .int v5)] [.int r4] (wX c4_ x4_)
      refine xr_istore (pc := 70) κ [1, 2, 3, 4, 5, 0] (lv' := [(0, .ref 81), (1, .ref (xb 0)), (2, .ref 7), (4, .int v4), (5, .int v5), (6, .int r4)]) dX3_search_70 (by decide) rfl ?_
      refine xr_iload (pc := 72) κ 5 (x := r4) dX3_search_72 rfl ?_
      refine xr_iconst (pc := 74) κ (v := -1) dX3_search_74 (by decide) ?_
      refine xr_icmp_ne (pc := 75) κ (tgt := 79) dX3_search_75 (by decide) (fun c5 => ?_) (fun c5 => ?_)
      · have h := h.1 c5
        refine xr_aload_n (pc := 79) κ 0 (x := 81) dX3_search_79 rfl rfl ?_
        refine xr_get (pc := 80) κ xc3 (k := 81) (f := 2) (v := .ref 84) kw_1_173 (by decide) rfl (by decide) rfl dX3_search_80 ?_
        refine xr_iload (pc := 83) κ 4 (x := v5) dX3_search_83 rfl ?_
        refine xr_iload (pc := 85) κ 5 (x := r4) dX3_search_85 rfl ?_
        obtain ⟨i6, h⟩ := h
        refine xr_iast (pc := 87) κ (k := 84) (n := 6) (f := x_order x4_) (ω' := wX c4_ (xs_order x4_ (upd (x_order x4_) v5.toNatClampNeg r4))) (by decide) rfl rfl i6 (wXa_order _ _ _) dX3_search_87 ?_
        refine xr_iload (pc := 88) κ 3 (x := v4) dX3_search_88 rfl ?_
        refine xr_iconst (pc := 90) κ (v := 1) dX3_search_90 (by decide) ?_
        refine xr_iload (pc := 91) κ 5 (x := r4) dX3_search_91 rfl ?_
        refine xr_ishl (pc := 93) κ dX3_search_93 ?_
        refine xr_ior (pc := 94) κ dX3_search_94 ?_
        refine xr_istore (pc := 95) κ [1, 2, 3, 0, 4, 5] (lv' := [(0, .ref 81), (1, .ref (xb 0)), (2, .ref 7), (4, .int (v4 ||| ((1 : Int32) <<< (r4 &&& 31)))), (5, .int v5), (6, .int r4)]) dX3_search_95 (by decide) rfl ?_
        refine xr_iinc (pc := 97) κ 4 [1, 2, 3, 4, 0, 5] (lv' := [(0, .ref 81), (1, .ref (xb 0)), (2, .ref 7), (4, .int (v4 ||| ((1 : Int32) <<< (r4 &&& 31)))), (5, .int (v5 + 1)), (6, .int r4)]) (x := v5) (v := v5 + 1) dX3_search_97 rfl rfl (by decide) rfl ?_
        refine xr_goto (pc := 100) κ (tgt := 53) dX3_search_100 (by decide) ?_
        refine xr_sub (pc := 53) κ [0, 1, 2, 3, 4] (lv' := [(0, .ref 81), (1, .ref (xb 0)), (2, .ref 7), (4, .int (v4 ||| ((1 : Int32) <<< (r4 &&& 31)))), (5, .int (v5 + 1))]) rfl ?_
        exact ih _ _ _ _ h
      · have h := h.2 c5
        exact xr_vret (pc := 78) κ _ hQ dX3_search_78 ⟨_, _, rfl, rfl, h⟩
def nd_X3_search_21 (K : CS → XT → Prop) : Nat → Int32 → CS → XT → Prop
  | 0 => fun _ _ _ => False
  | n + 1 => fun v4 c x =>
    (v4 < 0 →
      ∃ n53 : Nat, nd_X3_search_53 K n53 (0 : Int32) (0 : Int32) c x) ∧
    (¬ v4 < 0 →
      wp_X3_leastAfter v4 c x (fun r7 c7_ x7_ =>
        vp_in v4 64 ∧
        nd_X3_search_21 K n (v4 + (-1)) c7_ (xs_least x7_ (vp_updL (x_least x7_) v4.toNatClampNeg r7))))
set_option maxHeartbeats 4000000 in
set_option maxRecDepth 100000 in
theorem snd_X3_search_21 {l : Launch} (κ : XC l xTX cX3_search yX3_search.cls 7 (none) 3) (K : CS → XT → Prop) (hQ : xRet κ (fun v ω' => ∃ (c' : CS) (t' : XT), v = none ∧ ω' = wX c' t' ∧ K c' t')) : ∀ (n : Nat) (v4 : Int32) (c : CS) (x : XT), nd_X3_search_21 K n v4 c x → Wat κ 21 [(0, .ref 81), (1, .ref (xb 0)), (2, .ref 7), (4, .int v4)] [] (wX c x) := by
  intro n
  induction n with
  | zero => intro v4 c x h; exact h.elim
  | succ n ih =>
    intro v4 c x h
    unfold nd_X3_search_21 at h
    refine xr_iload (pc := 21) κ 3 (x := v4) dX3_search_21 rfl ?_
    refine xr_if_lt (pc := 23) κ (tgt := 47) dX3_search_23 (by decide) (fun c2 => ?_) (fun c2 => ?_)
    · have h := h.1 c2
      refine xr_iconst (pc := 47) κ (v := 0) dX3_search_47 (by decide) ?_
      refine xr_istore (pc := 48) κ [1, 2, 3, 0] (lv' := [(0, .ref 81), (1, .ref (xb 0)), (2, .ref 7), (4, .int (0 : Int32))]) dX3_search_48 (by decide) rfl ?_
      refine xr_iconst (pc := 50) κ (v := 0) dX3_search_50 (by decide) ?_
      refine xr_istore (pc := 51) κ [1, 2, 3, 4, 0] (lv' := [(0, .ref 81), (1, .ref (xb 0)), (2, .ref 7), (4, .int (0 : Int32)), (5, .int (0 : Int32))]) dX3_search_51 (by decide) rfl ?_
      obtain ⟨n0, h⟩ := h
      exact snd_X3_search_53 κ K hQ n0 _ _ _ _ h
    · have h := h.2 c2
      refine xr_aload_n (pc := 26) κ 0 (x := 81) dX3_search_26 rfl rfl ?_
      refine xr_get (pc := 27) κ xc3 (k := 81) (f := 0) (v := .ref 82) kw_1_170 (by decide) rfl (by decide) rfl dX3_search_27 ?_
      refine xr_iload (pc := 30) κ 3 (x := v4) dX3_search_30 rfl ?_
      refine xr_aload_n (pc := 32) κ 0 (x := 81) dX3_search_32 rfl rfl ?_
      refine xr_aload_n (pc := 33) κ 1 (x := (xb 0)) dX3_search_33 rfl rfl ?_
      refine xr_aload_n (pc := 34) κ 2 (x := 7) dX3_search_34 rfl rfl ?_
      refine xr_iload (pc := 35) κ 3 (x := v4) dX3_search_35 rfl ?_
      refine xr_callV (pc := 37) κ [.ref (xb 0), .ref 7, .int v4] kw_2_214 tg_X3_leastAfter (snd_X3_leastAfter _ _ _ _ h) rfl (by decide) (by decide) (by decide) rfl (ci := 3) rfl rfl (Nat.le_of_ble_eq_true rfl) dX3_search_37 (fun v9 ω9 hk9 => ?_)
      obtain ⟨r7, c7_, x7_, rfl, rfl, h⟩ := hk9
      skip
      show Wat κ 40 [(0, .ref 81), (1, .ref (xb 0)), (2, .ref 7), (4, .int v4)] [.long r7, .int v4, .ref 82] (wX c7_ x7_)
      obtain ⟨i8, h⟩ := h
      refine xr_last (pc := 40) κ (k := 82) (n := 64) (f := x_least x7_) (ω' := wX c7_ (xs_least x7_ (vp_updL (x_least x7_) v4.toNatClampNeg r7))) (by decide) rfl rfl i8 (wXa_least _ _ _) dX3_search_40 ?_
      refine xr_iinc (pc := 41) κ 3 [1, 2, 3, 0] (lv' := [(0, .ref 81), (1, .ref (xb 0)), (2, .ref 7), (4, .int (v4 + (-1)))]) (x := v4) (v := v4 + (-1)) dX3_search_41 rfl rfl (by decide) rfl ?_
      refine xr_goto (pc := 44) κ (tgt := 21) dX3_search_44 (by decide) ?_
      exact ih _ _ _ h
def wp_X3_search (c : CS) (x : XT) (K : CS → XT → Prop) : Prop :=
    vp_in (((1 : Int32) <<< ((c_nb c) &&& 31)) - (1 : Int32)) 64 ∧
    ∃ n21 : Nat, nd_X3_search_21 K n21 ((((1 : Int32) <<< ((c_nb c) &&& 31)) - (1 : Int32)) - (1 : Int32)) c (xs_least x (vp_updL (x_least x) (((((1 : Int32) <<< ((c_nb c) &&& 31)) - (1 : Int32))).toNatClampNeg) (0 : Int64)))
set_option maxHeartbeats 4000000 in
set_option maxRecDepth 100000 in
theorem snd_X3_search {l : Launch} (c : CS) (x : XT) (K : CS → XT → Prop) (h : wp_X3_search  c x K) : XM l xTX yX3_search cX3_search 7 (none) 3 [.ref 81, .ref (xb 0), .ref 7] (wX c x) (fun v ω' => ∃ (c' : CS) (t' : XT), v = none ∧ ω' = wX c' t' ∧ K c' t') := by
    refine XM.of (by decide) (Nat.le_of_ble_eq_true rfl) (fun κ hQ => ?_)
    show Wat κ 0 [(0, .ref 81), (1, .ref (xb 0)), (2, .ref 7)] [] (wX c x)
    unfold wp_X3_search at h
    refine xr_iconst (pc := 0) κ (v := 1) dX3_search_0 (by decide) ?_
    refine xr_aload_n (pc := 1) κ 2 (x := 7) dX3_search_1 rfl rfl ?_
    refine xr_getN (pc := 2) κ xc1 (k := 7) (f := 0) (v := .int (c_nb c)) kw_1_78 (by decide) rfl (by decide) rfl dX3_search_2 ?_
    refine xr_ishl (pc := 5) κ dX3_search_5 ?_
    refine xr_iconst (pc := 6) κ (v := 1) dX3_search_6 (by decide) ?_
    refine xr_isub (pc := 7) κ dX3_search_7 ?_
    refine xr_istore_n (pc := 8) κ [1, 2, 3, 0] (lv' := [(0, .ref 81), (1, .ref (xb 0)), (2, .ref 7), (3, .int (((1 : Int32) <<< ((c_nb c) &&& 31)) - (1 : Int32)))]) dX3_search_8 rfl (by decide) rfl ?_
    refine xr_aload_n (pc := 9) κ 0 (x := 81) dX3_search_9 rfl rfl ?_
    refine xr_get (pc := 10) κ xc3 (k := 81) (f := 0) (v := .ref 82) kw_1_170 (by decide) rfl (by decide) rfl dX3_search_10 ?_
    refine xr_iload_n (pc := 13) κ 3 (x := (((1 : Int32) <<< ((c_nb c) &&& 31)) - (1 : Int32))) dX3_search_13 rfl rfl ?_
    refine xr_lconst (pc := 14) κ (v := 0) dX3_search_14 (by decide) ?_
    obtain ⟨i1, h⟩ := h
    refine xr_last (pc := 15) κ (k := 82) (n := 64) (f := x_least x) (ω' := wX c (xs_least x (vp_updL (x_least x) (((((1 : Int32) <<< ((c_nb c) &&& 31)) - (1 : Int32))).toNatClampNeg) (0 : Int64)))) (by decide) rfl rfl i1 (wXa_least _ _ _) dX3_search_15 ?_
    refine xr_iload_n (pc := 16) κ 3 (x := (((1 : Int32) <<< ((c_nb c) &&& 31)) - (1 : Int32))) dX3_search_16 rfl rfl ?_
    refine xr_iconst (pc := 17) κ (v := 1) dX3_search_17 (by decide) ?_
    refine xr_isub (pc := 18) κ dX3_search_18 ?_
    refine xr_istore (pc := 19) κ [1, 2, 3, 4, 0] (lv' := [(0, .ref 81), (1, .ref (xb 0)), (2, .ref 7), (3, .int (((1 : Int32) <<< ((c_nb c) &&& 31)) - (1 : Int32))), (4, .int ((((1 : Int32) <<< ((c_nb c) &&& 31)) - (1 : Int32)) - (1 : Int32)))]) dX3_search_19 (by decide) rfl ?_
    refine xr_sub (pc := 21) κ [0, 1, 2, 4] (lv' := [(0, .ref 81), (1, .ref (xb 0)), (2, .ref 7), (4, .int ((((1 : Int32) <<< ((c_nb c) &&& 31)) - (1 : Int32)) - (1 : Int32)))]) rfl ?_
    obtain ⟨n0, h⟩ := h
    exact snd_X3_search_21 κ K hQ n0 _ _ _ h
-- ChipVolts$Widening.isTooDear(I)Z, level 0
def wp_X4_isTooDear (pr : Int32) (c : CS) (x : XT) (K : Int32 → CS → XT → Prop) : Prop :=
    ((x_bestPrice x) = (-1 : Int32) →
      K (0 : Int32) c x) ∧
    (¬ (x_bestPrice x) = (-1 : Int32) →
      (pr ≤ (x_bestPrice x) →
        K (0 : Int32) c x) ∧
      (¬ pr ≤ (x_bestPrice x) →
        K (1 : Int32) c x))
set_option maxHeartbeats 4000000 in
set_option maxRecDepth 100000 in
theorem snd_X4_isTooDear {l : Launch} (pr : Int32) (c : CS) (x : XT) (K : Int32 → CS → XT → Prop) (h : wp_X4_isTooDear pr c x K) : XM l xTX yX4_isTooDear cX4_isTooDear 2 (some .boolean) 0 [.ref 33, .int pr] (wX c x) (fun v ω' => ∃ (r : Int32) (c' : CS) (t' : XT), v = some (.int r) ∧ ω' = wX c' t' ∧ K r c' t') := by
    refine XM.of (by decide) (Nat.le_of_ble_eq_true rfl) (fun κ hQ => ?_)
    show Wat κ 0 [(0, .ref 33), (1, .int pr)] [] (wX c x)
    unfold wp_X4_isTooDear at h
    refine xr_aload_n (pc := 0) κ 0 (x := 33) dX4_isTooDear_0 rfl rfl ?_
    refine xr_get (pc := 1) κ xc4 (k := 33) (f := 3) (v := .int (x_bestPrice x)) kw_1_145 (by decide) rfl (by decide) rfl dX4_isTooDear_1 ?_
    refine xr_iconst (pc := 4) κ (v := -1) dX4_isTooDear_4 (by decide) ?_
    refine xr_icmp_eq (pc := 5) κ (tgt := 20) dX4_isTooDear_5 (by decide) (fun c1 => ?_) (fun c1 => ?_)
    · have h := h.1 c1
      refine xr_iconst (pc := 20) κ (v := 0) dX4_isTooDear_20 (by decide) ?_
      exact xr_zret (pc := 21) κ _ hQ rfl dX4_isTooDear_21 ⟨_, _, _, rfl, rfl, h⟩
    · have h := h.2 c1
      refine xr_iload_n (pc := 8) κ 1 (x := pr) dX4_isTooDear_8 rfl rfl ?_
      refine xr_aload_n (pc := 9) κ 0 (x := 33) dX4_isTooDear_9 rfl rfl ?_
      refine xr_get (pc := 10) κ xc4 (k := 33) (f := 3) (v := .int (x_bestPrice x)) kw_1_145 (by decide) rfl (by decide) rfl dX4_isTooDear_10 ?_
      refine xr_icmp_le (pc := 13) κ (tgt := 20) dX4_isTooDear_13 (by decide) (fun c2 => ?_) (fun c2 => ?_)
      · have h := h.1 c2
        refine xr_iconst (pc := 20) κ (v := 0) dX4_isTooDear_20 (by decide) ?_
        exact xr_zret (pc := 21) κ _ hQ rfl dX4_isTooDear_21 ⟨_, _, _, rfl, rfl, h⟩
      · have h := h.2 c2
        refine xr_iconst (pc := 16) κ (v := 1) dX4_isTooDear_16 (by decide) ?_
        refine xr_goto (pc := 17) κ (tgt := 21) dX4_isTooDear_17 (by decide) ?_
        exact xr_zret (pc := 21) κ _ hQ rfl dX4_isTooDear_21 ⟨_, _, _, rfl, rfl, h⟩
-- ChipVolts$Widening.keepIfBetter(II)V, level 1
def nd_X4_keepIfBetter_37 (K : CS → XT → Prop) (v1 : Int32) (v2 : Int32) (s0 : Int32) (c : CS) (x : XT) : Prop :=
    (s0 = 0 →
      K c x) ∧
    (¬ s0 = 0 →
      K c (xs_bestRow (xs_bestMore (xs_bestPrice x v2) v1) (va_cpy (x_row x) (x_bestRow x) 0 0 12)))
set_option maxHeartbeats 4000000 in
set_option maxRecDepth 100000 in
theorem snd_X4_keepIfBetter_37 {l : Launch} (κ : XC l xTX cX4_keepIfBetter yX4_keepIfBetter.cls 4 (none) 1) (K : CS → XT → Prop) (hQ : xRet κ (fun v ω' => ∃ (c' : CS) (t' : XT), v = none ∧ ω' = wX c' t' ∧ K c' t')) (v1 : Int32) (v2 : Int32) (s0 : Int32) (c : CS) (x : XT) (h : nd_X4_keepIfBetter_37 K v1 v2 s0 c x) : Wat κ 37 [(0, .ref 33), (1, .int v1), (2, .int v2)] [.int s0] (wX c x) := by
    unfold nd_X4_keepIfBetter_37 at h
    refine xr_istore_n (pc := 37) κ [1, 2, 3, 0] (lv' := [(0, .ref 33), (1, .int v1), (2, .int v2), (3, .int s0)]) dX4_keepIfBetter_37 rfl (by decide) rfl ?_
    refine xr_iload_n (pc := 38) κ 3 (x := s0) dX4_keepIfBetter_38 rfl rfl ?_
    refine xr_if_eq (pc := 39) κ (tgt := 67) dX4_keepIfBetter_39 (by decide) (fun c2 => ?_) (fun c2 => ?_)
    · have h := h.1 c2
      exact xr_vret (pc := 67) κ _ hQ dX4_keepIfBetter_67 ⟨_, _, rfl, rfl, h⟩
    · have h := h.2 c2
      refine xr_aload_n (pc := 42) κ 0 (x := 33) dX4_keepIfBetter_42 rfl rfl ?_
      refine xr_iload_n (pc := 43) κ 2 (x := v2) dX4_keepIfBetter_43 rfl rfl ?_
      refine xr_put (pc := 44) κ xc4 (k := 33) (f := 3) (v := .int v2) (ω' := wX c (xs_bestPrice x v2)) kw_1_145 (by decide) rfl (by decide) rfl (fun _ => rfl) (fun _ => rfl) (Nat.le_of_ble_eq_true rfl) (wXf_bestPrice _ _ _) dX4_keepIfBetter_44 ?_
      refine xr_aload_n (pc := 47) κ 0 (x := 33) dX4_keepIfBetter_47 rfl rfl ?_
      refine xr_iload_n (pc := 48) κ 1 (x := v1) dX4_keepIfBetter_48 rfl rfl ?_
      refine xr_put (pc := 49) κ xc4 (k := 33) (f := 4) (v := .int v1) (ω' := wX c (xs_bestMore (xs_bestPrice x v2) v1)) kw_1_146 (by decide) rfl (by decide) rfl (fun _ => rfl) (fun _ => rfl) (Nat.le_of_ble_eq_true rfl) (wXf_bestMore _ _ _) dX4_keepIfBetter_49 ?_
      refine xr_aload_n (pc := 52) κ 0 (x := 33) dX4_keepIfBetter_52 rfl rfl ?_
      refine xr_get (pc := 53) κ xc4 (k := 33) (f := 1) (v := .ref 79) kw_1_142 (by decide) rfl (by decide) rfl dX4_keepIfBetter_53 ?_
      refine xr_iconst (pc := 56) κ (v := 0) dX4_keepIfBetter_56 (by decide) ?_
      refine xr_aload_n (pc := 57) κ 0 (x := 33) dX4_keepIfBetter_57 rfl rfl ?_
      refine xr_get (pc := 58) κ xc4 (k := 33) (f := 2) (v := .ref 80) kw_1_143 (by decide) rfl (by decide) rfl dX4_keepIfBetter_58 ?_
      refine xr_iconst (pc := 61) κ (v := 0) dX4_keepIfBetter_61 (by decide) ?_
      refine xr_bipush (pc := 62) κ (v := 12) dX4_keepIfBetter_62 (by decide) ?_
      refine xr_copyrow (pc := 64) κ kw_2_186 kw_2_187 kw_2_188 kw_1_10 (by omega) (f := x_row x) (g := x_bestRow x) (ω' := wX c (xs_bestRow (xs_bestMore (xs_bestPrice x v2) v1) (va_cpy (x_row x) (x_bestRow x) 0 0 12))) rfl rfl (wXa_bestRow _ _ _) dX4_keepIfBetter_64 ?_
      exact xr_vret (pc := 67) κ _ hQ dX4_keepIfBetter_67 ⟨_, _, rfl, rfl, h⟩
def nd_X4_keepIfBetter_32 (K : CS → XT → Prop) (v1 : Int32) (v2 : Int32) (c : CS) (x : XT) : Prop :=
    nd_X4_keepIfBetter_37 K v1 v2 (1 : Int32) c x
set_option maxHeartbeats 4000000 in
set_option maxRecDepth 100000 in
theorem snd_X4_keepIfBetter_32 {l : Launch} (κ : XC l xTX cX4_keepIfBetter yX4_keepIfBetter.cls 4 (none) 1) (K : CS → XT → Prop) (hQ : xRet κ (fun v ω' => ∃ (c' : CS) (t' : XT), v = none ∧ ω' = wX c' t' ∧ K c' t')) (v1 : Int32) (v2 : Int32) (c : CS) (x : XT) (h : nd_X4_keepIfBetter_32 K v1 v2 c x) : Wat κ 32 [(0, .ref 33), (1, .int v1), (2, .int v2)] [] (wX c x) := by
    unfold nd_X4_keepIfBetter_32 at h
    refine xr_iconst (pc := 32) κ (v := 1) dX4_keepIfBetter_32 (by decide) ?_
    refine xr_goto (pc := 33) κ (tgt := 37) dX4_keepIfBetter_33 (by decide) ?_
    exact snd_X4_keepIfBetter_37 κ K hQ _ _ _ _ _ h
def nd_X4_keepIfBetter_36 (K : CS → XT → Prop) (v1 : Int32) (v2 : Int32) (c : CS) (x : XT) : Prop :=
    nd_X4_keepIfBetter_37 K v1 v2 (0 : Int32) c x
set_option maxHeartbeats 4000000 in
set_option maxRecDepth 100000 in
theorem snd_X4_keepIfBetter_36 {l : Launch} (κ : XC l xTX cX4_keepIfBetter yX4_keepIfBetter.cls 4 (none) 1) (K : CS → XT → Prop) (hQ : xRet κ (fun v ω' => ∃ (c' : CS) (t' : XT), v = none ∧ ω' = wX c' t' ∧ K c' t')) (v1 : Int32) (v2 : Int32) (c : CS) (x : XT) (h : nd_X4_keepIfBetter_36 K v1 v2 c x) : Wat κ 36 [(0, .ref 33), (1, .int v1), (2, .int v2)] [] (wX c x) := by
    unfold nd_X4_keepIfBetter_36 at h
    refine xr_iconst (pc := 36) κ (v := 0) dX4_keepIfBetter_36 (by decide) ?_
    exact snd_X4_keepIfBetter_37 κ K hQ _ _ _ _ _ h
def wp_X4_keepIfBetter (mo : Int32) (pr : Int32) (c : CS) (x : XT) (K : CS → XT → Prop) : Prop :=
    ((x_bestPrice x) = (-1 : Int32) →
      nd_X4_keepIfBetter_32 K mo pr c x) ∧
    (¬ (x_bestPrice x) = (-1 : Int32) →
      (pr < (x_bestPrice x) →
        nd_X4_keepIfBetter_32 K mo pr c x) ∧
      (¬ pr < (x_bestPrice x) →
        (¬ pr = (x_bestPrice x) →
          nd_X4_keepIfBetter_36 K mo pr c x) ∧
        (pr = (x_bestPrice x) →
          ((x_bestMore x) ≤ mo →
            nd_X4_keepIfBetter_36 K mo pr c x) ∧
          (¬ (x_bestMore x) ≤ mo →
            nd_X4_keepIfBetter_32 K mo pr c x))))
set_option maxHeartbeats 4000000 in
set_option maxRecDepth 100000 in
theorem snd_X4_keepIfBetter {l : Launch} (mo : Int32) (pr : Int32) (c : CS) (x : XT) (K : CS → XT → Prop) (h : wp_X4_keepIfBetter mo pr c x K) : XM l xTX yX4_keepIfBetter cX4_keepIfBetter 4 (none) 1 [.ref 33, .int mo, .int pr] (wX c x) (fun v ω' => ∃ (c' : CS) (t' : XT), v = none ∧ ω' = wX c' t' ∧ K c' t') := by
    refine XM.of (by decide) (Nat.le_of_ble_eq_true rfl) (fun κ hQ => ?_)
    show Wat κ 0 [(0, .ref 33), (1, .int mo), (2, .int pr)] [] (wX c x)
    unfold wp_X4_keepIfBetter at h
    refine xr_aload_n (pc := 0) κ 0 (x := 33) dX4_keepIfBetter_0 rfl rfl ?_
    refine xr_get (pc := 1) κ xc4 (k := 33) (f := 3) (v := .int (x_bestPrice x)) kw_1_145 (by decide) rfl (by decide) rfl dX4_keepIfBetter_1 ?_
    refine xr_iconst (pc := 4) κ (v := -1) dX4_keepIfBetter_4 (by decide) ?_
    refine xr_icmp_eq (pc := 5) κ (tgt := 32) dX4_keepIfBetter_5 (by decide) (fun c1 => ?_) (fun c1 => ?_)
    · have h := h.1 c1
      exact snd_X4_keepIfBetter_32 κ K hQ _ _ _ _ h
    · have h := h.2 c1
      refine xr_iload_n (pc := 8) κ 2 (x := pr) dX4_keepIfBetter_8 rfl rfl ?_
      refine xr_aload_n (pc := 9) κ 0 (x := 33) dX4_keepIfBetter_9 rfl rfl ?_
      refine xr_get (pc := 10) κ xc4 (k := 33) (f := 3) (v := .int (x_bestPrice x)) kw_1_145 (by decide) rfl (by decide) rfl dX4_keepIfBetter_10 ?_
      refine xr_icmp_lt (pc := 13) κ (tgt := 32) dX4_keepIfBetter_13 (by decide) (fun c3 => ?_) (fun c3 => ?_)
      · have h := h.1 c3
        exact snd_X4_keepIfBetter_32 κ K hQ _ _ _ _ h
      · have h := h.2 c3
        refine xr_iload_n (pc := 16) κ 2 (x := pr) dX4_keepIfBetter_16 rfl rfl ?_
        refine xr_aload_n (pc := 17) κ 0 (x := 33) dX4_keepIfBetter_17 rfl rfl ?_
        refine xr_get (pc := 18) κ xc4 (k := 33) (f := 3) (v := .int (x_bestPrice x)) kw_1_145 (by decide) rfl (by decide) rfl dX4_keepIfBetter_18 ?_
        refine xr_icmp_ne (pc := 21) κ (tgt := 36) dX4_keepIfBetter_21 (by decide) (fun c4 => ?_) (fun c4 => ?_)
        · have h := h.1 c4
          exact snd_X4_keepIfBetter_36 κ K hQ _ _ _ _ h
        · have h := h.2 c4
          refine xr_iload_n (pc := 24) κ 1 (x := mo) dX4_keepIfBetter_24 rfl rfl ?_
          refine xr_aload_n (pc := 25) κ 0 (x := 33) dX4_keepIfBetter_25 rfl rfl ?_
          refine xr_get (pc := 26) κ xc4 (k := 33) (f := 4) (v := .int (x_bestMore x)) kw_1_146 (by decide) rfl (by decide) rfl dX4_keepIfBetter_26 ?_
          refine xr_icmp_ge (pc := 29) κ (tgt := 36) dX4_keepIfBetter_29 (by decide) (fun c5 => ?_) (fun c5 => ?_)
          · have h := h.1 c5
            exact snd_X4_keepIfBetter_36 κ K hQ _ _ _ _ h
          · have h := h.2 c5
            exact snd_X4_keepIfBetter_32 κ K hQ _ _ _ _ h
