-- ChipVolts.between(III)Z, level 0
def wp_X5_between (v : Int32) (lo : Int32) (hi : Int32) (K : Int32 → Prop) : Prop :=
    (v < lo →
      K (0 : Int32)) ∧
    (¬ v < lo →
      (hi < v →
        K (0 : Int32)) ∧
      (¬ hi < v →
        K (1 : Int32)))
set_option maxHeartbeats 4000000 in
set_option maxRecDepth 100000 in
theorem snd_X5_between {l : Launch} {T : xKd} {ω : xWd} (v : Int32) (lo : Int32) (hi : Int32) (K : Int32 → Prop) (h : wp_X5_between v lo hi K) : XM l T yX5_between cX5_between 3 (some .boolean) 0 [.int v, .int lo, .int hi] (ω) (fun v ω' => ∃ (r : Int32), v = some (.int r) ∧ ω' = ω ∧ K r) := by
    refine XM.of (by decide) (Nat.le_of_ble_eq_true rfl) (fun κ hQ => ?_)
    show Wat κ 0 [(0, .int v), (1, .int lo), (2, .int hi)] [] (ω)
    unfold wp_X5_between at h
    refine xr_iload_n (pc := 0) κ 0 (x := v) dX5_between_0 rfl rfl ?_
    refine xr_iload_n (pc := 1) κ 1 (x := lo) dX5_between_1 rfl rfl ?_
    refine xr_icmp_lt (pc := 2) κ (tgt := 14) dX5_between_2 (by decide) (fun c1 => ?_) (fun c1 => ?_)
    · have h := h.1 c1
      refine xr_iconst (pc := 14) κ (v := 0) dX5_between_14 (by decide) ?_
      exact xr_zret (pc := 15) κ _ hQ rfl dX5_between_15 ⟨_, rfl, rfl, h⟩
    · have h := h.2 c1
      refine xr_iload_n (pc := 5) κ 0 (x := v) dX5_between_5 rfl rfl ?_
      refine xr_iload_n (pc := 6) κ 2 (x := hi) dX5_between_6 rfl rfl ?_
      refine xr_icmp_gt (pc := 7) κ (tgt := 14) dX5_between_7 (by decide) (fun c2 => ?_) (fun c2 => ?_)
      · have h := h.1 c2
        refine xr_iconst (pc := 14) κ (v := 0) dX5_between_14 (by decide) ?_
        exact xr_zret (pc := 15) κ _ hQ rfl dX5_between_15 ⟨_, rfl, rfl, h⟩
      · have h := h.2 c2
        refine xr_iconst (pc := 10) κ (v := 1) dX5_between_10 (by decide) ?_
        refine xr_goto (pc := 11) κ (tgt := 15) dX5_between_11 (by decide) ?_
        exact xr_zret (pc := 15) κ _ hQ rfl dX5_between_15 ⟨_, rfl, rfl, h⟩
-- ChipVolts.isPart(I)Z, level 0
def wp_X5_isPart (what : Int32) (K : Int32 → Prop) : Prop :=
    (what = 0 →
      K (1 : Int32)) ∧
    (¬ what = 0 →
      (¬ what = (1 : Int32) →
        K (0 : Int32)) ∧
      (what = (1 : Int32) →
        K (1 : Int32)))
set_option maxHeartbeats 4000000 in
set_option maxRecDepth 100000 in
theorem snd_X5_isPart {l : Launch} {T : xKd} {ω : xWd} (what : Int32) (K : Int32 → Prop) (h : wp_X5_isPart what K) : XM l T yX5_isPart cX5_isPart 1 (some .boolean) 0 [.int what] (ω) (fun v ω' => ∃ (r : Int32), v = some (.int r) ∧ ω' = ω ∧ K r) := by
    refine XM.of (by decide) (Nat.le_of_ble_eq_true rfl) (fun κ hQ => ?_)
    show Wat κ 0 [(0, .int what)] [] (ω)
    unfold wp_X5_isPart at h
    refine xr_iload_n (pc := 0) κ 0 (x := what) dX5_isPart_0 rfl rfl ?_
    refine xr_if_eq (pc := 1) κ (tgt := 9) dX5_isPart_1 (by decide) (fun c1 => ?_) (fun c1 => ?_)
    · have h := h.1 c1
      refine xr_iconst (pc := 9) κ (v := 1) dX5_isPart_9 (by decide) ?_
      refine xr_goto (pc := 10) κ (tgt := 14) dX5_isPart_10 (by decide) ?_
      exact xr_zret (pc := 14) κ _ hQ rfl dX5_isPart_14 ⟨_, rfl, rfl, h⟩
    · have h := h.2 c1
      refine xr_iload_n (pc := 4) κ 0 (x := what) dX5_isPart_4 rfl rfl ?_
      refine xr_iconst (pc := 5) κ (v := 1) dX5_isPart_5 (by decide) ?_
      refine xr_icmp_ne (pc := 6) κ (tgt := 13) dX5_isPart_6 (by decide) (fun c2 => ?_) (fun c2 => ?_)
      · have h := h.1 c2
        refine xr_iconst (pc := 13) κ (v := 0) dX5_isPart_13 (by decide) ?_
        exact xr_zret (pc := 14) κ _ hQ rfl dX5_isPart_14 ⟨_, rfl, rfl, h⟩
      · have h := h.2 c2
        refine xr_iconst (pc := 9) κ (v := 1) dX5_isPart_9 (by decide) ?_
        refine xr_goto (pc := 10) κ (tgt := 14) dX5_isPart_10 (by decide) ?_
        exact xr_zret (pc := 14) κ _ hQ rfl dX5_isPart_14 ⟨_, rfl, rfl, h⟩
-- ChipVolts.has(II)Z, level 0
def wp_X5_has (bits : Int32) (k : Int32) (K : Int32 → Prop) : Prop :=
    (((bits >>> (k &&& 31)) &&& (1 : Int32)) = 0 →
      K (0 : Int32)) ∧
    (¬ ((bits >>> (k &&& 31)) &&& (1 : Int32)) = 0 →
      K (1 : Int32))
set_option maxHeartbeats 4000000 in
set_option maxRecDepth 100000 in
theorem snd_X5_has {l : Launch} {T : xKd} {ω : xWd} (bits : Int32) (k : Int32) (K : Int32 → Prop) (h : wp_X5_has bits k K) : XM l T yX5_has cX5_has 2 (some .boolean) 0 [.int bits, .int k] (ω) (fun v ω' => ∃ (r : Int32), v = some (.int r) ∧ ω' = ω ∧ K r) := by
    refine XM.of (by decide) (Nat.le_of_ble_eq_true rfl) (fun κ hQ => ?_)
    show Wat κ 0 [(0, .int bits), (1, .int k)] [] (ω)
    unfold wp_X5_has at h
    refine xr_iload_n (pc := 0) κ 0 (x := bits) dX5_has_0 rfl rfl ?_
    refine xr_iload_n (pc := 1) κ 1 (x := k) dX5_has_1 rfl rfl ?_
    refine xr_ishr (pc := 2) κ dX5_has_2 ?_
    refine xr_iconst (pc := 3) κ (v := 1) dX5_has_3 (by decide) ?_
    refine xr_iand (pc := 4) κ dX5_has_4 ?_
    refine xr_if_eq (pc := 5) κ (tgt := 12) dX5_has_5 (by decide) (fun c1 => ?_) (fun c1 => ?_)
    · have h := h.1 c1
      refine xr_iconst (pc := 12) κ (v := 0) dX5_has_12 (by decide) ?_
      exact xr_zret (pc := 13) κ _ hQ rfl dX5_has_13 ⟨_, rfl, rfl, h⟩
    · have h := h.2 c1
      refine xr_iconst (pc := 8) κ (v := 1) dX5_has_8 (by decide) ?_
      refine xr_goto (pc := 9) κ (tgt := 13) dX5_has_9 (by decide) ?_
      exact xr_zret (pc := 13) κ _ hQ rfl dX5_has_13 ⟨_, rfl, rfl, h⟩
-- ChipVolts.isLess(JJJJ)Z, level 0
def wp_X5_isLess (ab : Int64) (be : Int64) (oa : Int64) (ob : Int64) (K : Int32 → Prop) : Prop :=
    ((oa * be) ≤ (ab * ob) →
      K (0 : Int32)) ∧
    (¬ (oa * be) ≤ (ab * ob) →
      K (1 : Int32))
set_option maxHeartbeats 4000000 in
set_option maxRecDepth 100000 in
theorem snd_X5_isLess {l : Launch} {T : xKd} {ω : xWd} (ab : Int64) (be : Int64) (oa : Int64) (ob : Int64) (K : Int32 → Prop) (h : wp_X5_isLess ab be oa ob K) : XM l T yX5_isLess cX5_isLess 8 (some .boolean) 0 [.long ab, .long be, .long oa, .long ob] (ω) (fun v ω' => ∃ (r : Int32), v = some (.int r) ∧ ω' = ω ∧ K r) := by
    refine XM.of (by decide) (Nat.le_of_ble_eq_true rfl) (fun κ hQ => ?_)
    show Wat κ 0 [(0, .long ab), (2, .long be), (4, .long oa), (6, .long ob)] [] (ω)
    unfold wp_X5_isLess at h
    refine xr_lload_n (pc := 0) κ 0 (x := ab) dX5_isLess_0 rfl rfl ?_
    refine xr_lload (pc := 1) κ 3 (x := ob) dX5_isLess_1 rfl ?_
    refine xr_lmul (pc := 3) κ dX5_isLess_3 ?_
    refine xr_lload (pc := 4) κ 2 (x := oa) dX5_isLess_4 rfl ?_
    refine xr_lload_n (pc := 6) κ 1 (x := be) dX5_isLess_6 rfl rfl ?_
    refine xr_lmul (pc := 7) κ dX5_isLess_7 ?_
    refine xr_lcmp_ge (pc := 8) κ (tgt := 16) dX5_isLess_8 dX5_isLess_9 (by decide) (fun c1 => ?_) (fun c1 => ?_)
    · have h := h.1 c1
      refine xr_iconst (pc := 16) κ (v := 0) dX5_isLess_16 (by decide) ?_
      exact xr_zret (pc := 17) κ _ hQ rfl dX5_isLess_17 ⟨_, rfl, rfl, h⟩
    · have h := h.2 c1
      refine xr_iconst (pc := 12) κ (v := 1) dX5_isLess_12 (by decide) ?_
      refine xr_goto (pc := 13) κ (tgt := 17) dX5_isLess_13 (by decide) ?_
      exact xr_zret (pc := 17) κ _ hQ rfl dX5_isLess_17 ⟨_, rfl, rfl, h⟩
-- ChipVolts.commonDivisor(JJ)J, level 0
def nd_X5_commonDivisor_44 (K : Int64 → Prop) (v4 : Int64) : Prop :=
    K v4
set_option maxHeartbeats 4000000 in
set_option maxRecDepth 100000 in
theorem snd_X5_commonDivisor_44 {l : Launch} {T : xKd} {ω : xWd} (κ : XC l T cX5_commonDivisor yX5_commonDivisor.cls 11 (some .long) 0) (K : Int64 → Prop) (hQ : xRet κ (fun v ω' => ∃ (r : Int64), v = some (.long r) ∧ ω' = ω ∧ K r)) (v4 : Int64) (h : nd_X5_commonDivisor_44 K v4) : Wat κ 44 [(4, .long v4)] [] (ω) := by
    unfold nd_X5_commonDivisor_44 at h
    refine xr_lload (pc := 44) κ 0 (x := v4) dX5_commonDivisor_44 rfl ?_
    exact xr_lret (pc := 46) κ _ hQ dX5_commonDivisor_46 ⟨_, rfl, rfl, h⟩
def nd_X5_commonDivisor_9 (K : Int64 → Prop) : Nat → Int64 → Int64 → Int32 → Prop
  | 0 => fun _ _ _ => False
  | n + 1 => fun v4 v6 v8 =>
    ((100 : Int32) ≤ v8 →
      nd_X5_commonDivisor_44 K v4) ∧
    (¬ (100 : Int32) ≤ v8 →
      (v6 = (0 : Int64) →
        nd_X5_commonDivisor_44 K v4) ∧
      (¬ v6 = (0 : Int64) →
        ¬ v6 = 0 ∧
        nd_X5_commonDivisor_9 K n v6 (v4 - v4 / v6 * v6) (v8 + 1)))
set_option maxHeartbeats 4000000 in
set_option maxRecDepth 100000 in
theorem snd_X5_commonDivisor_9 {l : Launch} {T : xKd} {ω : xWd} (κ : XC l T cX5_commonDivisor yX5_commonDivisor.cls 11 (some .long) 0) (K : Int64 → Prop) (hQ : xRet κ (fun v ω' => ∃ (r : Int64), v = some (.long r) ∧ ω' = ω ∧ K r)) : ∀ (n : Nat) (v4 : Int64) (v6 : Int64) (v8 : Int32), nd_X5_commonDivisor_9 K n v4 v6 v8 → Wat κ 9 [(4, .long v4), (6, .long v6), (8, .int v8)] [] (ω) := by
  intro n
  induction n with
  | zero => intro v4 v6 v8 h; exact h.elim
  | succ n ih =>
    intro v4 v6 v8 h
    unfold nd_X5_commonDivisor_9 at h
    refine xr_iload (pc := 9) κ 2 (x := v8) dX5_commonDivisor_9 rfl ?_
    refine xr_bipush (pc := 11) κ (v := 100) dX5_commonDivisor_11 (by decide) ?_
    refine xr_icmp_ge (pc := 13) κ (tgt := 44) dX5_commonDivisor_13 (by decide) (fun c1 => ?_) (fun c1 => ?_)
    · have h := h.1 c1
      refine xr_sub (pc := 44) κ [0] (lv' := [(4, .long v4)]) rfl ?_
      exact snd_X5_commonDivisor_44 κ K hQ _ h
    · have h := h.2 c1
      refine xr_lload (pc := 16) κ 1 (x := v6) dX5_commonDivisor_16 rfl ?_
      refine xr_lconst (pc := 18) κ (v := 0) dX5_commonDivisor_18 (by decide) ?_
      refine xr_lcmp_eq (pc := 19) κ (tgt := 44) dX5_commonDivisor_19 dX5_commonDivisor_20 (by decide) (fun c2 => ?_) (fun c2 => ?_)
      · have h := h.1 c2
        refine xr_sub (pc := 44) κ [0] (lv' := [(4, .long v4)]) rfl ?_
        exact snd_X5_commonDivisor_44 κ K hQ _ h
      · have h := h.2 c2
        refine xr_lload (pc := 23) κ 0 (x := v4) dX5_commonDivisor_23 rfl ?_
        refine xr_lload (pc := 25) κ 1 (x := v6) dX5_commonDivisor_25 rfl ?_
        obtain ⟨i3, h⟩ := h
        refine xr_lrem (pc := 27) κ i3 dX5_commonDivisor_27 ?_
        refine xr_lstore (pc := 28) κ [1, 2, 3, 0] (lv' := [(4, .long v4), (6, .long v6), (8, .int v8), (9, .long (v4 - v4 / v6 * v6))]) dX5_commonDivisor_28 (by decide) rfl ?_
        refine xr_lload (pc := 30) κ 1 (x := v6) dX5_commonDivisor_30 rfl ?_
        refine xr_lstore (pc := 32) κ [0, 1, 2, 3] (lv' := [(4, .long v6), (6, .long v6), (8, .int v8), (9, .long (v4 - v4 / v6 * v6))]) dX5_commonDivisor_32 (by decide) rfl ?_
        refine xr_lload (pc := 34) κ 3 (x := (v4 - v4 / v6 * v6)) dX5_commonDivisor_34 rfl ?_
        refine xr_lstore (pc := 36) κ [1, 0, 2, 3] (lv' := [(4, .long v6), (6, .long (v4 - v4 / v6 * v6)), (8, .int v8), (9, .long (v4 - v4 / v6 * v6))]) dX5_commonDivisor_36 (by decide) rfl ?_
        refine xr_iinc (pc := 38) κ 2 [1, 2, 0, 3] (lv' := [(4, .long v6), (6, .long (v4 - v4 / v6 * v6)), (8, .int (v8 + 1)), (9, .long (v4 - v4 / v6 * v6))]) (x := v8) (v := v8 + 1) dX5_commonDivisor_38 rfl rfl (by decide) rfl ?_
        refine xr_goto (pc := 41) κ (tgt := 9) dX5_commonDivisor_41 (by decide) ?_
        refine xr_sub (pc := 9) κ [0, 1, 2] (lv' := [(4, .long v6), (6, .long (v4 - v4 / v6 * v6)), (8, .int (v8 + 1))]) rfl ?_
        exact ih _ _ _ h
def wp_X5_commonDivisor (a : Int64) (b : Int64) (K : Int64 → Prop) : Prop :=
    ∃ n9 : Nat, nd_X5_commonDivisor_9 K n9 a b (0 : Int32)
set_option maxHeartbeats 4000000 in
set_option maxRecDepth 100000 in
theorem snd_X5_commonDivisor {l : Launch} {T : xKd} {ω : xWd} (a : Int64) (b : Int64) (K : Int64 → Prop) (h : wp_X5_commonDivisor a b K) : XM l T yX5_commonDivisor cX5_commonDivisor 11 (some .long) 0 [.long a, .long b] (ω) (fun v ω' => ∃ (r : Int64), v = some (.long r) ∧ ω' = ω ∧ K r) := by
    refine XM.of (by decide) (Nat.le_of_ble_eq_true rfl) (fun κ hQ => ?_)
    show Wat κ 0 [(0, .long a), (2, .long b)] [] (ω)
    unfold wp_X5_commonDivisor at h
    refine xr_lload_n (pc := 0) κ 0 (x := a) dX5_commonDivisor_0 rfl rfl ?_
    refine xr_lstore (pc := 1) κ [1, 2, 0] (lv' := [(0, .long a), (2, .long b), (4, .long a)]) dX5_commonDivisor_1 (by decide) rfl ?_
    refine xr_lload_n (pc := 3) κ 1 (x := b) dX5_commonDivisor_3 rfl rfl ?_
    refine xr_lstore (pc := 4) κ [1, 2, 3, 0] (lv' := [(0, .long a), (2, .long b), (4, .long a), (6, .long b)]) dX5_commonDivisor_4 (by decide) rfl ?_
    refine xr_iconst (pc := 6) κ (v := 0) dX5_commonDivisor_6 (by decide) ?_
    refine xr_istore (pc := 7) κ [1, 2, 3, 4, 0] (lv' := [(0, .long a), (2, .long b), (4, .long a), (6, .long b), (8, .int (0 : Int32))]) dX5_commonDivisor_7 (by decide) rfl ?_
    refine xr_sub (pc := 9) κ [2, 3, 4] (lv' := [(4, .long a), (6, .long b), (8, .int (0 : Int32))]) rfl ?_
    obtain ⟨n0, h⟩ := h
    exact snd_X5_commonDivisor_9 κ K hQ n0 _ _ _ h
-- ChipVolts.part(JJI)J, level 1
def nd_X5_part_31 (K : Int64 → Prop) (v5 : Int64) (s0 : Int64) : Prop :=
    ¬ v5 = 0 ∧
    K (s0 / v5)
set_option maxHeartbeats 4000000 in
set_option maxRecDepth 100000 in
theorem snd_X5_part_31 {l : Launch} {T : xKd} {ω : xWd} (κ : XC l T cX5_part yX5_part.cls 7 (some .long) 1) (K : Int64 → Prop) (hQ : xRet κ (fun v ω' => ∃ (r : Int64), v = some (.long r) ∧ ω' = ω ∧ K r)) (v5 : Int64) (s0 : Int64) (h : nd_X5_part_31 K v5 s0) : Wat κ 31 [(5, .long v5)] [.long s0] (ω) := by
    unfold nd_X5_part_31 at h
    refine xr_lload (pc := 31) κ 0 (x := v5) dX5_part_31 rfl ?_
    obtain ⟨i4, h⟩ := h
    refine xr_ldiv (pc := 33) κ i4 dX5_part_33 ?_
    exact xr_lret (pc := 34) κ _ hQ dX5_part_34 ⟨_, rfl, rfl, h⟩
def wp_X5_part (ab : Int64) (be : Int64) (what : Int32) (K : Int64 → Prop) : Prop :=
    wp_X5_commonDivisor (if 0 < ab then ab else -ab) be (fun r1 =>
      ((0 : Int64) < r1 →
        (¬ what = 0 →
          nd_X5_part_31 K r1 be) ∧
        (what = 0 →
          nd_X5_part_31 K r1 ab)) ∧
      (¬ (0 : Int64) < r1 →
        K (-3 : Int64)))
set_option maxHeartbeats 4000000 in
set_option maxRecDepth 100000 in
theorem snd_X5_part {l : Launch} {T : xKd} {ω : xWd} (ab : Int64) (be : Int64) (what : Int32) (K : Int64 → Prop) (h : wp_X5_part ab be what K) : XM l T yX5_part cX5_part 7 (some .long) 1 [.long ab, .long be, .int what] (ω) (fun v ω' => ∃ (r : Int64), v = some (.long r) ∧ ω' = ω ∧ K r) := by
    refine XM.of (by decide) (Nat.le_of_ble_eq_true rfl) (fun κ hQ => ?_)
    show Wat κ 0 [(0, .long ab), (2, .long be), (4, .int what)] [] (ω)
    unfold wp_X5_part at h
    refine xr_lload_n (pc := 0) κ 0 (x := ab) dX5_part_0 rfl rfl ?_
    refine xr_mabsL (pc := 1) κ kw_2_52 kw_2_53 kw_1_8 kw_2_54 (by omega) (Nat.le_of_ble_eq_true rfl) dX5_part_1 ?_
    refine xr_lload_n (pc := 4) κ 1 (x := be) dX5_part_4 rfl rfl ?_
    refine xr_callS (pc := 5) κ [.long (if 0 < ab then ab else -ab), .long be] kw_2_55 tg_X5_commonDivisor (snd_X5_commonDivisor _ _ _ h) rfl (by decide) (by decide) (Nat.le_of_ble_eq_true rfl) dX5_part_5 (fun v9 ω9 hk9 => ?_)
    obtain ⟨r1, rfl, e9, h⟩ := hk9
    rw [e9]
    show Wat κ 8 [(0, .long ab), (2, .long be), (4, .int what)] [.long r1] (ω)
    refine xr_lstore (pc := 8) κ [1, 2, 3, 0] (lv' := [(0, .long ab), (2, .long be), (4, .int what), (5, .long r1)]) dX5_part_8 (by decide) rfl ?_
    refine xr_lload (pc := 10) κ 3 (x := r1) dX5_part_10 rfl ?_
    refine xr_lconst (pc := 12) κ (v := 0) dX5_part_12 (by decide) ?_
    refine xr_lcmp_gt (pc := 13) κ (tgt := 21) dX5_part_13 dX5_part_14 (by decide) (fun c2 => ?_) (fun c2 => ?_)
    · have h := h.1 c2
      refine xr_iload (pc := 21) κ 2 (x := what) dX5_part_21 rfl ?_
      refine xr_if_ne (pc := 23) κ (tgt := 30) dX5_part_23 (by decide) (fun c3 => ?_) (fun c3 => ?_)
      · have h := h.1 c3
        refine xr_lload_n (pc := 30) κ 1 (x := be) dX5_part_30 rfl rfl ?_
        refine xr_sub (pc := 31) κ [3] (lv' := [(5, .long r1)]) rfl ?_
        exact snd_X5_part_31 κ K hQ _ _ h
      · have h := h.2 c3
        refine xr_lload_n (pc := 26) κ 0 (x := ab) dX5_part_26 rfl rfl ?_
        refine xr_goto (pc := 27) κ (tgt := 31) dX5_part_27 (by decide) ?_
        refine xr_sub (pc := 31) κ [3] (lv' := [(5, .long r1)]) rfl ?_
        exact snd_X5_part_31 κ K hQ _ _ h
    · have h := h.2 c2
      refine xr_ldc2 (pc := 17) κ (v := -3) kw_2_48 dX5_part_17 ?_
      exact xr_lret (pc := 20) κ _ hQ dX5_part_20 ⟨_, rfl, rfl, h⟩
-- java/lang/Integer.bitCount(I)I, level 0
def wp_J6_bitCount_0f7a4 (i : Int32) (K : Int32 → Prop) : Prop :=
    K ((((((((i - ((((i).toUInt32 >>> (((1 : Int32)).toUInt32 &&& Int32.toUInt32 31)).toInt32) &&& (1431655765 : Int32))) &&& (858993459 : Int32)) + (((((i - ((((i).toUInt32 >>> (((1 : Int32)).toUInt32 &&& Int32.toUInt32 31)).toInt32) &&& (1431655765 : Int32)))).toUInt32 >>> (((2 : Int32)).toUInt32 &&& Int32.toUInt32 31)).toInt32) &&& (858993459 : Int32))) + ((((((i - ((((i).toUInt32 >>> (((1 : Int32)).toUInt32 &&& Int32.toUInt32 31)).toInt32) &&& (1431655765 : Int32))) &&& (858993459 : Int32)) + (((((i - ((((i).toUInt32 >>> (((1 : Int32)).toUInt32 &&& Int32.toUInt32 31)).toInt32) &&& (1431655765 : Int32)))).toUInt32 >>> (((2 : Int32)).toUInt32 &&& Int32.toUInt32 31)).toInt32) &&& (858993459 : Int32)))).toUInt32 >>> (((4 : Int32)).toUInt32 &&& Int32.toUInt32 31)).toInt32)) &&& (252645135 : Int32)) + ((((((((i - ((((i).toUInt32 >>> (((1 : Int32)).toUInt32 &&& Int32.toUInt32 31)).toInt32) &&& (1431655765 : Int32))) &&& (858993459 : Int32)) + (((((i - ((((i).toUInt32 >>> (((1 : Int32)).toUInt32 &&& Int32.toUInt32 31)).toInt32) &&& (1431655765 : Int32)))).toUInt32 >>> (((2 : Int32)).toUInt32 &&& Int32.toUInt32 31)).toInt32) &&& (858993459 : Int32))) + ((((((i - ((((i).toUInt32 >>> (((1 : Int32)).toUInt32 &&& Int32.toUInt32 31)).toInt32) &&& (1431655765 : Int32))) &&& (858993459 : Int32)) + (((((i - ((((i).toUInt32 >>> (((1 : Int32)).toUInt32 &&& Int32.toUInt32 31)).toInt32) &&& (1431655765 : Int32)))).toUInt32 >>> (((2 : Int32)).toUInt32 &&& Int32.toUInt32 31)).toInt32) &&& (858993459 : Int32)))).toUInt32 >>> (((4 : Int32)).toUInt32 &&& Int32.toUInt32 31)).toInt32)) &&& (252645135 : Int32))).toUInt32 >>> (((8 : Int32)).toUInt32 &&& Int32.toUInt32 31)).toInt32)) + (((((((((i - ((((i).toUInt32 >>> (((1 : Int32)).toUInt32 &&& Int32.toUInt32 31)).toInt32) &&& (1431655765 : Int32))) &&& (858993459 : Int32)) + (((((i - ((((i).toUInt32 >>> (((1 : Int32)).toUInt32 &&& Int32.toUInt32 31)).toInt32) &&& (1431655765 : Int32)))).toUInt32 >>> (((2 : Int32)).toUInt32 &&& Int32.toUInt32 31)).toInt32) &&& (858993459 : Int32))) + ((((((i - ((((i).toUInt32 >>> (((1 : Int32)).toUInt32 &&& Int32.toUInt32 31)).toInt32) &&& (1431655765 : Int32))) &&& (858993459 : Int32)) + (((((i - ((((i).toUInt32 >>> (((1 : Int32)).toUInt32 &&& Int32.toUInt32 31)).toInt32) &&& (1431655765 : Int32)))).toUInt32 >>> (((2 : Int32)).toUInt32 &&& Int32.toUInt32 31)).toInt32) &&& (858993459 : Int32)))).toUInt32 >>> (((4 : Int32)).toUInt32 &&& Int32.toUInt32 31)).toInt32)) &&& (252645135 : Int32)) + ((((((((i - ((((i).toUInt32 >>> (((1 : Int32)).toUInt32 &&& Int32.toUInt32 31)).toInt32) &&& (1431655765 : Int32))) &&& (858993459 : Int32)) + (((((i - ((((i).toUInt32 >>> (((1 : Int32)).toUInt32 &&& Int32.toUInt32 31)).toInt32) &&& (1431655765 : Int32)))).toUInt32 >>> (((2 : Int32)).toUInt32 &&& Int32.toUInt32 31)).toInt32) &&& (858993459 : Int32))) + ((((((i - ((((i).toUInt32 >>> (((1 : Int32)).toUInt32 &&& Int32.toUInt32 31)).toInt32) &&& (1431655765 : Int32))) &&& (858993459 : Int32)) + (((((i - ((((i).toUInt32 >>> (((1 : Int32)).toUInt32 &&& Int32.toUInt32 31)).toInt32) &&& (1431655765 : Int32)))).toUInt32 >>> (((2 : Int32)).toUInt32 &&& Int32.toUInt32 31)).toInt32) &&& (858993459 : Int32)))).toUInt32 >>> (((4 : Int32)).toUInt32 &&& Int32.toUInt32 31)).toInt32)) &&& (252645135 : Int32))).toUInt32 >>> (((8 : Int32)).toUInt32 &&& Int32.toUInt32 31)).toInt32))).toUInt32 >>> (((16 : Int32)).toUInt32 &&& Int32.toUInt32 31)).toInt32)) &&& (63 : Int32))
set_option maxHeartbeats 4000000 in
set_option maxRecDepth 100000 in
theorem snd_J6_bitCount_0f7a4 {l : Launch} {T : xKd} {ω : xWd} (i : Int32) (K : Int32 → Prop) (h : wp_J6_bitCount_0f7a4 i K) : XM l T yJ6_bitCount_0f7a4 cJ6_bitCount_0f7a4 1 (some .int) 0 [.int i] (ω) (fun v ω' => ∃ (r : Int32), v = some (.int r) ∧ ω' = ω ∧ K r) := by
    refine XM.of (by decide) (Nat.le_of_ble_eq_true rfl) (fun κ hQ => ?_)
    show Wat κ 0 [(0, .int i)] [] (ω)
    unfold wp_J6_bitCount_0f7a4 at h
    refine xr_iload_n (pc := 0) κ 0 (x := i) dJ6_bitCount_0f7a4_0 rfl rfl ?_
    refine xr_iload_n (pc := 1) κ 0 (x := i) dJ6_bitCount_0f7a4_1 rfl rfl ?_
    refine xr_iconst (pc := 2) κ (v := 1) dJ6_bitCount_0f7a4_2 (by decide) ?_
    refine xr_iushr (pc := 3) κ dJ6_bitCount_0f7a4_3 ?_
    refine xr_ldcw (pc := 4) κ (v := 1431655765) kw_2_162 dJ6_bitCount_0f7a4_4 ?_
    refine xr_iand (pc := 7) κ dJ6_bitCount_0f7a4_7 ?_
    refine xr_isub (pc := 8) κ dJ6_bitCount_0f7a4_8 ?_
    refine xr_istore_n (pc := 9) κ [0] (lv' := [(0, .int (i - ((((i).toUInt32 >>> (((1 : Int32)).toUInt32 &&& Int32.toUInt32 31)).toInt32) &&& (1431655765 : Int32))))]) dJ6_bitCount_0f7a4_9 rfl (by decide) rfl ?_
    refine xr_iload_n (pc := 10) κ 0 (x := (i - ((((i).toUInt32 >>> (((1 : Int32)).toUInt32 &&& Int32.toUInt32 31)).toInt32) &&& (1431655765 : Int32)))) dJ6_bitCount_0f7a4_10 rfl rfl ?_
    refine xr_ldcw (pc := 11) κ (v := 858993459) kw_2_163 dJ6_bitCount_0f7a4_11 ?_
    refine xr_iand (pc := 14) κ dJ6_bitCount_0f7a4_14 ?_
    refine xr_iload_n (pc := 15) κ 0 (x := (i - ((((i).toUInt32 >>> (((1 : Int32)).toUInt32 &&& Int32.toUInt32 31)).toInt32) &&& (1431655765 : Int32)))) dJ6_bitCount_0f7a4_15 rfl rfl ?_
    refine xr_iconst (pc := 16) κ (v := 2) dJ6_bitCount_0f7a4_16 (by decide) ?_
    refine xr_iushr (pc := 17) κ dJ6_bitCount_0f7a4_17 ?_
    refine xr_ldcw (pc := 18) κ (v := 858993459) kw_2_163 dJ6_bitCount_0f7a4_18 ?_
    refine xr_iand (pc := 21) κ dJ6_bitCount_0f7a4_21 ?_
    refine xr_iadd (pc := 22) κ dJ6_bitCount_0f7a4_22 ?_
    refine xr_istore_n (pc := 23) κ [0] (lv' := [(0, .int (((i - ((((i).toUInt32 >>> (((1 : Int32)).toUInt32 &&& Int32.toUInt32 31)).toInt32) &&& (1431655765 : Int32))) &&& (858993459 : Int32)) + (((((i - ((((i).toUInt32 >>> (((1 : Int32)).toUInt32 &&& Int32.toUInt32 31)).toInt32) &&& (1431655765 : Int32)))).toUInt32 >>> (((2 : Int32)).toUInt32 &&& Int32.toUInt32 31)).toInt32) &&& (858993459 : Int32))))]) dJ6_bitCount_0f7a4_23 rfl (by decide) rfl ?_
    refine xr_iload_n (pc := 24) κ 0 (x := (((i - ((((i).toUInt32 >>> (((1 : Int32)).toUInt32 &&& Int32.toUInt32 31)).toInt32) &&& (1431655765 : Int32))) &&& (858993459 : Int32)) + (((((i - ((((i).toUInt32 >>> (((1 : Int32)).toUInt32 &&& Int32.toUInt32 31)).toInt32) &&& (1431655765 : Int32)))).toUInt32 >>> (((2 : Int32)).toUInt32 &&& Int32.toUInt32 31)).toInt32) &&& (858993459 : Int32)))) dJ6_bitCount_0f7a4_24 rfl rfl ?_
    refine xr_iload_n (pc := 25) κ 0 (x := (((i - ((((i).toUInt32 >>> (((1 : Int32)).toUInt32 &&& Int32.toUInt32 31)).toInt32) &&& (1431655765 : Int32))) &&& (858993459 : Int32)) + (((((i - ((((i).toUInt32 >>> (((1 : Int32)).toUInt32 &&& Int32.toUInt32 31)).toInt32) &&& (1431655765 : Int32)))).toUInt32 >>> (((2 : Int32)).toUInt32 &&& Int32.toUInt32 31)).toInt32) &&& (858993459 : Int32)))) dJ6_bitCount_0f7a4_25 rfl rfl ?_
    refine xr_iconst (pc := 26) κ (v := 4) dJ6_bitCount_0f7a4_26 (by decide) ?_
    refine xr_iushr (pc := 27) κ dJ6_bitCount_0f7a4_27 ?_
    refine xr_iadd (pc := 28) κ dJ6_bitCount_0f7a4_28 ?_
    refine xr_ldcw (pc := 29) κ (v := 252645135) kw_2_164 dJ6_bitCount_0f7a4_29 ?_
    refine xr_iand (pc := 32) κ dJ6_bitCount_0f7a4_32 ?_
    refine xr_istore_n (pc := 33) κ [0] (lv' := [(0, .int (((((i - ((((i).toUInt32 >>> (((1 : Int32)).toUInt32 &&& Int32.toUInt32 31)).toInt32) &&& (1431655765 : Int32))) &&& (858993459 : Int32)) + (((((i - ((((i).toUInt32 >>> (((1 : Int32)).toUInt32 &&& Int32.toUInt32 31)).toInt32) &&& (1431655765 : Int32)))).toUInt32 >>> (((2 : Int32)).toUInt32 &&& Int32.toUInt32 31)).toInt32) &&& (858993459 : Int32))) + ((((((i - ((((i).toUInt32 >>> (((1 : Int32)).toUInt32 &&& Int32.toUInt32 31)).toInt32) &&& (1431655765 : Int32))) &&& (858993459 : Int32)) + (((((i - ((((i).toUInt32 >>> (((1 : Int32)).toUInt32 &&& Int32.toUInt32 31)).toInt32) &&& (1431655765 : Int32)))).toUInt32 >>> (((2 : Int32)).toUInt32 &&& Int32.toUInt32 31)).toInt32) &&& (858993459 : Int32)))).toUInt32 >>> (((4 : Int32)).toUInt32 &&& Int32.toUInt32 31)).toInt32)) &&& (252645135 : Int32)))]) dJ6_bitCount_0f7a4_33 rfl (by decide) rfl ?_
    refine xr_iload_n (pc := 34) κ 0 (x := (((((i - ((((i).toUInt32 >>> (((1 : Int32)).toUInt32 &&& Int32.toUInt32 31)).toInt32) &&& (1431655765 : Int32))) &&& (858993459 : Int32)) + (((((i - ((((i).toUInt32 >>> (((1 : Int32)).toUInt32 &&& Int32.toUInt32 31)).toInt32) &&& (1431655765 : Int32)))).toUInt32 >>> (((2 : Int32)).toUInt32 &&& Int32.toUInt32 31)).toInt32) &&& (858993459 : Int32))) + ((((((i - ((((i).toUInt32 >>> (((1 : Int32)).toUInt32 &&& Int32.toUInt32 31)).toInt32) &&& (1431655765 : Int32))) &&& (858993459 : Int32)) + (((((i - ((((i).toUInt32 >>> (((1 : Int32)).toUInt32 &&& Int32.toUInt32 31)).toInt32) &&& (1431655765 : Int32)))).toUInt32 >>> (((2 : Int32)).toUInt32 &&& Int32.toUInt32 31)).toInt32) &&& (858993459 : Int32)))).toUInt32 >>> (((4 : Int32)).toUInt32 &&& Int32.toUInt32 31)).toInt32)) &&& (252645135 : Int32))) dJ6_bitCount_0f7a4_34 rfl rfl ?_
    refine xr_iload_n (pc := 35) κ 0 (x := (((((i - ((((i).toUInt32 >>> (((1 : Int32)).toUInt32 &&& Int32.toUInt32 31)).toInt32) &&& (1431655765 : Int32))) &&& (858993459 : Int32)) + (((((i - ((((i).toUInt32 >>> (((1 : Int32)).toUInt32 &&& Int32.toUInt32 31)).toInt32) &&& (1431655765 : Int32)))).toUInt32 >>> (((2 : Int32)).toUInt32 &&& Int32.toUInt32 31)).toInt32) &&& (858993459 : Int32))) + ((((((i - ((((i).toUInt32 >>> (((1 : Int32)).toUInt32 &&& Int32.toUInt32 31)).toInt32) &&& (1431655765 : Int32))) &&& (858993459 : Int32)) + (((((i - ((((i).toUInt32 >>> (((1 : Int32)).toUInt32 &&& Int32.toUInt32 31)).toInt32) &&& (1431655765 : Int32)))).toUInt32 >>> (((2 : Int32)).toUInt32 &&& Int32.toUInt32 31)).toInt32) &&& (858993459 : Int32)))).toUInt32 >>> (((4 : Int32)).toUInt32 &&& Int32.toUInt32 31)).toInt32)) &&& (252645135 : Int32))) dJ6_bitCount_0f7a4_35 rfl rfl ?_
    refine xr_bipush (pc := 36) κ (v := 8) dJ6_bitCount_0f7a4_36 (by decide) ?_
    refine xr_iushr (pc := 38) κ dJ6_bitCount_0f7a4_38 ?_
    refine xr_iadd (pc := 39) κ dJ6_bitCount_0f7a4_39 ?_
    refine xr_istore_n (pc := 40) κ [0] (lv' := [(0, .int ((((((i - ((((i).toUInt32 >>> (((1 : Int32)).toUInt32 &&& Int32.toUInt32 31)).toInt32) &&& (1431655765 : Int32))) &&& (858993459 : Int32)) + (((((i - ((((i).toUInt32 >>> (((1 : Int32)).toUInt32 &&& Int32.toUInt32 31)).toInt32) &&& (1431655765 : Int32)))).toUInt32 >>> (((2 : Int32)).toUInt32 &&& Int32.toUInt32 31)).toInt32) &&& (858993459 : Int32))) + ((((((i - ((((i).toUInt32 >>> (((1 : Int32)).toUInt32 &&& Int32.toUInt32 31)).toInt32) &&& (1431655765 : Int32))) &&& (858993459 : Int32)) + (((((i - ((((i).toUInt32 >>> (((1 : Int32)).toUInt32 &&& Int32.toUInt32 31)).toInt32) &&& (1431655765 : Int32)))).toUInt32 >>> (((2 : Int32)).toUInt32 &&& Int32.toUInt32 31)).toInt32) &&& (858993459 : Int32)))).toUInt32 >>> (((4 : Int32)).toUInt32 &&& Int32.toUInt32 31)).toInt32)) &&& (252645135 : Int32)) + ((((((((i - ((((i).toUInt32 >>> (((1 : Int32)).toUInt32 &&& Int32.toUInt32 31)).toInt32) &&& (1431655765 : Int32))) &&& (858993459 : Int32)) + (((((i - ((((i).toUInt32 >>> (((1 : Int32)).toUInt32 &&& Int32.toUInt32 31)).toInt32) &&& (1431655765 : Int32)))).toUInt32 >>> (((2 : Int32)).toUInt32 &&& Int32.toUInt32 31)).toInt32) &&& (858993459 : Int32))) + ((((((i - ((((i).toUInt32 >>> (((1 : Int32)).toUInt32 &&& Int32.toUInt32 31)).toInt32) &&& (1431655765 : Int32))) &&& (858993459 : Int32)) + (((((i - ((((i).toUInt32 >>> (((1 : Int32)).toUInt32 &&& Int32.toUInt32 31)).toInt32) &&& (1431655765 : Int32)))).toUInt32 >>> (((2 : Int32)).toUInt32 &&& Int32.toUInt32 31)).toInt32) &&& (858993459 : Int32)))).toUInt32 >>> (((4 : Int32)).toUInt32 &&& Int32.toUInt32 31)).toInt32)) &&& (252645135 : Int32))).toUInt32 >>> (((8 : Int32)).toUInt32 &&& Int32.toUInt32 31)).toInt32)))]) dJ6_bitCount_0f7a4_40 rfl (by decide) rfl ?_
    refine xr_iload_n (pc := 41) κ 0 (x := ((((((i - ((((i).toUInt32 >>> (((1 : Int32)).toUInt32 &&& Int32.toUInt32 31)).toInt32) &&& (1431655765 : Int32))) &&& (858993459 : Int32)) + (((((i - ((((i).toUInt32 >>> (((1 : Int32)).toUInt32 &&& Int32.toUInt32 31)).toInt32) &&& (1431655765 : Int32)))).toUInt32 >>> (((2 : Int32)).toUInt32 &&& Int32.toUInt32 31)).toInt32) &&& (858993459 : Int32))) + ((((((i - ((((i).toUInt32 >>> (((1 : Int32)).toUInt32 &&& Int32.toUInt32 31)).toInt32) &&& (1431655765 : Int32))) &&& (858993459 : Int32)) + (((((i - ((((i).toUInt32 >>> (((1 : Int32)).toUInt32 &&& Int32.toUInt32 31)).toInt32) &&& (1431655765 : Int32)))).toUInt32 >>> (((2 : Int32)).toUInt32 &&& Int32.toUInt32 31)).toInt32) &&& (858993459 : Int32)))).toUInt32 >>> (((4 : Int32)).toUInt32 &&& Int32.toUInt32 31)).toInt32)) &&& (252645135 : Int32)) + ((((((((i - ((((i).toUInt32 >>> (((1 : Int32)).toUInt32 &&& Int32.toUInt32 31)).toInt32) &&& (1431655765 : Int32))) &&& (858993459 : Int32)) + (((((i - ((((i).toUInt32 >>> (((1 : Int32)).toUInt32 &&& Int32.toUInt32 31)).toInt32) &&& (1431655765 : Int32)))).toUInt32 >>> (((2 : Int32)).toUInt32 &&& Int32.toUInt32 31)).toInt32) &&& (858993459 : Int32))) + ((((((i - ((((i).toUInt32 >>> (((1 : Int32)).toUInt32 &&& Int32.toUInt32 31)).toInt32) &&& (1431655765 : Int32))) &&& (858993459 : Int32)) + (((((i - ((((i).toUInt32 >>> (((1 : Int32)).toUInt32 &&& Int32.toUInt32 31)).toInt32) &&& (1431655765 : Int32)))).toUInt32 >>> (((2 : Int32)).toUInt32 &&& Int32.toUInt32 31)).toInt32) &&& (858993459 : Int32)))).toUInt32 >>> (((4 : Int32)).toUInt32 &&& Int32.toUInt32 31)).toInt32)) &&& (252645135 : Int32))).toUInt32 >>> (((8 : Int32)).toUInt32 &&& Int32.toUInt32 31)).toInt32))) dJ6_bitCount_0f7a4_41 rfl rfl ?_
    refine xr_iload_n (pc := 42) κ 0 (x := ((((((i - ((((i).toUInt32 >>> (((1 : Int32)).toUInt32 &&& Int32.toUInt32 31)).toInt32) &&& (1431655765 : Int32))) &&& (858993459 : Int32)) + (((((i - ((((i).toUInt32 >>> (((1 : Int32)).toUInt32 &&& Int32.toUInt32 31)).toInt32) &&& (1431655765 : Int32)))).toUInt32 >>> (((2 : Int32)).toUInt32 &&& Int32.toUInt32 31)).toInt32) &&& (858993459 : Int32))) + ((((((i - ((((i).toUInt32 >>> (((1 : Int32)).toUInt32 &&& Int32.toUInt32 31)).toInt32) &&& (1431655765 : Int32))) &&& (858993459 : Int32)) + (((((i - ((((i).toUInt32 >>> (((1 : Int32)).toUInt32 &&& Int32.toUInt32 31)).toInt32) &&& (1431655765 : Int32)))).toUInt32 >>> (((2 : Int32)).toUInt32 &&& Int32.toUInt32 31)).toInt32) &&& (858993459 : Int32)))).toUInt32 >>> (((4 : Int32)).toUInt32 &&& Int32.toUInt32 31)).toInt32)) &&& (252645135 : Int32)) + ((((((((i - ((((i).toUInt32 >>> (((1 : Int32)).toUInt32 &&& Int32.toUInt32 31)).toInt32) &&& (1431655765 : Int32))) &&& (858993459 : Int32)) + (((((i - ((((i).toUInt32 >>> (((1 : Int32)).toUInt32 &&& Int32.toUInt32 31)).toInt32) &&& (1431655765 : Int32)))).toUInt32 >>> (((2 : Int32)).toUInt32 &&& Int32.toUInt32 31)).toInt32) &&& (858993459 : Int32))) + ((((((i - ((((i).toUInt32 >>> (((1 : Int32)).toUInt32 &&& Int32.toUInt32 31)).toInt32) &&& (1431655765 : Int32))) &&& (858993459 : Int32)) + (((((i - ((((i).toUInt32 >>> (((1 : Int32)).toUInt32 &&& Int32.toUInt32 31)).toInt32) &&& (1431655765 : Int32)))).toUInt32 >>> (((2 : Int32)).toUInt32 &&& Int32.toUInt32 31)).toInt32) &&& (858993459 : Int32)))).toUInt32 >>> (((4 : Int32)).toUInt32 &&& Int32.toUInt32 31)).toInt32)) &&& (252645135 : Int32))).toUInt32 >>> (((8 : Int32)).toUInt32 &&& Int32.toUInt32 31)).toInt32))) dJ6_bitCount_0f7a4_42 rfl rfl ?_
    refine xr_bipush (pc := 43) κ (v := 16) dJ6_bitCount_0f7a4_43 (by decide) ?_
    refine xr_iushr (pc := 45) κ dJ6_bitCount_0f7a4_45 ?_
    refine xr_iadd (pc := 46) κ dJ6_bitCount_0f7a4_46 ?_
    refine xr_istore_n (pc := 47) κ [0] (lv' := [(0, .int (((((((i - ((((i).toUInt32 >>> (((1 : Int32)).toUInt32 &&& Int32.toUInt32 31)).toInt32) &&& (1431655765 : Int32))) &&& (858993459 : Int32)) + (((((i - ((((i).toUInt32 >>> (((1 : Int32)).toUInt32 &&& Int32.toUInt32 31)).toInt32) &&& (1431655765 : Int32)))).toUInt32 >>> (((2 : Int32)).toUInt32 &&& Int32.toUInt32 31)).toInt32) &&& (858993459 : Int32))) + ((((((i - ((((i).toUInt32 >>> (((1 : Int32)).toUInt32 &&& Int32.toUInt32 31)).toInt32) &&& (1431655765 : Int32))) &&& (858993459 : Int32)) + (((((i - ((((i).toUInt32 >>> (((1 : Int32)).toUInt32 &&& Int32.toUInt32 31)).toInt32) &&& (1431655765 : Int32)))).toUInt32 >>> (((2 : Int32)).toUInt32 &&& Int32.toUInt32 31)).toInt32) &&& (858993459 : Int32)))).toUInt32 >>> (((4 : Int32)).toUInt32 &&& Int32.toUInt32 31)).toInt32)) &&& (252645135 : Int32)) + ((((((((i - ((((i).toUInt32 >>> (((1 : Int32)).toUInt32 &&& Int32.toUInt32 31)).toInt32) &&& (1431655765 : Int32))) &&& (858993459 : Int32)) + (((((i - ((((i).toUInt32 >>> (((1 : Int32)).toUInt32 &&& Int32.toUInt32 31)).toInt32) &&& (1431655765 : Int32)))).toUInt32 >>> (((2 : Int32)).toUInt32 &&& Int32.toUInt32 31)).toInt32) &&& (858993459 : Int32))) + ((((((i - ((((i).toUInt32 >>> (((1 : Int32)).toUInt32 &&& Int32.toUInt32 31)).toInt32) &&& (1431655765 : Int32))) &&& (858993459 : Int32)) + (((((i - ((((i).toUInt32 >>> (((1 : Int32)).toUInt32 &&& Int32.toUInt32 31)).toInt32) &&& (1431655765 : Int32)))).toUInt32 >>> (((2 : Int32)).toUInt32 &&& Int32.toUInt32 31)).toInt32) &&& (858993459 : Int32)))).toUInt32 >>> (((4 : Int32)).toUInt32 &&& Int32.toUInt32 31)).toInt32)) &&& (252645135 : Int32))).toUInt32 >>> (((8 : Int32)).toUInt32 &&& Int32.toUInt32 31)).toInt32)) + (((((((((i - ((((i).toUInt32 >>> (((1 : Int32)).toUInt32 &&& Int32.toUInt32 31)).toInt32) &&& (1431655765 : Int32))) &&& (858993459 : Int32)) + (((((i - ((((i).toUInt32 >>> (((1 : Int32)).toUInt32 &&& Int32.toUInt32 31)).toInt32) &&& (1431655765 : Int32)))).toUInt32 >>> (((2 : Int32)).toUInt32 &&& Int32.toUInt32 31)).toInt32) &&& (858993459 : Int32))) + ((((((i - ((((i).toUInt32 >>> (((1 : Int32)).toUInt32 &&& Int32.toUInt32 31)).toInt32) &&& (1431655765 : Int32))) &&& (858993459 : Int32)) + (((((i - ((((i).toUInt32 >>> (((1 : Int32)).toUInt32 &&& Int32.toUInt32 31)).toInt32) &&& (1431655765 : Int32)))).toUInt32 >>> (((2 : Int32)).toUInt32 &&& Int32.toUInt32 31)).toInt32) &&& (858993459 : Int32)))).toUInt32 >>> (((4 : Int32)).toUInt32 &&& Int32.toUInt32 31)).toInt32)) &&& (252645135 : Int32)) + ((((((((i - ((((i).toUInt32 >>> (((1 : Int32)).toUInt32 &&& Int32.toUInt32 31)).toInt32) &&& (1431655765 : Int32))) &&& (858993459 : Int32)) + (((((i - ((((i).toUInt32 >>> (((1 : Int32)).toUInt32 &&& Int32.toUInt32 31)).toInt32) &&& (1431655765 : Int32)))).toUInt32 >>> (((2 : Int32)).toUInt32 &&& Int32.toUInt32 31)).toInt32) &&& (858993459 : Int32))) + ((((((i - ((((i).toUInt32 >>> (((1 : Int32)).toUInt32 &&& Int32.toUInt32 31)).toInt32) &&& (1431655765 : Int32))) &&& (858993459 : Int32)) + (((((i - ((((i).toUInt32 >>> (((1 : Int32)).toUInt32 &&& Int32.toUInt32 31)).toInt32) &&& (1431655765 : Int32)))).toUInt32 >>> (((2 : Int32)).toUInt32 &&& Int32.toUInt32 31)).toInt32) &&& (858993459 : Int32)))).toUInt32 >>> (((4 : Int32)).toUInt32 &&& Int32.toUInt32 31)).toInt32)) &&& (252645135 : Int32))).toUInt32 >>> (((8 : Int32)).toUInt32 &&& Int32.toUInt32 31)).toInt32))).toUInt32 >>> (((16 : Int32)).toUInt32 &&& Int32.toUInt32 31)).toInt32)))]) dJ6_bitCount_0f7a4_47 rfl (by decide) rfl ?_
    refine xr_iload_n (pc := 48) κ 0 (x := (((((((i - ((((i).toUInt32 >>> (((1 : Int32)).toUInt32 &&& Int32.toUInt32 31)).toInt32) &&& (1431655765 : Int32))) &&& (858993459 : Int32)) + (((((i - ((((i).toUInt32 >>> (((1 : Int32)).toUInt32 &&& Int32.toUInt32 31)).toInt32) &&& (1431655765 : Int32)))).toUInt32 >>> (((2 : Int32)).toUInt32 &&& Int32.toUInt32 31)).toInt32) &&& (858993459 : Int32))) + ((((((i - ((((i).toUInt32 >>> (((1 : Int32)).toUInt32 &&& Int32.toUInt32 31)).toInt32) &&& (1431655765 : Int32))) &&& (858993459 : Int32)) + (((((i - ((((i).toUInt32 >>> (((1 : Int32)).toUInt32 &&& Int32.toUInt32 31)).toInt32) &&& (1431655765 : Int32)))).toUInt32 >>> (((2 : Int32)).toUInt32 &&& Int32.toUInt32 31)).toInt32) &&& (858993459 : Int32)))).toUInt32 >>> (((4 : Int32)).toUInt32 &&& Int32.toUInt32 31)).toInt32)) &&& (252645135 : Int32)) + ((((((((i - ((((i).toUInt32 >>> (((1 : Int32)).toUInt32 &&& Int32.toUInt32 31)).toInt32) &&& (1431655765 : Int32))) &&& (858993459 : Int32)) + (((((i - ((((i).toUInt32 >>> (((1 : Int32)).toUInt32 &&& Int32.toUInt32 31)).toInt32) &&& (1431655765 : Int32)))).toUInt32 >>> (((2 : Int32)).toUInt32 &&& Int32.toUInt32 31)).toInt32) &&& (858993459 : Int32))) + ((((((i - ((((i).toUInt32 >>> (((1 : Int32)).toUInt32 &&& Int32.toUInt32 31)).toInt32) &&& (1431655765 : Int32))) &&& (858993459 : Int32)) + (((((i - ((((i).toUInt32 >>> (((1 : Int32)).toUInt32 &&& Int32.toUInt32 31)).toInt32) &&& (1431655765 : Int32)))).toUInt32 >>> (((2 : Int32)).toUInt32 &&& Int32.toUInt32 31)).toInt32) &&& (858993459 : Int32)))).toUInt32 >>> (((4 : Int32)).toUInt32 &&& Int32.toUInt32 31)).toInt32)) &&& (252645135 : Int32))).toUInt32 >>> (((8 : Int32)).toUInt32 &&& Int32.toUInt32 31)).toInt32)) + (((((((((i - ((((i).toUInt32 >>> (((1 : Int32)).toUInt32 &&& Int32.toUInt32 31)).toInt32) &&& (1431655765 : Int32))) &&& (858993459 : Int32)) + (((((i - ((((i).toUInt32 >>> (((1 : Int32)).toUInt32 &&& Int32.toUInt32 31)).toInt32) &&& (1431655765 : Int32)))).toUInt32 >>> (((2 : Int32)).toUInt32 &&& Int32.toUInt32 31)).toInt32) &&& (858993459 : Int32))) + ((((((i - ((((i).toUInt32 >>> (((1 : Int32)).toUInt32 &&& Int32.toUInt32 31)).toInt32) &&& (1431655765 : Int32))) &&& (858993459 : Int32)) + (((((i - ((((i).toUInt32 >>> (((1 : Int32)).toUInt32 &&& Int32.toUInt32 31)).toInt32) &&& (1431655765 : Int32)))).toUInt32 >>> (((2 : Int32)).toUInt32 &&& Int32.toUInt32 31)).toInt32) &&& (858993459 : Int32)))).toUInt32 >>> (((4 : Int32)).toUInt32 &&& Int32.toUInt32 31)).toInt32)) &&& (252645135 : Int32)) + ((((((((i - ((((i).toUInt32 >>> (((1 : Int32)).toUInt32 &&& Int32.toUInt32 31)).toInt32) &&& (1431655765 : Int32))) &&& (858993459 : Int32)) + (((((i - ((((i).toUInt32 >>> (((1 : Int32)).toUInt32 &&& Int32.toUInt32 31)).toInt32) &&& (1431655765 : Int32)))).toUInt32 >>> (((2 : Int32)).toUInt32 &&& Int32.toUInt32 31)).toInt32) &&& (858993459 : Int32))) + ((((((i - ((((i).toUInt32 >>> (((1 : Int32)).toUInt32 &&& Int32.toUInt32 31)).toInt32) &&& (1431655765 : Int32))) &&& (858993459 : Int32)) + (((((i - ((((i).toUInt32 >>> (((1 : Int32)).toUInt32 &&& Int32.toUInt32 31)).toInt32) &&& (1431655765 : Int32)))).toUInt32 >>> (((2 : Int32)).toUInt32 &&& Int32.toUInt32 31)).toInt32) &&& (858993459 : Int32)))).toUInt32 >>> (((4 : Int32)).toUInt32 &&& Int32.toUInt32 31)).toInt32)) &&& (252645135 : Int32))).toUInt32 >>> (((8 : Int32)).toUInt32 &&& Int32.toUInt32 31)).toInt32))).toUInt32 >>> (((16 : Int32)).toUInt32 &&& Int32.toUInt32 31)).toInt32))) dJ6_bitCount_0f7a4_48 rfl rfl ?_
    refine xr_bipush (pc := 49) κ (v := 63) dJ6_bitCount_0f7a4_49 (by decide) ?_
    refine xr_iand (pc := 51) κ dJ6_bitCount_0f7a4_51 ?_
    exact xr_iret (pc := 52) κ _ hQ dJ6_bitCount_0f7a4_52 ⟨_, rfl, rfl, h⟩
-- ChipVoltsModel.in(III)Z, level 0
def wp_X6_in (v : Int32) (lo : Int32) (hi : Int32) (K : Int32 → Prop) : Prop :=
    (v < lo →
      K (0 : Int32)) ∧
    (¬ v < lo →
      (hi < v →
        K (0 : Int32)) ∧
      (¬ hi < v →
        K (1 : Int32)))
set_option maxHeartbeats 4000000 in
set_option maxRecDepth 100000 in
theorem snd_X6_in {l : Launch} {T : xKd} {ω : xWd} (v : Int32) (lo : Int32) (hi : Int32) (K : Int32 → Prop) (h : wp_X6_in v lo hi K) : XM l T yX6_in cX6_in 3 (some .boolean) 0 [.int v, .int lo, .int hi] (ω) (fun v ω' => ∃ (r : Int32), v = some (.int r) ∧ ω' = ω ∧ K r) := by
    refine XM.of (by decide) (Nat.le_of_ble_eq_true rfl) (fun κ hQ => ?_)
    show Wat κ 0 [(0, .int v), (1, .int lo), (2, .int hi)] [] (ω)
    unfold wp_X6_in at h
    refine xr_iload_n (pc := 0) κ 0 (x := v) dX6_in_0 rfl rfl ?_
    refine xr_iload_n (pc := 1) κ 1 (x := lo) dX6_in_1 rfl rfl ?_
    refine xr_icmp_lt (pc := 2) κ (tgt := 14) dX6_in_2 (by decide) (fun c1 => ?_) (fun c1 => ?_)
    · have h := h.1 c1
      refine xr_iconst (pc := 14) κ (v := 0) dX6_in_14 (by decide) ?_
      exact xr_zret (pc := 15) κ _ hQ rfl dX6_in_15 ⟨_, rfl, rfl, h⟩
    · have h := h.2 c1
      refine xr_iload_n (pc := 5) κ 0 (x := v) dX6_in_5 rfl rfl ?_
      refine xr_iload_n (pc := 6) κ 2 (x := hi) dX6_in_6 rfl rfl ?_
      refine xr_icmp_gt (pc := 7) κ (tgt := 14) dX6_in_7 (by decide) (fun c2 => ?_) (fun c2 => ?_)
      · have h := h.1 c2
        refine xr_iconst (pc := 14) κ (v := 0) dX6_in_14 (by decide) ?_
        exact xr_zret (pc := 15) κ _ hQ rfl dX6_in_15 ⟨_, rfl, rfl, h⟩
      · have h := h.2 c2
        refine xr_iconst (pc := 10) κ (v := 1) dX6_in_10 (by decide) ?_
        refine xr_goto (pc := 11) κ (tgt := 15) dX6_in_11 (by decide) ?_
        exact xr_zret (pc := 15) κ _ hQ rfl dX6_in_15 ⟨_, rfl, rfl, h⟩
-- ChipVoltsModel.divisor(JJ)J, level 0
def nd_X6_divisor_17 (K : Int64 → Prop) : Nat → Int64 → Int64 → Prop
  | 0 => fun _ _ => False
  | n + 1 => fun v4 v6 =>
    (v6 = (0 : Int64) →
      K v4) ∧
    (¬ v6 = (0 : Int64) →
      ¬ v6 = 0 ∧
      nd_X6_divisor_17 K n v6 (v4 - v4 / v6 * v6))
set_option maxHeartbeats 4000000 in
set_option maxRecDepth 100000 in
theorem snd_X6_divisor_17 {l : Launch} {T : xKd} {ω : xWd} (κ : XC l T cX6_divisor yX6_divisor.cls 10 (some .long) 0) (K : Int64 → Prop) (hQ : xRet κ (fun v ω' => ∃ (r : Int64), v = some (.long r) ∧ ω' = ω ∧ K r)) : ∀ (n : Nat) (v4 : Int64) (v6 : Int64), nd_X6_divisor_17 K n v4 v6 → Wat κ 17 [(4, .long v4), (6, .long v6)] [] (ω) := by
  intro n
  induction n with
  | zero => intro v4 v6 h; exact h.elim
  | succ n ih =>
    intro v4 v6 h
    unfold nd_X6_divisor_17 at h
    refine xr_lload (pc := 17) κ 1 (x := v6) dX6_divisor_17 rfl ?_
    refine xr_lconst (pc := 19) κ (v := 0) dX6_divisor_19 (by decide) ?_
    refine xr_lcmp_eq (pc := 20) κ (tgt := 42) dX6_divisor_20 dX6_divisor_21 (by decide) (fun c2 => ?_) (fun c2 => ?_)
    · have h := h.1 c2
      refine xr_lload (pc := 42) κ 0 (x := v4) dX6_divisor_42 rfl ?_
      exact xr_lret (pc := 44) κ _ hQ dX6_divisor_44 ⟨_, rfl, rfl, h⟩
    · have h := h.2 c2
      refine xr_lload (pc := 24) κ 0 (x := v4) dX6_divisor_24 rfl ?_
      refine xr_lload (pc := 26) κ 1 (x := v6) dX6_divisor_26 rfl ?_
      obtain ⟨i3, h⟩ := h
      refine xr_lrem (pc := 28) κ i3 dX6_divisor_28 ?_
      refine xr_lstore (pc := 29) κ [1, 2, 0] (lv' := [(4, .long v4), (6, .long v6), (8, .long (v4 - v4 / v6 * v6))]) dX6_divisor_29 (by decide) rfl ?_
      refine xr_lload (pc := 31) κ 1 (x := v6) dX6_divisor_31 rfl ?_
      refine xr_lstore (pc := 33) κ [0, 1, 2] (lv' := [(4, .long v6), (6, .long v6), (8, .long (v4 - v4 / v6 * v6))]) dX6_divisor_33 (by decide) rfl ?_
      refine xr_lload (pc := 35) κ 2 (x := (v4 - v4 / v6 * v6)) dX6_divisor_35 rfl ?_
      refine xr_lstore (pc := 37) κ [1, 0, 2] (lv' := [(4, .long v6), (6, .long (v4 - v4 / v6 * v6)), (8, .long (v4 - v4 / v6 * v6))]) dX6_divisor_37 (by decide) rfl ?_
      refine xr_goto (pc := 39) κ (tgt := 17) dX6_divisor_39 (by decide) ?_
      refine xr_sub (pc := 17) κ [0, 1] (lv' := [(4, .long v6), (6, .long (v4 - v4 / v6 * v6))]) rfl ?_
      exact ih _ _ h
def nd_X6_divisor_12 (K : Int64 → Prop) (v2 : Int64) (s0 : Int64) : Prop :=
    ∃ n17 : Nat, nd_X6_divisor_17 K n17 s0 v2
set_option maxHeartbeats 4000000 in
set_option maxRecDepth 100000 in
theorem snd_X6_divisor_12 {l : Launch} {T : xKd} {ω : xWd} (κ : XC l T cX6_divisor yX6_divisor.cls 10 (some .long) 0) (K : Int64 → Prop) (hQ : xRet κ (fun v ω' => ∃ (r : Int64), v = some (.long r) ∧ ω' = ω ∧ K r)) (v2 : Int64) (s0 : Int64) (h : nd_X6_divisor_12 K v2 s0) : Wat κ 12 [(2, .long v2)] [.long s0] (ω) := by
    unfold nd_X6_divisor_12 at h
    refine xr_lstore (pc := 12) κ [1, 0] (lv' := [(2, .long v2), (4, .long s0)]) dX6_divisor_12 (by decide) rfl ?_
    refine xr_lload_n (pc := 14) κ 0 (x := v2) dX6_divisor_14 rfl rfl ?_
    refine xr_lstore (pc := 15) κ [1, 2, 0] (lv' := [(2, .long v2), (4, .long s0), (6, .long v2)]) dX6_divisor_15 (by decide) rfl ?_
    refine xr_sub (pc := 17) κ [1, 2] (lv' := [(4, .long s0), (6, .long v2)]) rfl ?_
    obtain ⟨n0, h⟩ := h
    exact snd_X6_divisor_17 κ K hQ n0 _ _ h
def wp_X6_divisor (a : Int64) (b : Int64) (K : Int64 → Prop) : Prop :=
    ((0 : Int64) ≤ a →
      nd_X6_divisor_12 K b a) ∧
    (¬ (0 : Int64) ≤ a →
      nd_X6_divisor_12 K b (-a))
set_option maxHeartbeats 4000000 in
set_option maxRecDepth 100000 in
theorem snd_X6_divisor {l : Launch} {T : xKd} {ω : xWd} (a : Int64) (b : Int64) (K : Int64 → Prop) (h : wp_X6_divisor a b K) : XM l T yX6_divisor cX6_divisor 10 (some .long) 0 [.long a, .long b] (ω) (fun v ω' => ∃ (r : Int64), v = some (.long r) ∧ ω' = ω ∧ K r) := by
    refine XM.of (by decide) (Nat.le_of_ble_eq_true rfl) (fun κ hQ => ?_)
    show Wat κ 0 [(0, .long a), (2, .long b)] [] (ω)
    unfold wp_X6_divisor at h
    refine xr_lload_n (pc := 0) κ 0 (x := a) dX6_divisor_0 rfl rfl ?_
    refine xr_lconst (pc := 1) κ (v := 0) dX6_divisor_1 (by decide) ?_
    refine xr_lcmp_ge (pc := 2) κ (tgt := 11) dX6_divisor_2 dX6_divisor_3 (by decide) (fun c1 => ?_) (fun c1 => ?_)
    · have h := h.1 c1
      refine xr_lload_n (pc := 11) κ 0 (x := a) dX6_divisor_11 rfl rfl ?_
      refine xr_sub (pc := 12) κ [1] (lv' := [(2, .long b)]) rfl ?_
      exact snd_X6_divisor_12 κ K hQ _ _ h
    · have h := h.2 c1
      refine xr_lload_n (pc := 6) κ 0 (x := a) dX6_divisor_6 rfl rfl ?_
      refine xr_lneg (pc := 7) κ dX6_divisor_7 ?_
      refine xr_goto (pc := 8) κ (tgt := 12) dX6_divisor_8 (by decide) ?_
      refine xr_sub (pc := 12) κ [1] (lv' := [(2, .long b)]) rfl ?_
      exact snd_X6_divisor_12 κ K hQ _ _ h
-- ChipVoltsModel.lowest(JJI)J, level 1
def wp_X6_lowest (ab : Int64) (be : Int64) (what : Int32) (K : Int64 → Prop) : Prop :=
    wp_X6_divisor ab be (fun r1 =>
      (¬ what = 0 →
        ¬ r1 = 0 ∧
        K (be / r1)) ∧
      (what = 0 →
        ¬ r1 = 0 ∧
        K (ab / r1)))
set_option maxHeartbeats 4000000 in
set_option maxRecDepth 100000 in
theorem snd_X6_lowest {l : Launch} {T : xKd} {ω : xWd} (ab : Int64) (be : Int64) (what : Int32) (K : Int64 → Prop) (h : wp_X6_lowest ab be what K) : XM l T yX6_lowest cX6_lowest 7 (some .long) 1 [.long ab, .long be, .int what] (ω) (fun v ω' => ∃ (r : Int64), v = some (.long r) ∧ ω' = ω ∧ K r) := by
    refine XM.of (by decide) (Nat.le_of_ble_eq_true rfl) (fun κ hQ => ?_)
    show Wat κ 0 [(0, .long ab), (2, .long be), (4, .int what)] [] (ω)
    unfold wp_X6_lowest at h
    refine xr_lload_n (pc := 0) κ 0 (x := ab) dX6_lowest_0 rfl rfl ?_
    refine xr_lload_n (pc := 1) κ 1 (x := be) dX6_lowest_1 rfl rfl ?_
    refine xr_callS (pc := 2) κ [.long ab, .long be] kw_3_170 tg_X6_divisor (snd_X6_divisor _ _ _ h) rfl (by decide) (by decide) (Nat.le_of_ble_eq_true rfl) dX6_lowest_2 (fun v9 ω9 hk9 => ?_)
    obtain ⟨r1, rfl, e9, h⟩ := hk9
    rw [e9]
    show Wat κ 5 [(0, .long ab), (2, .long be), (4, .int what)] [.long r1] (ω)
    refine xr_lstore (pc := 5) κ [1, 2, 3, 0] (lv' := [(0, .long ab), (2, .long be), (4, .int what), (5, .long r1)]) dX6_lowest_5 (by decide) rfl ?_
    refine xr_iload (pc := 7) κ 2 (x := what) dX6_lowest_7 rfl ?_
    refine xr_if_ne (pc := 9) κ (tgt := 19) dX6_lowest_9 (by decide) (fun c2 => ?_) (fun c2 => ?_)
    · have h := h.1 c2
      refine xr_lload_n (pc := 19) κ 1 (x := be) dX6_lowest_19 rfl rfl ?_
      refine xr_lload (pc := 20) κ 3 (x := r1) dX6_lowest_20 rfl ?_
      obtain ⟨i3, h⟩ := h
      refine xr_ldiv (pc := 22) κ i3 dX6_lowest_22 ?_
      exact xr_lret (pc := 23) κ _ hQ dX6_lowest_23 ⟨_, rfl, rfl, h⟩
    · have h := h.2 c2
      refine xr_lload_n (pc := 12) κ 0 (x := ab) dX6_lowest_12 rfl rfl ?_
      refine xr_lload (pc := 13) κ 3 (x := r1) dX6_lowest_13 rfl ?_
      obtain ⟨i4, h⟩ := h
      refine xr_ldiv (pc := 15) κ i4 dX6_lowest_15 ?_
      refine xr_goto (pc := 16) κ (tgt := 23) dX6_lowest_16 (by decide) ?_
      exact xr_lret (pc := 23) κ _ hQ dX6_lowest_23 ⟨_, rfl, rfl, h⟩
-- ChipVoltsModel.bits(I)I, level 0
def nd_X6_bits_4 (K : Int32 → Prop) : Nat → Int32 → Int32 → Int32 → Prop
  | 0 => fun _ _ _ => False
  | n + 1 => fun v0 v1 v2 =>
    ((7 : Int32) ≤ v2 →
      K v1) ∧
    (¬ (7 : Int32) ≤ v2 →
      nd_X6_bits_4 K n v0 (v1 + ((v0 >>> (v2 &&& 31)) &&& (1 : Int32))) (v2 + 1))
set_option maxHeartbeats 4000000 in
set_option maxRecDepth 100000 in
theorem snd_X6_bits_4 {l : Launch} {T : xKd} {ω : xWd} (κ : XC l T cX6_bits yX6_bits.cls 3 (some .int) 0) (K : Int32 → Prop) (hQ : xRet κ (fun v ω' => ∃ (r : Int32), v = some (.int r) ∧ ω' = ω ∧ K r)) : ∀ (n : Nat) (v0 : Int32) (v1 : Int32) (v2 : Int32), nd_X6_bits_4 K n v0 v1 v2 → Wat κ 4 [(0, .int v0), (1, .int v1), (2, .int v2)] [] (ω) := by
  intro n
  induction n with
  | zero => intro v0 v1 v2 h; exact h.elim
  | succ n ih =>
    intro v0 v1 v2 h
    unfold nd_X6_bits_4 at h
    refine xr_iload_n (pc := 4) κ 2 (x := v2) dX6_bits_4 rfl rfl ?_
    refine xr_bipush (pc := 5) κ (v := 7) dX6_bits_5 (by decide) ?_
    refine xr_icmp_ge (pc := 7) κ (tgt := 24) dX6_bits_7 (by decide) (fun c1 => ?_) (fun c1 => ?_)
    · have h := h.1 c1
      refine xr_iload_n (pc := 24) κ 1 (x := v1) dX6_bits_24 rfl rfl ?_
      exact xr_iret (pc := 25) κ _ hQ dX6_bits_25 ⟨_, rfl, rfl, h⟩
    · have h := h.2 c1
      refine xr_iload_n (pc := 10) κ 1 (x := v1) dX6_bits_10 rfl rfl ?_
      refine xr_iload_n (pc := 11) κ 0 (x := v0) dX6_bits_11 rfl rfl ?_
      refine xr_iload_n (pc := 12) κ 2 (x := v2) dX6_bits_12 rfl rfl ?_
      refine xr_ishr (pc := 13) κ dX6_bits_13 ?_
      refine xr_iconst (pc := 14) κ (v := 1) dX6_bits_14 (by decide) ?_
      refine xr_iand (pc := 15) κ dX6_bits_15 ?_
      refine xr_iadd (pc := 16) κ dX6_bits_16 ?_
      refine xr_istore_n (pc := 17) κ [1, 0, 2] (lv' := [(0, .int v0), (1, .int (v1 + ((v0 >>> (v2 &&& 31)) &&& (1 : Int32)))), (2, .int v2)]) dX6_bits_17 rfl (by decide) rfl ?_
      refine xr_iinc (pc := 18) κ 2 [1, 2, 0] (lv' := [(0, .int v0), (1, .int (v1 + ((v0 >>> (v2 &&& 31)) &&& (1 : Int32)))), (2, .int (v2 + 1))]) (x := v2) (v := v2 + 1) dX6_bits_18 rfl rfl (by decide) rfl ?_
      refine xr_goto (pc := 21) κ (tgt := 4) dX6_bits_21 (by decide) ?_
      exact ih _ _ _ h
def wp_X6_bits (set : Int32) (K : Int32 → Prop) : Prop :=
    ∃ n4 : Nat, nd_X6_bits_4 K n4 set (0 : Int32) (0 : Int32)
set_option maxHeartbeats 4000000 in
set_option maxRecDepth 100000 in
theorem snd_X6_bits {l : Launch} {T : xKd} {ω : xWd} (set : Int32) (K : Int32 → Prop) (h : wp_X6_bits set K) : XM l T yX6_bits cX6_bits 3 (some .int) 0 [.int set] (ω) (fun v ω' => ∃ (r : Int32), v = some (.int r) ∧ ω' = ω ∧ K r) := by
    refine XM.of (by decide) (Nat.le_of_ble_eq_true rfl) (fun κ hQ => ?_)
    show Wat κ 0 [(0, .int set)] [] (ω)
    unfold wp_X6_bits at h
    refine xr_iconst (pc := 0) κ (v := 0) dX6_bits_0 (by decide) ?_
    refine xr_istore_n (pc := 1) κ [1, 0] (lv' := [(0, .int set), (1, .int (0 : Int32))]) dX6_bits_1 rfl (by decide) rfl ?_
    refine xr_iconst (pc := 2) κ (v := 0) dX6_bits_2 (by decide) ?_
    refine xr_istore_n (pc := 3) κ [1, 2, 0] (lv' := [(0, .int set), (1, .int (0 : Int32)), (2, .int (0 : Int32))]) dX6_bits_3 rfl (by decide) rfl ?_
    obtain ⟨n0, h⟩ := h
    exact snd_X6_bits_4 κ K hQ n0 _ _ _ h
