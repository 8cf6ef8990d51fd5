-- ChipVoltsModel.isKnot(I)Z, level 1
def wp_X6_isKnot (k : Int32) (c : CS) (t : MT) (K : Int32 → CS → MT → Prop) : Prop :=
    wp_X6_in k (0 : Int32) ((c_n c) - (1 : Int32)) (fun r1 =>
      narrow .boolean (.int r1) = .int r1 ∧ K r1 c t)
set_option maxHeartbeats 4000000 in
set_option maxRecDepth 100000 in
theorem snd_X6_isKnot {l : Launch} (k : Int32) (c : CS) (t : MT) (K : Int32 → CS → MT → Prop) (h : wp_X6_isKnot k c t K) : XM l xTM yX6_isKnot cX6_isKnot 2 (some .boolean) 1 [.ref 0, .int k] (wM c t) (fun v ω' => ∃ (r : Int32) (c' : CS) (t' : MT), v = some (.int r) ∧ ω' = wM c' t' ∧ K r c' t') := by
    refine XM.of (by decide) (Nat.le_of_ble_eq_true rfl) (fun κ hQ => ?_)
    show Wat κ 0 [(0, .ref 0), (1, .int k)] [] (wM c t)
    unfold wp_X6_isKnot at h
    refine xr_iload_n (pc := 0) κ 1 (x := k) dX6_isKnot_0 rfl rfl ?_
    refine xr_iconst (pc := 1) κ (v := 0) dX6_isKnot_1 (by decide) ?_
    refine xr_aload_n (pc := 2) κ 0 (x := 0) dX6_isKnot_2 rfl rfl ?_
    refine xr_get (pc := 3) κ xc6 (k := 0) (f := 0) (v := .int (c_n c)) kw_3_23 (by decide) rfl (by decide) rfl dX6_isKnot_3 ?_
    refine xr_iconst (pc := 6) κ (v := 1) dX6_isKnot_6 (by decide) ?_
    refine xr_isub (pc := 7) κ dX6_isKnot_7 ?_
    refine xr_callS (pc := 8) κ [.int k, .int (0 : Int32), .int ((c_n c) - (1 : Int32))] kw_3_106 tg_X6_in (snd_X6_in _ _ _ _ h) rfl (by decide) (by decide) (Nat.le_of_ble_eq_true rfl) dX6_isKnot_8 (fun v9 ω9 hk9 => ?_)
    obtain ⟨r1, rfl, e9, h⟩ := hk9
    rw [e9]
    show Wat κ 11 [(0, .ref 0), (1, .int k)] [.int r1] (wM c t)
    obtain ⟨hn, h⟩ := h
    exact xr_zret (pc := 11) κ _ hQ hn dX6_isKnot_11 ⟨_, _, _, rfl, rfl, h⟩
-- ChipVoltsModel.net(I)I, level 1
def nd_X6_net_40 (K : Int32 → CS → MT → Prop) : Nat → Int32 → CS → MT → Prop
  | 0 => fun _ _ _ => False
  | n + 1 => fun v2 c t =>
    ((7 : Int32) ≤ v2 →
      K (1 : Int32) c t) ∧
    (¬ (7 : Int32) ≤ v2 →
      vp_in v2 7 ∧
      nd_X6_net_40 K n (v2 + 1) (cs_pulls c (upd (c_pulls c) v2.toNatClampNeg (0 : Int32))) t)
set_option maxHeartbeats 4000000 in
set_option maxRecDepth 100000 in
theorem snd_X6_net_40 {l : Launch} (κ : XC l xTM cX6_net yX6_net.cls 3 (some .int) 1) (K : Int32 → CS → MT → Prop) (hQ : xRet κ (fun v ω' => ∃ (r : Int32) (c' : CS) (t' : MT), v = some (.int r) ∧ ω' = wM c' t' ∧ K r c' t')) : ∀ (n : Nat) (v2 : Int32) (c : CS) (t : MT), nd_X6_net_40 K n v2 c t → Wat κ 40 [(0, .ref 0), (2, .int v2)] [] (wM c t) := by
  intro n
  induction n with
  | zero => intro v2 c t h; exact h.elim
  | succ n ih =>
    intro v2 c t h
    unfold nd_X6_net_40 at h
    refine xr_iload_n (pc := 40) κ 1 (x := v2) dX6_net_40 rfl rfl ?_
    refine xr_bipush (pc := 41) κ (v := 7) dX6_net_41 (by decide) ?_
    refine xr_icmp_ge (pc := 43) κ (tgt := 59) dX6_net_43 (by decide) (fun c3 => ?_) (fun c3 => ?_)
    · have h := h.1 c3
      refine xr_iconst (pc := 59) κ (v := 1) dX6_net_59 (by decide) ?_
      exact xr_iret (pc := 60) κ _ hQ dX6_net_60 ⟨_, _, _, rfl, rfl, h⟩
    · have h := h.2 c3
      refine xr_aload_n (pc := 46) κ 0 (x := 0) dX6_net_46 rfl rfl ?_
      refine xr_get (pc := 47) κ xc6 (k := 0) (f := 7) (v := .ref 5) kw_3_30 (by decide) rfl (by decide) rfl dX6_net_47 ?_
      refine xr_iload_n (pc := 50) κ 1 (x := v2) dX6_net_50 rfl rfl ?_
      refine xr_iconst (pc := 51) κ (v := 0) dX6_net_51 (by decide) ?_
      obtain ⟨i4, h⟩ := h
      refine xr_iast (pc := 52) κ (k := 5) (n := 7) (f := c_pulls c) (ω' := wM (cs_pulls c (upd (c_pulls c) v2.toNatClampNeg (0 : Int32))) t) (by decide) rfl rfl i4 (wMa_pulls _ _ _) dX6_net_52 ?_
      refine xr_iinc (pc := 53) κ 1 [1, 0] (lv' := [(0, .ref 0), (2, .int (v2 + 1))]) (x := v2) (v := v2 + 1) dX6_net_53 rfl rfl (by decide) rfl ?_
      refine xr_goto (pc := 56) κ (tgt := 40) dX6_net_56 (by decide) ?_
      exact ih _ _ _ h
def wp_X6_net (kn : Int32) (c : CS) (t : MT) (K : Int32 → CS → MT → Prop) : Prop :=
    wp_X6_in kn (2 : Int32) (7 : Int32) (fun r1 =>
      (¬ r1 = 0 →
        ∃ n40 : Nat, nd_X6_net_40 K n40 (0 : Int32) (cs_budget (cs_nb (cs_pads (cs_wires (cs_n c kn) (0 : Int32)) (0 : Int32)) (0 : Int32)) (0 : Int32)) t) ∧
      (r1 = 0 →
        K (-2 : Int32) c t))
set_option maxHeartbeats 4000000 in
set_option maxRecDepth 100000 in
theorem snd_X6_net {l : Launch} (kn : Int32) (c : CS) (t : MT) (K : Int32 → CS → MT → Prop) (h : wp_X6_net kn c t K) : XM l xTM yX6_net cX6_net 3 (some .int) 1 [.ref 0, .int kn] (wM c t) (fun v ω' => ∃ (r : Int32) (c' : CS) (t' : MT), v = some (.int r) ∧ ω' = wM c' t' ∧ K r c' t') := by
    refine XM.of (by decide) (Nat.le_of_ble_eq_true rfl) (fun κ hQ => ?_)
    show Wat κ 0 [(0, .ref 0), (1, .int kn)] [] (wM c t)
    unfold wp_X6_net at h
    refine xr_iload_n (pc := 0) κ 1 (x := kn) dX6_net_0 rfl rfl ?_
    refine xr_iconst (pc := 1) κ (v := 2) dX6_net_1 (by decide) ?_
    refine xr_bipush (pc := 2) κ (v := 7) dX6_net_2 (by decide) ?_
    refine xr_callS (pc := 4) κ [.int kn, .int (2 : Int32), .int (7 : Int32)] kw_3_106 tg_X6_in (snd_X6_in _ _ _ _ h) rfl (by decide) (by decide) (Nat.le_of_ble_eq_true rfl) dX6_net_4 (fun v9 ω9 hk9 => ?_)
    obtain ⟨r1, rfl, e9, h⟩ := hk9
    rw [e9]
    show Wat κ 7 [(0, .ref 0), (1, .int kn)] [.int r1] (wM c t)
    refine xr_if_ne (pc := 7) κ (tgt := 13) dX6_net_7 (by decide) (fun c2 => ?_) (fun c2 => ?_)
    · have h := h.1 c2
      refine xr_aload_n (pc := 13) κ 0 (x := 0) dX6_net_13 rfl rfl ?_
      refine xr_iload_n (pc := 14) κ 1 (x := kn) dX6_net_14 rfl rfl ?_
      refine xr_put (pc := 15) κ xc6 (k := 0) (f := 0) (v := .int kn) (ω' := wM (cs_n c kn) t) kw_3_23 (by decide) rfl (by decide) rfl (fun _ => rfl) (fun _ => rfl) (Nat.le_of_ble_eq_true rfl) (wMf_n _ _ _) dX6_net_15 ?_
      refine xr_aload_n (pc := 18) κ 0 (x := 0) dX6_net_18 rfl rfl ?_
      refine xr_iconst (pc := 19) κ (v := 0) dX6_net_19 (by decide) ?_
      refine xr_put (pc := 20) κ xc6 (k := 0) (f := 1) (v := .int (0 : Int32)) (ω' := wM (cs_wires (cs_n c kn) (0 : Int32)) t) kw_3_24 (by decide) rfl (by decide) rfl (fun _ => rfl) (fun _ => rfl) (Nat.le_of_ble_eq_true rfl) (wMf_wires _ _ _) dX6_net_20 ?_
      refine xr_aload_n (pc := 23) κ 0 (x := 0) dX6_net_23 rfl rfl ?_
      refine xr_iconst (pc := 24) κ (v := 0) dX6_net_24 (by decide) ?_
      refine xr_put (pc := 25) κ xc6 (k := 0) (f := 6) (v := .int (0 : Int32)) (ω' := wM (cs_pads (cs_wires (cs_n c kn) (0 : Int32)) (0 : Int32)) t) kw_3_29 (by decide) rfl (by decide) rfl (fun _ => rfl) (fun _ => rfl) (Nat.le_of_ble_eq_true rfl) (wMf_pads _ _ _) dX6_net_25 ?_
      refine xr_aload_n (pc := 28) κ 0 (x := 0) dX6_net_28 rfl rfl ?_
      refine xr_iconst (pc := 29) κ (v := 0) dX6_net_29 (by decide) ?_
      refine xr_put (pc := 30) κ xc6 (k := 0) (f := 8) (v := .int (0 : Int32)) (ω' := wM (cs_nb (cs_pads (cs_wires (cs_n c kn) (0 : Int32)) (0 : Int32)) (0 : Int32)) t) kw_3_31 (by decide) rfl (by decide) rfl (fun _ => rfl) (fun _ => rfl) (Nat.le_of_ble_eq_true rfl) (wMf_nb _ _ _) dX6_net_30 ?_
      refine xr_aload_n (pc := 33) κ 0 (x := 0) dX6_net_33 rfl rfl ?_
      refine xr_iconst (pc := 34) κ (v := 0) dX6_net_34 (by decide) ?_
      refine xr_put (pc := 35) κ xc6 (k := 0) (f := 11) (v := .int (0 : Int32)) (ω' := wM (cs_budget (cs_nb (cs_pads (cs_wires (cs_n c kn) (0 : Int32)) (0 : Int32)) (0 : Int32)) (0 : Int32)) t) kw_3_34 (by decide) rfl (by decide) rfl (fun _ => rfl) (fun _ => rfl) (Nat.le_of_ble_eq_true rfl) (wMf_budget _ _ _) dX6_net_35 ?_
      refine xr_iconst (pc := 38) κ (v := 0) dX6_net_38 (by decide) ?_
      refine xr_istore_n (pc := 39) κ [1, 2, 0] (lv' := [(0, .ref 0), (1, .int kn), (2, .int (0 : Int32))]) dX6_net_39 rfl (by decide) rfl ?_
      refine xr_sub (pc := 40) κ [0, 2] (lv' := [(0, .ref 0), (2, .int (0 : Int32))]) rfl ?_
      obtain ⟨n0, h⟩ := h
      exact snd_X6_net_40 κ K hQ n0 _ _ _ h
    · have h := h.2 c2
      refine xr_bipush (pc := 10) κ (v := -2) dX6_net_10 (by decide) ?_
      exact xr_iret (pc := 12) κ _ hQ dX6_net_12 ⟨_, _, _, rfl, rfl, h⟩
-- ChipVoltsModel.wire(IIII)I, level 2
def wp_X6_wire (a : Int32) (b : Int32) (wi : Int32) (pr : Int32) (c : CS) (t : MT) (K : Int32 → CS → MT → Prop) : Prop :=
    wp_X6_isKnot a c t (fun r1 c1_ t1_ =>
      (r1 = 0 →
        K (-2 : Int32) c1_ t1_) ∧
      (¬ r1 = 0 →
        wp_X6_isKnot b c1_ t1_ (fun r3 c3_ t3_ =>
          (r3 = 0 →
            K (-2 : Int32) c3_ t3_) ∧
          (¬ r3 = 0 →
            (a = b →
              K (-2 : Int32) c3_ t3_) ∧
            (¬ a = b →
              wp_X6_in wi (1 : Int32) (6 : Int32) (fun r6 =>
                (r6 = 0 →
                  K (-2 : Int32) c3_ t3_) ∧
                (¬ r6 = 0 →
                  wp_X6_in pr (1 : Int32) (100 : Int32) (fun r8 =>
                    (¬ r8 = 0 →
                      (¬ (c_wires c3_) = (12 : Int32) →
                        vp_in (c_wires c3_) 12 ∧
                        vp_in (c_wires c3_) 12 ∧
                        vp_in (c_wires c3_) 12 ∧
                        vp_in (c_wires c3_) 12 ∧
                        K (((c_wires c3_) + (1 : Int32)) - (1 : Int32)) (cs_wires (cs_price (cs_wide (cs_to (cs_from c3_ (upd (c_from c3_) (((c_wires c3_)).toNatClampNeg) a)) (upd (c_to c3_) (((c_wires c3_)).toNatClampNeg) b)) (upd (c_wide c3_) (((c_wires c3_)).toNatClampNeg) wi)) (upd (c_price c3_) (((c_wires c3_)).toNatClampNeg) pr)) ((c_wires c3_) + (1 : Int32))) t3_) ∧
                      ((c_wires c3_) = (12 : Int32) →
                        K (-4 : Int32) c3_ t3_)) ∧
                    (r8 = 0 →
                      K (-2 : Int32) c3_ t3_)))))))))
set_option maxHeartbeats 4000000 in
set_option maxRecDepth 100000 in
theorem snd_X6_wire {l : Launch} (a : Int32) (b : Int32) (wi : Int32) (pr : Int32) (c : CS) (t : MT) (K : Int32 → CS → MT → Prop) (h : wp_X6_wire a b wi pr c t K) : XM l xTM yX6_wire cX6_wire 5 (some .int) 2 [.ref 0, .int a, .int b, .int wi, .int pr] (wM c t) (fun v ω' => ∃ (r : Int32) (c' : CS) (t' : MT), v = some (.int r) ∧ ω' = wM c' t' ∧ K r c' t') := by
    refine XM.of (by decide) (Nat.le_of_ble_eq_true rfl) (fun κ hQ => ?_)
    show Wat κ 0 [(0, .ref 0), (1, .int a), (2, .int b), (3, .int wi), (4, .int pr)] [] (wM c t)
    unfold wp_X6_wire at h
    refine xr_aload_n (pc := 0) κ 0 (x := 0) dX6_wire_0 rfl rfl ?_
    refine xr_iload_n (pc := 1) κ 1 (x := a) dX6_wire_1 rfl rfl ?_
    refine xr_callV (pc := 2) κ [.int a] kw_3_113 tg_X6_isKnot (snd_X6_isKnot _ _ _ _ h) rfl (by decide) (by decide) (by decide) rfl (ci := 6) rfl rfl (Nat.le_of_ble_eq_true rfl) dX6_wire_2 (fun v9 ω9 hk9 => ?_)
    obtain ⟨r1, c1_, t1_, rfl, rfl, h⟩ := hk9
    skip
    show Wat κ 5 [(0, .ref 0), (1, .int a), (2, .int b), (3, .int wi), (4, .int pr)] [.int r1] (wM c1_ t1_)
    refine xr_if_eq (pc := 5) κ (tgt := 42) dX6_wire_5 (by decide) (fun c2 => ?_) (fun c2 => ?_)
    · have h := h.1 c2
      refine xr_bipush (pc := 42) κ (v := -2) dX6_wire_42 (by decide) ?_
      exact xr_iret (pc := 44) κ _ hQ dX6_wire_44 ⟨_, _, _, rfl, rfl, h⟩
    · have h := h.2 c2
      refine xr_aload_n (pc := 8) κ 0 (x := 0) dX6_wire_8 rfl rfl ?_
      refine xr_iload_n (pc := 9) κ 2 (x := b) dX6_wire_9 rfl rfl ?_
      refine xr_callV (pc := 10) κ [.int b] kw_3_113 tg_X6_isKnot (snd_X6_isKnot _ _ _ _ h) rfl (by decide) (by decide) (by decide) rfl (ci := 6) rfl rfl (Nat.le_of_ble_eq_true rfl) dX6_wire_10 (fun v9 ω9 hk9 => ?_)
      obtain ⟨r3, c3_, t3_, rfl, rfl, h⟩ := hk9
      skip
      show Wat κ 13 [(0, .ref 0), (1, .int a), (2, .int b), (3, .int wi), (4, .int pr)] [.int r3] (wM c3_ t3_)
      refine xr_if_eq (pc := 13) κ (tgt := 42) dX6_wire_13 (by decide) (fun c4 => ?_) (fun c4 => ?_)
      · have h := h.1 c4
        refine xr_bipush (pc := 42) κ (v := -2) dX6_wire_42 (by decide) ?_
        exact xr_iret (pc := 44) κ _ hQ dX6_wire_44 ⟨_, _, _, rfl, rfl, h⟩
      · have h := h.2 c4
        refine xr_iload_n (pc := 16) κ 1 (x := a) dX6_wire_16 rfl rfl ?_
        refine xr_iload_n (pc := 17) κ 2 (x := b) dX6_wire_17 rfl rfl ?_
        refine xr_icmp_eq (pc := 18) κ (tgt := 42) dX6_wire_18 (by decide) (fun c5 => ?_) (fun c5 => ?_)
        · have h := h.1 c5
          refine xr_bipush (pc := 42) κ (v := -2) dX6_wire_42 (by decide) ?_
          exact xr_iret (pc := 44) κ _ hQ dX6_wire_44 ⟨_, _, _, rfl, rfl, h⟩
        · have h := h.2 c5
          refine xr_iload_n (pc := 21) κ 3 (x := wi) dX6_wire_21 rfl rfl ?_
          refine xr_iconst (pc := 22) κ (v := 1) dX6_wire_22 (by decide) ?_
          refine xr_bipush (pc := 23) κ (v := 6) dX6_wire_23 (by decide) ?_
          refine xr_callS (pc := 25) κ [.int wi, .int (1 : Int32), .int (6 : Int32)] kw_3_106 tg_X6_in (snd_X6_in _ _ _ _ h) rfl (by decide) (by decide) (Nat.le_of_ble_eq_true rfl) dX6_wire_25 (fun v9 ω9 hk9 => ?_)
          obtain ⟨r6, rfl, e9, h⟩ := hk9
          rw [e9]
          show Wat κ 28 [(0, .ref 0), (1, .int a), (2, .int b), (3, .int wi), (4, .int pr)] [.int r6] (wM c3_ t3_)
          refine xr_if_eq (pc := 28) κ (tgt := 42) dX6_wire_28 (by decide) (fun c7 => ?_) (fun c7 => ?_)
          · have h := h.1 c7
            refine xr_bipush (pc := 42) κ (v := -2) dX6_wire_42 (by decide) ?_
            exact xr_iret (pc := 44) κ _ hQ dX6_wire_44 ⟨_, _, _, rfl, rfl, h⟩
          · have h := h.2 c7
            refine xr_iload (pc := 31) κ 4 (x := pr) dX6_wire_31 rfl ?_
            refine xr_iconst (pc := 33) κ (v := 1) dX6_wire_33 (by decide) ?_
            refine xr_bipush (pc := 34) κ (v := 100) dX6_wire_34 (by decide) ?_
            refine xr_callS (pc := 36) κ [.int pr, .int (1 : Int32), .int (100 : Int32)] kw_3_106 tg_X6_in (snd_X6_in _ _ _ _ h) rfl (by decide) (by decide) (Nat.le_of_ble_eq_true rfl) dX6_wire_36 (fun v9 ω9 hk9 => ?_)
            obtain ⟨r8, rfl, e9, h⟩ := hk9
            rw [e9]
            show Wat κ 39 [(0, .ref 0), (1, .int a), (2, .int b), (3, .int wi), (4, .int pr)] [.int r8] (wM c3_ t3_)
            refine xr_if_ne (pc := 39) κ (tgt := 45) dX6_wire_39 (by decide) (fun c9 => ?_) (fun c9 => ?_)
            · have h := h.1 c9
              refine xr_aload_n (pc := 45) κ 0 (x := 0) dX6_wire_45 rfl rfl ?_
              refine xr_get (pc := 46) κ xc6 (k := 0) (f := 1) (v := .int (c_wires c3_)) kw_3_24 (by decide) rfl (by decide) rfl dX6_wire_46 ?_
              refine xr_bipush (pc := 49) κ (v := 12) dX6_wire_49 (by decide) ?_
              refine xr_icmp_ne (pc := 51) κ (tgt := 57) dX6_wire_51 (by decide) (fun c10 => ?_) (fun c10 => ?_)
              · have h := h.1 c10
                refine xr_aload_n (pc := 57) κ 0 (x := 0) dX6_wire_57 rfl rfl ?_
                refine xr_get (pc := 58) κ xc6 (k := 0) (f := 2) (v := .ref 1) kw_3_25 (by decide) rfl (by decide) rfl dX6_wire_58 ?_
                refine xr_aload_n (pc := 61) κ 0 (x := 0) dX6_wire_61 rfl rfl ?_
                refine xr_get (pc := 62) κ xc6 (k := 0) (f := 1) (v := .int (c_wires c3_)) kw_3_24 (by decide) rfl (by decide) rfl dX6_wire_62 ?_
                refine xr_iload_n (pc := 65) κ 1 (x := a) dX6_wire_65 rfl rfl ?_
                obtain ⟨i11, h⟩ := h
                refine xr_iast (pc := 66) κ (k := 1) (n := 12) (f := c_from c3_) (ω' := wM (cs_from c3_ (upd (c_from c3_) (((c_wires c3_)).toNatClampNeg) a)) t3_) (by decide) rfl rfl i11 (wMa_from _ _ _) dX6_wire_66 ?_
                refine xr_aload_n (pc := 67) κ 0 (x := 0) dX6_wire_67 rfl rfl ?_
                refine xr_get (pc := 68) κ xc6 (k := 0) (f := 3) (v := .ref 2) kw_3_26 (by decide) rfl (by decide) rfl dX6_wire_68 ?_
                refine xr_aload_n (pc := 71) κ 0 (x := 0) dX6_wire_71 rfl rfl ?_
                refine xr_get (pc := 72) κ xc6 (k := 0) (f := 1) (v := .int (c_wires c3_)) kw_3_24 (by decide) rfl (by decide) rfl dX6_wire_72 ?_
                refine xr_iload_n (pc := 75) κ 2 (x := b) dX6_wire_75 rfl rfl ?_
                obtain ⟨i12, h⟩ := h
                refine xr_iast (pc := 76) κ (k := 2) (n := 12) (f := c_to c3_) (ω' := wM (cs_to (cs_from c3_ (upd (c_from c3_) (((c_wires c3_)).toNatClampNeg) a)) (upd (c_to c3_) (((c_wires c3_)).toNatClampNeg) b)) t3_) (by decide) rfl rfl i12 (wMa_to _ _ _) dX6_wire_76 ?_
                refine xr_aload_n (pc := 77) κ 0 (x := 0) dX6_wire_77 rfl rfl ?_
                refine xr_get (pc := 78) κ xc6 (k := 0) (f := 4) (v := .ref 3) kw_3_27 (by decide) rfl (by decide) rfl dX6_wire_78 ?_
                refine xr_aload_n (pc := 81) κ 0 (x := 0) dX6_wire_81 rfl rfl ?_
                refine xr_get (pc := 82) κ xc6 (k := 0) (f := 1) (v := .int (c_wires c3_)) kw_3_24 (by decide) rfl (by decide) rfl dX6_wire_82 ?_
                refine xr_iload_n (pc := 85) κ 3 (x := wi) dX6_wire_85 rfl rfl ?_
                obtain ⟨i13, h⟩ := h
                refine xr_iast (pc := 86) κ (k := 3) (n := 12) (f := c_wide c3_) (ω' := wM (cs_wide (cs_to (cs_from c3_ (upd (c_from c3_) (((c_wires c3_)).toNatClampNeg) a)) (upd (c_to c3_) (((c_wires c3_)).toNatClampNeg) b)) (upd (c_wide c3_) (((c_wires c3_)).toNatClampNeg) wi)) t3_) (by decide) rfl rfl i13 (wMa_wide _ _ _) dX6_wire_86 ?_
                refine xr_aload_n (pc := 87) κ 0 (x := 0) dX6_wire_87 rfl rfl ?_
                refine xr_get (pc := 88) κ xc6 (k := 0) (f := 5) (v := .ref 4) kw_3_28 (by decide) rfl (by decide) rfl dX6_wire_88 ?_
                refine xr_aload_n (pc := 91) κ 0 (x := 0) dX6_wire_91 rfl rfl ?_
                refine xr_get (pc := 92) κ xc6 (k := 0) (f := 1) (v := .int (c_wires c3_)) kw_3_24 (by decide) rfl (by decide) rfl dX6_wire_92 ?_
                refine xr_iload (pc := 95) κ 4 (x := pr) dX6_wire_95 rfl ?_
                obtain ⟨i14, h⟩ := h
                refine xr_iast (pc := 97) κ (k := 4) (n := 12) (f := c_price c3_) (ω' := wM (cs_price (cs_wide (cs_to (cs_from c3_ (upd (c_from c3_) (((c_wires c3_)).toNatClampNeg) a)) (upd (c_to c3_) (((c_wires c3_)).toNatClampNeg) b)) (upd (c_wide c3_) (((c_wires c3_)).toNatClampNeg) wi)) (upd (c_price c3_) (((c_wires c3_)).toNatClampNeg) pr)) t3_) (by decide) rfl rfl i14 (wMa_price _ _ _) dX6_wire_97 ?_
                refine xr_aload_n (pc := 98) κ 0 (x := 0) dX6_wire_98 rfl rfl ?_
                refine xr_dup (pc := 99) κ rfl dX6_wire_99 ?_
                refine xr_get (pc := 100) κ xc6 (k := 0) (f := 1) (v := .int (c_wires c3_)) kw_3_24 (by decide) rfl (by decide) rfl dX6_wire_100 ?_
                refine xr_iconst (pc := 103) κ (v := 1) dX6_wire_103 (by decide) ?_
                refine xr_iadd (pc := 104) κ dX6_wire_104 ?_
                refine xr_put (pc := 105) κ xc6 (k := 0) (f := 1) (v := .int ((c_wires c3_) + (1 : Int32))) (ω' := wM (cs_wires (cs_price (cs_wide (cs_to (cs_from c3_ (upd (c_from c3_) (((c_wires c3_)).toNatClampNeg) a)) (upd (c_to c3_) (((c_wires c3_)).toNatClampNeg) b)) (upd (c_wide c3_) (((c_wires c3_)).toNatClampNeg) wi)) (upd (c_price c3_) (((c_wires c3_)).toNatClampNeg) pr)) ((c_wires c3_) + (1 : Int32))) t3_) kw_3_24 (by decide) rfl (by decide) rfl (fun _ => rfl) (fun _ => rfl) (Nat.le_of_ble_eq_true rfl) (wMf_wires _ _ _) dX6_wire_105 ?_
                refine xr_aload_n (pc := 108) κ 0 (x := 0) dX6_wire_108 rfl rfl ?_
                refine xr_get (pc := 109) κ xc6 (k := 0) (f := 1) (v := .int ((c_wires c3_) + (1 : Int32))) kw_3_24 (by decide) rfl (by decide) rfl dX6_wire_109 ?_
                refine xr_iconst (pc := 112) κ (v := 1) dX6_wire_112 (by decide) ?_
                refine xr_isub (pc := 113) κ dX6_wire_113 ?_
                exact xr_iret (pc := 114) κ _ hQ dX6_wire_114 ⟨_, _, _, rfl, rfl, h⟩
              · have h := h.2 c10
                refine xr_bipush (pc := 54) κ (v := -4) dX6_wire_54 (by decide) ?_
                exact xr_iret (pc := 56) κ _ hQ dX6_wire_56 ⟨_, _, _, rfl, rfl, h⟩
            · have h := h.2 c9
              refine xr_bipush (pc := 42) κ (v := -2) dX6_wire_42 (by decide) ?_
              exact xr_iret (pc := 44) κ _ hQ dX6_wire_44 ⟨_, _, _, rfl, rfl, h⟩
-- ChipVoltsModel.width(II)I, level 1
def wp_X6_width (w : Int32) (v : Int32) (c : CS) (t : MT) (K : Int32 → CS → MT → Prop) : Prop :=
    wp_X6_in w (0 : Int32) ((c_wires c) - (1 : Int32)) (fun r1 =>
      (r1 = 0 →
        K (-2 : Int32) c t) ∧
      (¬ r1 = 0 →
        wp_X6_in v (1 : Int32) (6 : Int32) (fun r3 =>
          (¬ r3 = 0 →
            vp_in w 12 ∧
            vp_in w 12 ∧
            K (c_wide c w.toNatClampNeg) (cs_wide c (upd (c_wide c) w.toNatClampNeg v)) t) ∧
          (r3 = 0 →
            K (-2 : Int32) c t))))
set_option maxHeartbeats 4000000 in
set_option maxRecDepth 100000 in
theorem snd_X6_width {l : Launch} (w : Int32) (v : Int32) (c : CS) (t : MT) (K : Int32 → CS → MT → Prop) (h : wp_X6_width w v c t K) : XM l xTM yX6_width cX6_width 4 (some .int) 1 [.ref 0, .int w, .int v] (wM c t) (fun v ω' => ∃ (r : Int32) (c' : CS) (t' : MT), v = some (.int r) ∧ ω' = wM c' t' ∧ K r c' t') := by
    refine XM.of (by decide) (Nat.le_of_ble_eq_true rfl) (fun κ hQ => ?_)
    show Wat κ 0 [(0, .ref 0), (1, .int w), (2, .int v)] [] (wM c t)
    unfold wp_X6_width at h
    refine xr_iload_n (pc := 0) κ 1 (x := w) dX6_width_0 rfl rfl ?_
    refine xr_iconst (pc := 1) κ (v := 0) dX6_width_1 (by decide) ?_
    refine xr_aload_n (pc := 2) κ 0 (x := 0) dX6_width_2 rfl rfl ?_
    refine xr_get (pc := 3) κ xc6 (k := 0) (f := 1) (v := .int (c_wires c)) kw_3_24 (by decide) rfl (by decide) rfl dX6_width_3 ?_
    refine xr_iconst (pc := 6) κ (v := 1) dX6_width_6 (by decide) ?_
    refine xr_isub (pc := 7) κ dX6_width_7 ?_
    refine xr_callS (pc := 8) κ [.int w, .int (0 : Int32), .int ((c_wires c) - (1 : Int32))] kw_3_106 tg_X6_in (snd_X6_in _ _ _ _ h) rfl (by decide) (by decide) (Nat.le_of_ble_eq_true rfl) dX6_width_8 (fun v9 ω9 hk9 => ?_)
    obtain ⟨r1, rfl, e9, h⟩ := hk9
    rw [e9]
    show Wat κ 11 [(0, .ref 0), (1, .int w), (2, .int v)] [.int r1] (wM c t)
    refine xr_if_eq (pc := 11) κ (tgt := 24) dX6_width_11 (by decide) (fun c2 => ?_) (fun c2 => ?_)
    · have h := h.1 c2
      refine xr_bipush (pc := 24) κ (v := -2) dX6_width_24 (by decide) ?_
      exact xr_iret (pc := 26) κ _ hQ dX6_width_26 ⟨_, _, _, rfl, rfl, h⟩
    · have h := h.2 c2
      refine xr_iload_n (pc := 14) κ 2 (x := v) dX6_width_14 rfl rfl ?_
      refine xr_iconst (pc := 15) κ (v := 1) dX6_width_15 (by decide) ?_
      refine xr_bipush (pc := 16) κ (v := 6) dX6_width_16 (by decide) ?_
      refine xr_callS (pc := 18) κ [.int v, .int (1 : Int32), .int (6 : Int32)] kw_3_106 tg_X6_in (snd_X6_in _ _ _ _ h) rfl (by decide) (by decide) (Nat.le_of_ble_eq_true rfl) dX6_width_18 (fun v9 ω9 hk9 => ?_)
      obtain ⟨r3, rfl, e9, h⟩ := hk9
      rw [e9]
      show Wat κ 21 [(0, .ref 0), (1, .int w), (2, .int v)] [.int r3] (wM c t)
      refine xr_if_ne (pc := 21) κ (tgt := 27) dX6_width_21 (by decide) (fun c4 => ?_) (fun c4 => ?_)
      · have h := h.1 c4
        refine xr_aload_n (pc := 27) κ 0 (x := 0) dX6_width_27 rfl rfl ?_
        refine xr_get (pc := 28) κ xc6 (k := 0) (f := 4) (v := .ref 3) kw_3_27 (by decide) rfl (by decide) rfl dX6_width_28 ?_
        refine xr_iload_n (pc := 31) κ 1 (x := w) dX6_width_31 rfl rfl ?_
        obtain ⟨i5, h⟩ := h
        refine xr_iald (pc := 32) κ (k := 3) (n := 12) (f := c_wide c) (by decide) rfl rfl i5 dX6_width_32 ?_
        refine xr_istore_n (pc := 33) κ [1, 2, 3, 0] (lv' := [(0, .ref 0), (1, .int w), (2, .int v), (3, .int (c_wide c w.toNatClampNeg))]) dX6_width_33 rfl (by decide) rfl ?_
        refine xr_aload_n (pc := 34) κ 0 (x := 0) dX6_width_34 rfl rfl ?_
        refine xr_get (pc := 35) κ xc6 (k := 0) (f := 4) (v := .ref 3) kw_3_27 (by decide) rfl (by decide) rfl dX6_width_35 ?_
        refine xr_iload_n (pc := 38) κ 1 (x := w) dX6_width_38 rfl rfl ?_
        refine xr_iload_n (pc := 39) κ 2 (x := v) dX6_width_39 rfl rfl ?_
        obtain ⟨i6, h⟩ := h
        refine xr_iast (pc := 40) κ (k := 3) (n := 12) (f := c_wide c) (ω' := wM (cs_wide c (upd (c_wide c) w.toNatClampNeg v)) t) (by decide) rfl rfl i6 (wMa_wide _ _ _) dX6_width_40 ?_
        refine xr_iload_n (pc := 41) κ 3 (x := (c_wide c w.toNatClampNeg)) dX6_width_41 rfl rfl ?_
        exact xr_iret (pc := 42) κ _ hQ dX6_width_42 ⟨_, _, _, rfl, rfl, h⟩
      · have h := h.2 c4
        refine xr_bipush (pc := 24) κ (v := -2) dX6_width_24 (by decide) ?_
        exact xr_iret (pc := 26) κ _ hQ dX6_width_26 ⟨_, _, _, rfl, rfl, h⟩
-- ChipVoltsModel.pad(IZ)I, level 2
def nd_X6_pad_28 (K : Int32 → CS → MT → Prop) (v1 : Int32) (v2 : Int32) (s0 : Int32) (c : CS) (t : MT) : Prop :=
    (¬ s0 = v2 →
      K (1 : Int32) (cs_pads c ((c_pads c) ^^^ ((1 : Int32) <<< (v1 &&& 31)))) t) ∧
    (s0 = v2 →
      K (-3 : Int32) c t)
set_option maxHeartbeats 4000000 in
set_option maxRecDepth 100000 in
theorem snd_X6_pad_28 {l : Launch} (κ : XC l xTM cX6_pad yX6_pad.cls 3 (some .int) 2) (K : Int32 → CS → MT → Prop) (hQ : xRet κ (fun v ω' => ∃ (r : Int32) (c' : CS) (t' : MT), v = some (.int r) ∧ ω' = wM c' t' ∧ K r c' t')) (v1 : Int32) (v2 : Int32) (s0 : Int32) (c : CS) (t : MT) (h : nd_X6_pad_28 K v1 v2 s0 c t) : Wat κ 28 [(0, .ref 0), (1, .int v1), (2, .int v2)] [.int s0] (wM c t) := by
    unfold nd_X6_pad_28 at h
    refine xr_iload_n (pc := 28) κ 2 (x := v2) dX6_pad_28 rfl rfl ?_
    refine xr_icmp_ne (pc := 29) κ (tgt := 35) dX6_pad_29 (by decide) (fun c4 => ?_) (fun c4 => ?_)
    · have h := h.1 c4
      refine xr_aload_n (pc := 35) κ 0 (x := 0) dX6_pad_35 rfl rfl ?_
      refine xr_aload_n (pc := 36) κ 0 (x := 0) dX6_pad_36 rfl rfl ?_
      refine xr_get (pc := 37) κ xc6 (k := 0) (f := 6) (v := .int (c_pads c)) kw_3_29 (by decide) rfl (by decide) rfl dX6_pad_37 ?_
      refine xr_iconst (pc := 40) κ (v := 1) dX6_pad_40 (by decide) ?_
      refine xr_iload_n (pc := 41) κ 1 (x := v1) dX6_pad_41 rfl rfl ?_
      refine xr_ishl (pc := 42) κ dX6_pad_42 ?_
      refine xr_ixor (pc := 43) κ dX6_pad_43 ?_
      refine xr_put (pc := 44) κ xc6 (k := 0) (f := 6) (v := .int ((c_pads c) ^^^ ((1 : Int32) <<< (v1 &&& 31)))) (ω' := wM (cs_pads c ((c_pads c) ^^^ ((1 : Int32) <<< (v1 &&& 31)))) t) kw_3_29 (by decide) rfl (by decide) rfl (fun _ => rfl) (fun _ => rfl) (Nat.le_of_ble_eq_true rfl) (wMf_pads _ _ _) dX6_pad_44 ?_
      refine xr_iconst (pc := 47) κ (v := 1) dX6_pad_47 (by decide) ?_
      exact xr_iret (pc := 48) κ _ hQ dX6_pad_48 ⟨_, _, _, rfl, rfl, h⟩
    · have h := h.2 c4
      refine xr_bipush (pc := 32) κ (v := -3) dX6_pad_32 (by decide) ?_
      exact xr_iret (pc := 34) κ _ hQ dX6_pad_34 ⟨_, _, _, rfl, rfl, h⟩
def wp_X6_pad (k : Int32) (is : Int32) (c : CS) (t : MT) (K : Int32 → CS → MT → Prop) : Prop :=
    wp_X6_isKnot k c t (fun r1 c1_ t1_ =>
      (¬ r1 = 0 →
        (¬ (((c_pads c1_) >>> (k &&& 31)) &&& (1 : Int32)) = (1 : Int32) →
          nd_X6_pad_28 K k is (0 : Int32) c1_ t1_) ∧
        ((((c_pads c1_) >>> (k &&& 31)) &&& (1 : Int32)) = (1 : Int32) →
          nd_X6_pad_28 K k is (1 : Int32) c1_ t1_)) ∧
      (r1 = 0 →
        K (-2 : Int32) c1_ t1_))
set_option maxHeartbeats 4000000 in
set_option maxRecDepth 100000 in
theorem snd_X6_pad {l : Launch} (k : Int32) (is : Int32) (c : CS) (t : MT) (K : Int32 → CS → MT → Prop) (h : wp_X6_pad k is c t K) : XM l xTM yX6_pad cX6_pad 3 (some .int) 2 [.ref 0, .int k, .int is] (wM c t) (fun v ω' => ∃ (r : Int32) (c' : CS) (t' : MT), v = some (.int r) ∧ ω' = wM c' t' ∧ K r c' t') := by
    refine XM.of (by decide) (Nat.le_of_ble_eq_true rfl) (fun κ hQ => ?_)
    show Wat κ 0 [(0, .ref 0), (1, .int k), (2, .int is)] [] (wM c t)
    unfold wp_X6_pad at h
    refine xr_aload_n (pc := 0) κ 0 (x := 0) dX6_pad_0 rfl rfl ?_
    refine xr_iload_n (pc := 1) κ 1 (x := k) dX6_pad_1 rfl rfl ?_
    refine xr_callV (pc := 2) κ [.int k] kw_3_113 tg_X6_isKnot (snd_X6_isKnot _ _ _ _ h) rfl (by decide) (by decide) (by decide) rfl (ci := 6) rfl rfl (Nat.le_of_ble_eq_true rfl) dX6_pad_2 (fun v9 ω9 hk9 => ?_)
    obtain ⟨r1, c1_, t1_, rfl, rfl, h⟩ := hk9
    skip
    show Wat κ 5 [(0, .ref 0), (1, .int k), (2, .int is)] [.int r1] (wM c1_ t1_)
    refine xr_if_ne (pc := 5) κ (tgt := 11) dX6_pad_5 (by decide) (fun c2 => ?_) (fun c2 => ?_)
    · have h := h.1 c2
      refine xr_aload_n (pc := 11) κ 0 (x := 0) dX6_pad_11 rfl rfl ?_
      refine xr_get (pc := 12) κ xc6 (k := 0) (f := 6) (v := .int (c_pads c1_)) kw_3_29 (by decide) rfl (by decide) rfl dX6_pad_12 ?_
      refine xr_iload_n (pc := 15) κ 1 (x := k) dX6_pad_15 rfl rfl ?_
      refine xr_ishr (pc := 16) κ dX6_pad_16 ?_
      refine xr_iconst (pc := 17) κ (v := 1) dX6_pad_17 (by decide) ?_
      refine xr_iand (pc := 18) κ dX6_pad_18 ?_
      refine xr_iconst (pc := 19) κ (v := 1) dX6_pad_19 (by decide) ?_
      refine xr_icmp_ne (pc := 20) κ (tgt := 27) dX6_pad_20 (by decide) (fun c3 => ?_) (fun c3 => ?_)
      · have h := h.1 c3
        refine xr_iconst (pc := 27) κ (v := 0) dX6_pad_27 (by decide) ?_
        exact snd_X6_pad_28 κ K hQ _ _ _ _ _ h
      · have h := h.2 c3
        refine xr_iconst (pc := 23) κ (v := 1) dX6_pad_23 (by decide) ?_
        refine xr_goto (pc := 24) κ (tgt := 28) dX6_pad_24 (by decide) ?_
        exact snd_X6_pad_28 κ K hQ _ _ _ _ _ h
    · have h := h.2 c2
      refine xr_bipush (pc := 8) κ (v := -2) dX6_pad_8 (by decide) ?_
      exact xr_iret (pc := 10) κ _ hQ dX6_pad_10 ⟨_, _, _, rfl, rfl, h⟩
-- ChipVoltsModel.pull(II)I, level 2
def wp_X6_pull (k : Int32) (v : Int32) (c : CS) (t : MT) (K : Int32 → CS → MT → Prop) : Prop :=
    wp_X6_isKnot k c t (fun r1 c1_ t1_ =>
      (r1 = 0 →
        K (-2 : Int32) c1_ t1_) ∧
      (¬ r1 = 0 →
        wp_X6_in v (0 : Int32) (100 : Int32) (fun r3 =>
          (¬ r3 = 0 →
            vp_in k 7 ∧
            vp_in k 7 ∧
            K (c_pulls c1_ k.toNatClampNeg) (cs_pulls c1_ (upd (c_pulls c1_) k.toNatClampNeg v)) t1_) ∧
          (r3 = 0 →
            K (-2 : Int32) c1_ t1_))))
set_option maxHeartbeats 4000000 in
set_option maxRecDepth 100000 in
theorem snd_X6_pull {l : Launch} (k : Int32) (v : Int32) (c : CS) (t : MT) (K : Int32 → CS → MT → Prop) (h : wp_X6_pull k v c t K) : XM l xTM yX6_pull cX6_pull 4 (some .int) 2 [.ref 0, .int k, .int v] (wM c t) (fun v ω' => ∃ (r : Int32) (c' : CS) (t' : MT), v = some (.int r) ∧ ω' = wM c' t' ∧ K r c' t') := by
    refine XM.of (by decide) (Nat.le_of_ble_eq_true rfl) (fun κ hQ => ?_)
    show Wat κ 0 [(0, .ref 0), (1, .int k), (2, .int v)] [] (wM c t)
    unfold wp_X6_pull at h
    refine xr_aload_n (pc := 0) κ 0 (x := 0) dX6_pull_0 rfl rfl ?_
    refine xr_iload_n (pc := 1) κ 1 (x := k) dX6_pull_1 rfl rfl ?_
    refine xr_callV (pc := 2) κ [.int k] kw_3_113 tg_X6_isKnot (snd_X6_isKnot _ _ _ _ h) rfl (by decide) (by decide) (by decide) rfl (ci := 6) rfl rfl (Nat.le_of_ble_eq_true rfl) dX6_pull_2 (fun v9 ω9 hk9 => ?_)
    obtain ⟨r1, c1_, t1_, rfl, rfl, h⟩ := hk9
    skip
    show Wat κ 5 [(0, .ref 0), (1, .int k), (2, .int v)] [.int r1] (wM c1_ t1_)
    refine xr_if_eq (pc := 5) κ (tgt := 18) dX6_pull_5 (by decide) (fun c2 => ?_) (fun c2 => ?_)
    · have h := h.1 c2
      refine xr_bipush (pc := 18) κ (v := -2) dX6_pull_18 (by decide) ?_
      exact xr_iret (pc := 20) κ _ hQ dX6_pull_20 ⟨_, _, _, rfl, rfl, h⟩
    · have h := h.2 c2
      refine xr_iload_n (pc := 8) κ 2 (x := v) dX6_pull_8 rfl rfl ?_
      refine xr_iconst (pc := 9) κ (v := 0) dX6_pull_9 (by decide) ?_
      refine xr_bipush (pc := 10) κ (v := 100) dX6_pull_10 (by decide) ?_
      refine xr_callS (pc := 12) κ [.int v, .int (0 : Int32), .int (100 : Int32)] kw_3_106 tg_X6_in (snd_X6_in _ _ _ _ h) rfl (by decide) (by decide) (Nat.le_of_ble_eq_true rfl) dX6_pull_12 (fun v9 ω9 hk9 => ?_)
      obtain ⟨r3, rfl, e9, h⟩ := hk9
      rw [e9]
      show Wat κ 15 [(0, .ref 0), (1, .int k), (2, .int v)] [.int r3] (wM c1_ t1_)
      refine xr_if_ne (pc := 15) κ (tgt := 21) dX6_pull_15 (by decide) (fun c4 => ?_) (fun c4 => ?_)
      · have h := h.1 c4
        refine xr_aload_n (pc := 21) κ 0 (x := 0) dX6_pull_21 rfl rfl ?_
        refine xr_get (pc := 22) κ xc6 (k := 0) (f := 7) (v := .ref 5) kw_3_30 (by decide) rfl (by decide) rfl dX6_pull_22 ?_
        refine xr_iload_n (pc := 25) κ 1 (x := k) dX6_pull_25 rfl rfl ?_
        obtain ⟨i5, h⟩ := h
        refine xr_iald (pc := 26) κ (k := 5) (n := 7) (f := c_pulls c1_) (by decide) rfl rfl i5 dX6_pull_26 ?_
        refine xr_istore_n (pc := 27) κ [1, 2, 3, 0] (lv' := [(0, .ref 0), (1, .int k), (2, .int v), (3, .int (c_pulls c1_ k.toNatClampNeg))]) dX6_pull_27 rfl (by decide) rfl ?_
        refine xr_aload_n (pc := 28) κ 0 (x := 0) dX6_pull_28 rfl rfl ?_
        refine xr_get (pc := 29) κ xc6 (k := 0) (f := 7) (v := .ref 5) kw_3_30 (by decide) rfl (by decide) rfl dX6_pull_29 ?_
        refine xr_iload_n (pc := 32) κ 1 (x := k) dX6_pull_32 rfl rfl ?_
        refine xr_iload_n (pc := 33) κ 2 (x := v) dX6_pull_33 rfl rfl ?_
        obtain ⟨i6, h⟩ := h
        refine xr_iast (pc := 34) κ (k := 5) (n := 7) (f := c_pulls c1_) (ω' := wM (cs_pulls c1_ (upd (c_pulls c1_) k.toNatClampNeg v)) t1_) (by decide) rfl rfl i6 (wMa_pulls _ _ _) dX6_pull_34 ?_
        refine xr_iload_n (pc := 35) κ 3 (x := (c_pulls c1_ k.toNatClampNeg)) dX6_pull_35 rfl rfl ?_
        exact xr_iret (pc := 36) κ _ hQ dX6_pull_36 ⟨_, _, _, rfl, rfl, h⟩
      · have h := h.2 c4
        refine xr_bipush (pc := 18) κ (v := -2) dX6_pull_18 (by decide) ?_
        exact xr_iret (pc := 20) κ _ hQ dX6_pull_20 ⟨_, _, _, rfl, rfl, h⟩
-- ChipVoltsModel.leadsTo(II)Z, level 0
def nd_X6_leadsTo_81 (K : Int32 → CS → MT → Prop) (L5 : Int32 → Int32 → Int32 → CS → MT → Prop) (L17 : Int32 → Int32 → Int32 → Int32 → CS → MT → Prop) (v2 : Int32) (v3 : Int32) (v4 : Int32) (v5 : Int32) (c : CS) (t : MT) : Prop :=
    L17 v2 v3 v4 (v5 + 1) c t
set_option maxHeartbeats 4000000 in
set_option maxRecDepth 100000 in
theorem snd_X6_leadsTo_81 {l : Launch} (κ : XC l xTM cX6_leadsTo yX6_leadsTo.cls 6 (some .boolean) 0) (K : Int32 → CS → MT → Prop) (hQ : xRet κ (fun v ω' => ∃ (r : Int32) (c' : CS) (t' : MT), v = some (.int r) ∧ ω' = wM c' t' ∧ K r c' t')) (L5 : Int32 → Int32 → Int32 → CS → MT → Prop) (L17 : Int32 → Int32 → Int32 → Int32 → CS → MT → Prop) (hL5 : ∀ (v2 : Int32) (v3 : Int32) (v4 : Int32) (c : CS) (t : MT), L5 v2 v3 v4 c t → Wat κ 5 [(0, .ref 0), (2, .int v2), (3, .int v3), (4, .int v4)] [] (wM c t)) (hL17 : ∀ (v2 : Int32) (v3 : Int32) (v4 : Int32) (v5 : Int32) (c : CS) (t : MT), L17 v2 v3 v4 v5 c t → Wat κ 17 [(0, .ref 0), (2, .int v2), (3, .int v3), (4, .int v4), (5, .int v5)] [] (wM c t)) (v2 : Int32) (v3 : Int32) (v4 : Int32) (v5 : Int32) (c : CS) (t : MT) (h : nd_X6_leadsTo_81 K L5 L17 v2 v3 v4 v5 c t) : Wat κ 81 [(0, .ref 0), (2, .int v2), (3, .int v3), (4, .int v4), (5, .int v5)] [] (wM c t) := by
    unfold nd_X6_leadsTo_81 at h
    refine xr_iinc (pc := 81) κ 4 [1, 2, 3, 4, 0] (lv' := [(0, .ref 0), (2, .int v2), (3, .int v3), (4, .int v4), (5, .int (v5 + 1))]) (x := v5) (v := v5 + 1) dX6_leadsTo_81 rfl rfl (by decide) rfl ?_
    refine xr_goto (pc := 84) κ (tgt := 17) dX6_leadsTo_84 (by decide) ?_
    exact hL17 _ _ _ _ _ _ h
def nd_X6_leadsTo_17 (K : Int32 → CS → MT → Prop) (L5 : Int32 → Int32 → Int32 → CS → MT → Prop) : Nat → Int32 → Int32 → Int32 → Int32 → CS → MT → Prop
  | 0 => fun _ _ _ _ _ _ => False
  | n + 1 => fun v2 v3 v4 v5 c t =>
    ((c_wires c) ≤ v5 →
      L5 v2 v3 (v4 + 1) c t) ∧
    (¬ (c_wires c) ≤ v5 →
      (v5 = v2 →
        nd_X6_leadsTo_81 K L5 (fun v2 v3 v4 v5 c t => nd_X6_leadsTo_17 K L5 n v2 v3 v4 v5 c t) v2 v3 v4 v5 c t) ∧
      (¬ v5 = v2 →
        vp_in v5 12 ∧
        vp_in v5 12 ∧
        (¬ (((v3 >>> ((c_from c v5.toNatClampNeg) &&& 31)) &&& (1 : Int32)) ||| ((v3 >>> ((c_to c v5.toNatClampNeg) &&& 31)) &&& (1 : Int32))) = (1 : Int32) →
          nd_X6_leadsTo_81 K L5 (fun v2 v3 v4 v5 c t => nd_X6_leadsTo_17 K L5 n v2 v3 v4 v5 c t) v2 v3 v4 v5 c t) ∧
        ((((v3 >>> ((c_from c v5.toNatClampNeg) &&& 31)) &&& (1 : Int32)) ||| ((v3 >>> ((c_to c v5.toNatClampNeg) &&& 31)) &&& (1 : Int32))) = (1 : Int32) →
          vp_in v5 12 ∧
          vp_in v5 12 ∧
          nd_X6_leadsTo_81 K L5 (fun v2 v3 v4 v5 c t => nd_X6_leadsTo_17 K L5 n v2 v3 v4 v5 c t) v2 (v3 ||| (((1 : Int32) <<< ((c_from c v5.toNatClampNeg) &&& 31)) ||| ((1 : Int32) <<< ((c_to c v5.toNatClampNeg) &&& 31)))) v4 v5 c t)))
set_option maxHeartbeats 4000000 in
set_option maxRecDepth 100000 in
theorem snd_X6_leadsTo_17 {l : Launch} (κ : XC l xTM cX6_leadsTo yX6_leadsTo.cls 6 (some .boolean) 0) (K : Int32 → CS → MT → Prop) (hQ : xRet κ (fun v ω' => ∃ (r : Int32) (c' : CS) (t' : MT), v = some (.int r) ∧ ω' = wM c' t' ∧ K r c' t')) (L5 : Int32 → Int32 → Int32 → CS → MT → Prop) (hL5 : ∀ (v2 : Int32) (v3 : Int32) (v4 : Int32) (c : CS) (t : MT), L5 v2 v3 v4 c t → Wat κ 5 [(0, .ref 0), (2, .int v2), (3, .int v3), (4, .int v4)] [] (wM c t)) : ∀ (n : Nat) (v2 : Int32) (v3 : Int32) (v4 : Int32) (v5 : Int32) (c : CS) (t : MT), nd_X6_leadsTo_17 K L5 n v2 v3 v4 v5 c t → Wat κ 17 [(0, .ref 0), (2, .int v2), (3, .int v3), (4, .int v4), (5, .int v5)] [] (wM c t) := by
  intro n
  induction n with
  | zero => intro v2 v3 v4 v5 c t h; exact h.elim
  | succ n ih =>
    intro v2 v3 v4 v5 c t h
    unfold nd_X6_leadsTo_17 at h
    refine xr_iload (pc := 17) κ 4 (x := v5) dX6_leadsTo_17 rfl ?_
    refine xr_aload_n (pc := 19) κ 0 (x := 0) dX6_leadsTo_19 rfl rfl ?_
    refine xr_get (pc := 20) κ xc6 (k := 0) (f := 1) (v := .int (c_wires c)) kw_3_24 (by decide) rfl (by decide) rfl dX6_leadsTo_20 ?_
    refine xr_icmp_ge (pc := 23) κ (tgt := 87) dX6_leadsTo_23 (by decide) (fun c3 => ?_) (fun c3 => ?_)
    · have h := h.1 c3
      refine xr_iinc (pc := 87) κ 3 [1, 2, 3, 0, 4] (lv' := [(0, .ref 0), (2, .int v2), (3, .int v3), (4, .int (v4 + 1)), (5, .int v5)]) (x := v4) (v := v4 + 1) dX6_leadsTo_87 rfl rfl (by decide) rfl ?_
      refine xr_goto (pc := 90) κ (tgt := 5) dX6_leadsTo_90 (by decide) ?_
      refine xr_sub (pc := 5) κ [0, 1, 2, 3] (lv' := [(0, .ref 0), (2, .int v2), (3, .int v3), (4, .int (v4 + 1))]) rfl ?_
      exact hL5 _ _ _ _ _ h
    · have h := h.2 c3
      refine xr_iload (pc := 26) κ 4 (x := v5) dX6_leadsTo_26 rfl ?_
      refine xr_iload_n (pc := 28) κ 1 (x := v2) dX6_leadsTo_28 rfl rfl ?_
      refine xr_icmp_eq (pc := 29) κ (tgt := 81) dX6_leadsTo_29 (by decide) (fun c4 => ?_) (fun c4 => ?_)
      · have h := h.1 c4
        exact snd_X6_leadsTo_81 κ K hQ _ _ hL5 ih _ _ _ _ _ _ h
      · have h := h.2 c4
        refine xr_iload_n (pc := 32) κ 2 (x := v3) dX6_leadsTo_32 rfl rfl ?_
        refine xr_aload_n (pc := 33) κ 0 (x := 0) dX6_leadsTo_33 rfl rfl ?_
        refine xr_get (pc := 34) κ xc6 (k := 0) (f := 2) (v := .ref 1) kw_3_25 (by decide) rfl (by decide) rfl dX6_leadsTo_34 ?_
        refine xr_iload (pc := 37) κ 4 (x := v5) dX6_leadsTo_37 rfl ?_
        obtain ⟨i5, h⟩ := h
        refine xr_iald (pc := 39) κ (k := 1) (n := 12) (f := c_from c) (by decide) rfl rfl i5 dX6_leadsTo_39 ?_
        refine xr_ishr (pc := 40) κ dX6_leadsTo_40 ?_
        refine xr_iconst (pc := 41) κ (v := 1) dX6_leadsTo_41 (by decide) ?_
        refine xr_iand (pc := 42) κ dX6_leadsTo_42 ?_
        refine xr_iload_n (pc := 43) κ 2 (x := v3) dX6_leadsTo_43 rfl rfl ?_
        refine xr_aload_n (pc := 44) κ 0 (x := 0) dX6_leadsTo_44 rfl rfl ?_
        refine xr_get (pc := 45) κ xc6 (k := 0) (f := 3) (v := .ref 2) kw_3_26 (by decide) rfl (by decide) rfl dX6_leadsTo_45 ?_
        refine xr_iload (pc := 48) κ 4 (x := v5) dX6_leadsTo_48 rfl ?_
        obtain ⟨i6, h⟩ := h
        refine xr_iald (pc := 50) κ (k := 2) (n := 12) (f := c_to c) (by decide) rfl rfl i6 dX6_leadsTo_50 ?_
        refine xr_ishr (pc := 51) κ dX6_leadsTo_51 ?_
        refine xr_iconst (pc := 52) κ (v := 1) dX6_leadsTo_52 (by decide) ?_
        refine xr_iand (pc := 53) κ dX6_leadsTo_53 ?_
        refine xr_ior (pc := 54) κ dX6_leadsTo_54 ?_
        refine xr_iconst (pc := 55) κ (v := 1) dX6_leadsTo_55 (by decide) ?_
        refine xr_icmp_ne (pc := 56) κ (tgt := 81) dX6_leadsTo_56 (by decide) (fun c7 => ?_) (fun c7 => ?_)
        · have h := h.1 c7
          exact snd_X6_leadsTo_81 κ K hQ _ _ hL5 ih _ _ _ _ _ _ h
        · have h := h.2 c7
          refine xr_iload_n (pc := 59) κ 2 (x := v3) dX6_leadsTo_59 rfl rfl ?_
          refine xr_iconst (pc := 60) κ (v := 1) dX6_leadsTo_60 (by decide) ?_
          refine xr_aload_n (pc := 61) κ 0 (x := 0) dX6_leadsTo_61 rfl rfl ?_
          refine xr_get (pc := 62) κ xc6 (k := 0) (f := 2) (v := .ref 1) kw_3_25 (by decide) rfl (by decide) rfl dX6_leadsTo_62 ?_
          refine xr_iload (pc := 65) κ 4 (x := v5) dX6_leadsTo_65 rfl ?_
          obtain ⟨i8, h⟩ := h
          refine xr_iald (pc := 67) κ (k := 1) (n := 12) (f := c_from c) (by decide) rfl rfl i8 dX6_leadsTo_67 ?_
          refine xr_ishl (pc := 68) κ dX6_leadsTo_68 ?_
          refine xr_iconst (pc := 69) κ (v := 1) dX6_leadsTo_69 (by decide) ?_
          refine xr_aload_n (pc := 70) κ 0 (x := 0) dX6_leadsTo_70 rfl rfl ?_
          refine xr_get (pc := 71) κ xc6 (k := 0) (f := 3) (v := .ref 2) kw_3_26 (by decide) rfl (by decide) rfl dX6_leadsTo_71 ?_
          refine xr_iload (pc := 74) κ 4 (x := v5) dX6_leadsTo_74 rfl ?_
          obtain ⟨i9, h⟩ := h
          refine xr_iald (pc := 76) κ (k := 2) (n := 12) (f := c_to c) (by decide) rfl rfl i9 dX6_leadsTo_76 ?_
          refine xr_ishl (pc := 77) κ dX6_leadsTo_77 ?_
          refine xr_ior (pc := 78) κ dX6_leadsTo_78 ?_
          refine xr_ior (pc := 79) κ dX6_leadsTo_79 ?_
          refine xr_istore_n (pc := 80) κ [1, 2, 0, 3, 4] (lv' := [(0, .ref 0), (2, .int v2), (3, .int (v3 ||| (((1 : Int32) <<< ((c_from c v5.toNatClampNeg) &&& 31)) ||| ((1 : Int32) <<< ((c_to c v5.toNatClampNeg) &&& 31))))), (4, .int v4), (5, .int v5)]) dX6_leadsTo_80 rfl (by decide) rfl ?_
          exact snd_X6_leadsTo_81 κ K hQ _ _ hL5 ih _ _ _ _ _ _ h
def nd_X6_leadsTo_5 (K : Int32 → CS → MT → Prop) : Nat → Int32 → Int32 → Int32 → CS → MT → Prop
  | 0 => fun _ _ _ _ _ => False
  | n + 1 => fun v2 v3 v4 c t =>
    ((c_n c) ≤ v4 →
      (¬ v3 = (((1 : Int32) <<< ((c_n c) &&& 31)) - (1 : Int32)) →
        K (0 : Int32) c t) ∧
      (v3 = (((1 : Int32) <<< ((c_n c) &&& 31)) - (1 : Int32)) →
        K (1 : Int32) c t)) ∧
    (¬ (c_n c) ≤ v4 →
      ∃ n17 : Nat, nd_X6_leadsTo_17 K (fun v2 v3 v4 c t => nd_X6_leadsTo_5 K n v2 v3 v4 c t) n17 v2 v3 v4 (0 : Int32) c t)
set_option maxHeartbeats 4000000 in
set_option maxRecDepth 100000 in
theorem snd_X6_leadsTo_5 {l : Launch} (κ : XC l xTM cX6_leadsTo yX6_leadsTo.cls 6 (some .boolean) 0) (K : Int32 → CS → MT → Prop) (hQ : xRet κ (fun v ω' => ∃ (r : Int32) (c' : CS) (t' : MT), v = some (.int r) ∧ ω' = wM c' t' ∧ K r c' t')) : ∀ (n : Nat) (v2 : Int32) (v3 : Int32) (v4 : Int32) (c : CS) (t : MT), nd_X6_leadsTo_5 K n v2 v3 v4 c t → Wat κ 5 [(0, .ref 0), (2, .int v2), (3, .int v3), (4, .int v4)] [] (wM c t) := by
  intro n
  induction n with
  | zero => intro v2 v3 v4 c t h; exact h.elim
  | succ n ih =>
    intro v2 v3 v4 c t h
    unfold nd_X6_leadsTo_5 at h
    refine xr_iload (pc := 5) κ 3 (x := v4) dX6_leadsTo_5 rfl ?_
    refine xr_aload_n (pc := 7) κ 0 (x := 0) dX6_leadsTo_7 rfl rfl ?_
    refine xr_get (pc := 8) κ xc6 (k := 0) (f := 0) (v := .int (c_n c)) kw_3_23 (by decide) rfl (by decide) rfl dX6_leadsTo_8 ?_
    refine xr_icmp_ge (pc := 11) κ (tgt := 93) dX6_leadsTo_11 (by decide) (fun c1 => ?_) (fun c1 => ?_)
    · have h := h.1 c1
      refine xr_iload_n (pc := 93) κ 2 (x := v3) dX6_leadsTo_93 rfl rfl ?_
      refine xr_iconst (pc := 94) κ (v := 1) dX6_leadsTo_94 (by decide) ?_
      refine xr_aload_n (pc := 95) κ 0 (x := 0) dX6_leadsTo_95 rfl rfl ?_
      refine xr_get (pc := 96) κ xc6 (k := 0) (f := 0) (v := .int (c_n c)) kw_3_23 (by decide) rfl (by decide) rfl dX6_leadsTo_96 ?_
      refine xr_ishl (pc := 99) κ dX6_leadsTo_99 ?_
      refine xr_iconst (pc := 100) κ (v := 1) dX6_leadsTo_100 (by decide) ?_
      refine xr_isub (pc := 101) κ dX6_leadsTo_101 ?_
      refine xr_icmp_ne (pc := 102) κ (tgt := 109) dX6_leadsTo_102 (by decide) (fun c2 => ?_) (fun c2 => ?_)
      · have h := h.1 c2
        refine xr_iconst (pc := 109) κ (v := 0) dX6_leadsTo_109 (by decide) ?_
        exact xr_zret (pc := 110) κ _ hQ rfl dX6_leadsTo_110 ⟨_, _, _, rfl, rfl, h⟩
      · have h := h.2 c2
        refine xr_iconst (pc := 105) κ (v := 1) dX6_leadsTo_105 (by decide) ?_
        refine xr_goto (pc := 106) κ (tgt := 110) dX6_leadsTo_106 (by decide) ?_
        exact xr_zret (pc := 110) κ _ hQ rfl dX6_leadsTo_110 ⟨_, _, _, rfl, rfl, h⟩
    · have h := h.2 c1
      refine xr_iconst (pc := 14) κ (v := 0) dX6_leadsTo_14 (by decide) ?_
      refine xr_istore (pc := 15) κ [1, 2, 3, 4, 0] (lv' := [(0, .ref 0), (2, .int v2), (3, .int v3), (4, .int v4), (5, .int (0 : Int32))]) dX6_leadsTo_15 (by decide) rfl ?_
      obtain ⟨n0, h⟩ := h
      exact snd_X6_leadsTo_17 κ K hQ _ ih n0 _ _ _ _ _ _ h
def wp_X6_leadsTo (set : Int32) (but : Int32) (c : CS) (t : MT) (K : Int32 → CS → MT → Prop) : Prop :=
    ∃ n5 : Nat, nd_X6_leadsTo_5 K n5 but set (0 : Int32) c t
set_option maxHeartbeats 4000000 in
set_option maxRecDepth 100000 in
theorem snd_X6_leadsTo {l : Launch} (set : Int32) (but : Int32) (c : CS) (t : MT) (K : Int32 → CS → MT → Prop) (h : wp_X6_leadsTo set but c t K) : XM l xTM yX6_leadsTo cX6_leadsTo 6 (some .boolean) 0 [.ref 0, .int set, .int but] (wM c t) (fun v ω' => ∃ (r : Int32) (c' : CS) (t' : MT), v = some (.int r) ∧ ω' = wM c' t' ∧ K r c' t') := by
    refine XM.of (by decide) (Nat.le_of_ble_eq_true rfl) (fun κ hQ => ?_)
    show Wat κ 0 [(0, .ref 0), (1, .int set), (2, .int but)] [] (wM c t)
    unfold wp_X6_leadsTo at h
    refine xr_iload_n (pc := 0) κ 1 (x := set) dX6_leadsTo_0 rfl rfl ?_
    refine xr_istore_n (pc := 1) κ [1, 2, 3, 0] (lv' := [(0, .ref 0), (1, .int set), (2, .int but), (3, .int set)]) dX6_leadsTo_1 rfl (by decide) rfl ?_
    refine xr_iconst (pc := 2) κ (v := 0) dX6_leadsTo_2 (by decide) ?_
    refine xr_istore (pc := 3) κ [1, 2, 3, 4, 0] (lv' := [(0, .ref 0), (1, .int set), (2, .int but), (3, .int set), (4, .int (0 : Int32))]) dX6_leadsTo_3 (by decide) rfl ?_
    refine xr_sub (pc := 5) κ [0, 2, 3, 4] (lv' := [(0, .ref 0), (2, .int but), (3, .int set), (4, .int (0 : Int32))]) rfl ?_
    obtain ⟨n0, h⟩ := h
    exact snd_X6_leadsTo_5 κ K hQ n0 _ _ _ _ _ h
-- ChipVoltsModel.isFed()Z, level 1
def wp_X6_isFed (c : CS) (t : MT) (K : Int32 → CS → MT → Prop) : Prop :=
    ((c_pads c) = 0 →
      K (0 : Int32) c t) ∧
    (¬ (c_pads c) = 0 →
      wp_X6_leadsTo (c_pads c) (-1 : Int32) c t (fun r2 c2_ t2_ =>
        (r2 = 0 →
          K (0 : Int32) c2_ t2_) ∧
        (¬ r2 = 0 →
          K (1 : Int32) c2_ t2_)))
set_option maxHeartbeats 4000000 in
set_option maxRecDepth 100000 in
theorem snd_X6_isFed {l : Launch} (c : CS) (t : MT) (K : Int32 → CS → MT → Prop) (h : wp_X6_isFed  c t K) : XM l xTM yX6_isFed cX6_isFed 1 (some .boolean) 1 [.ref 0] (wM c t) (fun v ω' => ∃ (r : Int32) (c' : CS) (t' : MT), v = some (.int r) ∧ ω' = wM c' t' ∧ K r c' t') := by
    refine XM.of (by decide) (Nat.le_of_ble_eq_true rfl) (fun κ hQ => ?_)
    show Wat κ 0 [(0, .ref 0)] [] (wM c t)
    unfold wp_X6_isFed at h
    refine xr_aload_n (pc := 0) κ 0 (x := 0) dX6_isFed_0 rfl rfl ?_
    refine xr_get (pc := 1) κ xc6 (k := 0) (f := 6) (v := .int (c_pads c)) kw_3_29 (by decide) rfl (by decide) rfl dX6_isFed_1 ?_
    refine xr_if_eq (pc := 4) κ (tgt := 23) dX6_isFed_4 (by decide) (fun c1 => ?_) (fun c1 => ?_)
    · have h := h.1 c1
      refine xr_iconst (pc := 23) κ (v := 0) dX6_isFed_23 (by decide) ?_
      exact xr_zret (pc := 24) κ _ hQ rfl dX6_isFed_24 ⟨_, _, _, rfl, rfl, h⟩
    · have h := h.2 c1
      refine xr_aload_n (pc := 7) κ 0 (x := 0) dX6_isFed_7 rfl rfl ?_
      refine xr_aload_n (pc := 8) κ 0 (x := 0) dX6_isFed_8 rfl rfl ?_
      refine xr_get (pc := 9) κ xc6 (k := 0) (f := 6) (v := .int (c_pads c)) kw_3_29 (by decide) rfl (by decide) rfl dX6_isFed_9 ?_
      refine xr_iconst (pc := 12) κ (v := -1) dX6_isFed_12 (by decide) ?_
      refine xr_callV (pc := 13) κ [.int (c_pads c), .int (-1 : Int32)] kw_3_138 tg_X6_leadsTo (snd_X6_leadsTo _ _ _ _ _ h) rfl (by decide) (by decide) (by decide) rfl (ci := 6) rfl rfl (Nat.le_of_ble_eq_true rfl) dX6_isFed_13 (fun v9 ω9 hk9 => ?_)
      obtain ⟨r2, c2_, t2_, rfl, rfl, h⟩ := hk9
      skip
      show Wat κ 16 [(0, .ref 0)] [.int r2] (wM c2_ t2_)
      refine xr_if_eq (pc := 16) κ (tgt := 23) dX6_isFed_16 (by decide) (fun c3 => ?_) (fun c3 => ?_)
      · have h := h.1 c3
        refine xr_iconst (pc := 23) κ (v := 0) dX6_isFed_23 (by decide) ?_
        exact xr_zret (pc := 24) κ _ hQ rfl dX6_isFed_24 ⟨_, _, _, rfl, rfl, h⟩
      · have h := h.2 c3
        refine xr_iconst (pc := 19) κ (v := 1) dX6_isFed_19 (by decide) ?_
        refine xr_goto (pc := 20) κ (tgt := 24) dX6_isFed_20 (by decide) ?_
        exact xr_zret (pc := 24) κ _ hQ rfl dX6_isFed_24 ⟨_, _, _, rfl, rfl, h⟩
-- ChipVoltsModel.between(III)J, level 0
def nd_X6_between_129 (K : Int64 → CS → MT → Prop) (L6 : Int32 → Int32 → Int32 → Int64 → Int32 → CS → MT → Prop) (v1 : Int32) (v2 : Int32) (v3 : Int32) (v4 : Int64) (v6 : Int32) (c : CS) (t : MT) : Prop :=
    L6 v1 v2 v3 v4 (v6 + 1) c t
set_option maxHeartbeats 4000000 in
set_option maxRecDepth 100000 in
theorem snd_X6_between_129 {l : Launch} (κ : XC l xTM cX6_between yX6_between.cls 7 (some .long) 0) (K : Int64 → CS → MT → Prop) (hQ : xRet κ (fun v ω' => ∃ (r : Int64) (c' : CS) (t' : MT), v = some (.long r) ∧ ω' = wM c' t' ∧ K r c' t')) (L6 : Int32 → Int32 → Int32 → Int64 → Int32 → CS → MT → Prop) (hL6 : ∀ (v1 : Int32) (v2 : Int32) (v3 : Int32) (v4 : Int64) (v6 : Int32) (c : CS) (t : MT), L6 v1 v2 v3 v4 v6 c t → Wat κ 6 [(0, .ref 0), (1, .int v1), (2, .int v2), (3, .int v3), (4, .long v4), (6, .int v6)] [] (wM c t)) (v1 : Int32) (v2 : Int32) (v3 : Int32) (v4 : Int64) (v6 : Int32) (c : CS) (t : MT) (h : nd_X6_between_129 K L6 v1 v2 v3 v4 v6 c t) : Wat κ 129 [(0, .ref 0), (1, .int v1), (2, .int v2), (3, .int v3), (4, .long v4), (6, .int v6)] [] (wM c t) := by
    unfold nd_X6_between_129 at h
    refine xr_iinc (pc := 129) κ 5 [1, 2, 3, 4, 5, 0] (lv' := [(0, .ref 0), (1, .int v1), (2, .int v2), (3, .int v3), (4, .long v4), (6, .int (v6 + 1))]) (x := v6) (v := v6 + 1) dX6_between_129 rfl rfl (by decide) rfl ?_
    refine xr_goto (pc := 132) κ (tgt := 6) dX6_between_132 (by decide) ?_
    exact hL6 _ _ _ _ _ _ _ h
def nd_X6_between_126 (K : Int64 → CS → MT → Prop) (L6 : Int32 → Int32 → Int32 → Int64 → Int32 → CS → MT → Prop) (v1 : Int32) (v2 : Int32) (v3 : Int32) (v6 : Int32) (s0 : Int64) (s1 : Int64) (c : CS) (t : MT) : Prop :=
    nd_X6_between_129 K L6 v1 v2 v3 (s1 - s0) v6 c t
set_option maxHeartbeats 4000000 in
set_option maxRecDepth 100000 in
theorem snd_X6_between_126 {l : Launch} (κ : XC l xTM cX6_between yX6_between.cls 7 (some .long) 0) (K : Int64 → CS → MT → Prop) (hQ : xRet κ (fun v ω' => ∃ (r : Int64) (c' : CS) (t' : MT), v = some (.long r) ∧ ω' = wM c' t' ∧ K r c' t')) (L6 : Int32 → Int32 → Int32 → Int64 → Int32 → CS → MT → Prop) (hL6 : ∀ (v1 : Int32) (v2 : Int32) (v3 : Int32) (v4 : Int64) (v6 : Int32) (c : CS) (t : MT), L6 v1 v2 v3 v4 v6 c t → Wat κ 6 [(0, .ref 0), (1, .int v1), (2, .int v2), (3, .int v3), (4, .long v4), (6, .int v6)] [] (wM c t)) (v1 : Int32) (v2 : Int32) (v3 : Int32) (v6 : Int32) (s0 : Int64) (s1 : Int64) (c : CS) (t : MT) (h : nd_X6_between_126 K L6 v1 v2 v3 v6 s0 s1 c t) : Wat κ 126 [(0, .ref 0), (1, .int v1), (2, .int v2), (3, .int v3), (6, .int v6)] [.long s0, .long s1] (wM c t) := by
    unfold nd_X6_between_126 at h
    refine xr_lsub (pc := 126) κ dX6_between_126 ?_
    refine xr_lstore (pc := 127) κ [1, 2, 3, 4, 0, 5] (lv' := [(0, .ref 0), (1, .int v1), (2, .int v2), (3, .int v3), (4, .long (s1 - s0)), (6, .int v6)]) dX6_between_127 (by decide) rfl ?_
    exact snd_X6_between_129 κ K hQ _ hL6 _ _ _ _ _ _ _ h
def nd_X6_between_125 (K : Int64 → CS → MT → Prop) (L6 : Int32 → Int32 → Int32 → Int64 → Int32 → CS → MT → Prop) (v1 : Int32) (v2 : Int32) (v3 : Int32) (v6 : Int32) (s0 : Int64) (c : CS) (t : MT) : Prop :=
    nd_X6_between_126 K L6 v1 v2 v3 v6 (0 : Int64) s0 c t
set_option maxHeartbeats 4000000 in
set_option maxRecDepth 100000 in
theorem snd_X6_between_125 {l : Launch} (κ : XC l xTM cX6_between yX6_between.cls 7 (some .long) 0) (K : Int64 → CS → MT → Prop) (hQ : xRet κ (fun v ω' => ∃ (r : Int64) (c' : CS) (t' : MT), v = some (.long r) ∧ ω' = wM c' t' ∧ K r c' t')) (L6 : Int32 → Int32 → Int32 → Int64 → Int32 → CS → MT → Prop) (hL6 : ∀ (v1 : Int32) (v2 : Int32) (v3 : Int32) (v4 : Int64) (v6 : Int32) (c : CS) (t : MT), L6 v1 v2 v3 v4 v6 c t → Wat κ 6 [(0, .ref 0), (1, .int v1), (2, .int v2), (3, .int v3), (4, .long v4), (6, .int v6)] [] (wM c t)) (v1 : Int32) (v2 : Int32) (v3 : Int32) (v6 : Int32) (s0 : Int64) (c : CS) (t : MT) (h : nd_X6_between_125 K L6 v1 v2 v3 v6 s0 c t) : Wat κ 125 [(0, .ref 0), (1, .int v1), (2, .int v2), (3, .int v3), (6, .int v6)] [.long s0] (wM c t) := by
    unfold nd_X6_between_125 at h
    refine xr_lconst (pc := 125) κ (v := 0) dX6_between_125 (by decide) ?_
    exact snd_X6_between_126 κ K hQ _ hL6 _ _ _ _ _ _ _ _ h
def nd_X6_between_114 (K : Int64 → CS → MT → Prop) (L6 : Int32 → Int32 → Int32 → Int64 → Int32 → CS → MT → Prop) (v1 : Int32) (v2 : Int32) (v3 : Int32) (v6 : Int32) (s0 : Int64) (c : CS) (t : MT) : Prop :=
    vp_in v6 12 ∧
    nd_X6_between_126 K L6 v1 v2 v3 v6 (Int32.toInt64 (c_wide c v6.toNatClampNeg)) s0 c t
set_option maxHeartbeats 4000000 in
set_option maxRecDepth 100000 in
theorem snd_X6_between_114 {l : Launch} (κ : XC l xTM cX6_between yX6_between.cls 7 (some .long) 0) (K : Int64 → CS → MT → Prop) (hQ : xRet κ (fun v ω' => ∃ (r : Int64) (c' : CS) (t' : MT), v = some (.long r) ∧ ω' = wM c' t' ∧ K r c' t')) (L6 : Int32 → Int32 → Int32 → Int64 → Int32 → CS → MT → Prop) (hL6 : ∀ (v1 : Int32) (v2 : Int32) (v3 : Int32) (v4 : Int64) (v6 : Int32) (c : CS) (t : MT), L6 v1 v2 v3 v4 v6 c t → Wat κ 6 [(0, .ref 0), (1, .int v1), (2, .int v2), (3, .int v3), (4, .long v4), (6, .int v6)] [] (wM c t)) (v1 : Int32) (v2 : Int32) (v3 : Int32) (v6 : Int32) (s0 : Int64) (c : CS) (t : MT) (h : nd_X6_between_114 K L6 v1 v2 v3 v6 s0 c t) : Wat κ 114 [(0, .ref 0), (1, .int v1), (2, .int v2), (3, .int v3), (6, .int v6)] [.long s0] (wM c t) := by
    unfold nd_X6_between_114 at h
    refine xr_aload_n (pc := 114) κ 0 (x := 0) dX6_between_114 rfl rfl ?_
    refine xr_get (pc := 115) κ xc6 (k := 0) (f := 4) (v := .ref 3) kw_3_27 (by decide) rfl (by decide) rfl dX6_between_115 ?_
    refine xr_iload (pc := 118) κ 4 (x := v6) dX6_between_118 rfl ?_
    obtain ⟨i10, h⟩ := h
    refine xr_iald (pc := 120) κ (k := 3) (n := 12) (f := c_wide c) (by decide) rfl rfl i10 dX6_between_120 ?_
    refine xr_i2l (pc := 121) κ dX6_between_121 ?_
    refine xr_goto (pc := 122) κ (tgt := 126) dX6_between_122 (by decide) ?_
    exact snd_X6_between_126 κ K hQ _ hL6 _ _ _ _ _ _ _ _ h
def nd_X6_between_92 (K : Int64 → CS → MT → Prop) (L6 : Int32 → Int32 → Int32 → Int64 → Int32 → CS → MT → Prop) (v1 : Int32) (v2 : Int32) (v3 : Int32) (v6 : Int32) (s0 : Int64) (c : CS) (t : MT) : Prop :=
    vp_in v6 12 ∧
    (¬ (c_from c v6.toNatClampNeg) = v2 →
      nd_X6_between_125 K L6 v1 v2 v3 v6 s0 c t) ∧
    ((c_from c v6.toNatClampNeg) = v2 →
      vp_in v6 12 ∧
      (¬ (c_to c v6.toNatClampNeg) = v1 →
        nd_X6_between_125 K L6 v1 v2 v3 v6 s0 c t) ∧
      ((c_to c v6.toNatClampNeg) = v1 →
        nd_X6_between_114 K L6 v1 v2 v3 v6 s0 c t))
set_option maxHeartbeats 4000000 in
set_option maxRecDepth 100000 in
theorem snd_X6_between_92 {l : Launch} (κ : XC l xTM cX6_between yX6_between.cls 7 (some .long) 0) (K : Int64 → CS → MT → Prop) (hQ : xRet κ (fun v ω' => ∃ (r : Int64) (c' : CS) (t' : MT), v = some (.long r) ∧ ω' = wM c' t' ∧ K r c' t')) (L6 : Int32 → Int32 → Int32 → Int64 → Int32 → CS → MT → Prop) (hL6 : ∀ (v1 : Int32) (v2 : Int32) (v3 : Int32) (v4 : Int64) (v6 : Int32) (c : CS) (t : MT), L6 v1 v2 v3 v4 v6 c t → Wat κ 6 [(0, .ref 0), (1, .int v1), (2, .int v2), (3, .int v3), (4, .long v4), (6, .int v6)] [] (wM c t)) (v1 : Int32) (v2 : Int32) (v3 : Int32) (v6 : Int32) (s0 : Int64) (c : CS) (t : MT) (h : nd_X6_between_92 K L6 v1 v2 v3 v6 s0 c t) : Wat κ 92 [(0, .ref 0), (1, .int v1), (2, .int v2), (3, .int v3), (6, .int v6)] [.long s0] (wM c t) := by
    unfold nd_X6_between_92 at h
    refine xr_aload_n (pc := 92) κ 0 (x := 0) dX6_between_92 rfl rfl ?_
    refine xr_get (pc := 93) κ xc6 (k := 0) (f := 2) (v := .ref 1) kw_3_25 (by decide) rfl (by decide) rfl dX6_between_93 ?_
    refine xr_iload (pc := 96) κ 4 (x := v6) dX6_between_96 rfl ?_
    obtain ⟨i6, h⟩ := h
    refine xr_iald (pc := 98) κ (k := 1) (n := 12) (f := c_from c) (by decide) rfl rfl i6 dX6_between_98 ?_
    refine xr_iload_n (pc := 99) κ 2 (x := v2) dX6_between_99 rfl rfl ?_
    refine xr_icmp_ne (pc := 100) κ (tgt := 125) dX6_between_100 (by decide) (fun c7 => ?_) (fun c7 => ?_)
    · have h := h.1 c7
      exact snd_X6_between_125 κ K hQ _ hL6 _ _ _ _ _ _ _ h
    · have h := h.2 c7
      refine xr_aload_n (pc := 103) κ 0 (x := 0) dX6_between_103 rfl rfl ?_
      refine xr_get (pc := 104) κ xc6 (k := 0) (f := 3) (v := .ref 2) kw_3_26 (by decide) rfl (by decide) rfl dX6_between_104 ?_
      refine xr_iload (pc := 107) κ 4 (x := v6) dX6_between_107 rfl ?_
      obtain ⟨i8, h⟩ := h
      refine xr_iald (pc := 109) κ (k := 2) (n := 12) (f := c_to c) (by decide) rfl rfl i8 dX6_between_109 ?_
      refine xr_iload_n (pc := 110) κ 1 (x := v1) dX6_between_110 rfl rfl ?_
      refine xr_icmp_ne (pc := 111) κ (tgt := 125) dX6_between_111 (by decide) (fun c9 => ?_) (fun c9 => ?_)
      · have h := h.1 c9
        exact snd_X6_between_125 κ K hQ _ hL6 _ _ _ _ _ _ _ h
      · have h := h.2 c9
        exact snd_X6_between_114 κ K hQ _ hL6 _ _ _ _ _ _ _ h
def nd_X6_between_62 (K : Int64 → CS → MT → Prop) (L6 : Int32 → Int32 → Int32 → Int64 → Int32 → CS → MT → Prop) (v1 : Int32) (v2 : Int32) (v3 : Int32) (v6 : Int32) (s0 : Int64) (s1 : Int64) (c : CS) (t : MT) : Prop :=
    nd_X6_between_129 K L6 v1 v2 v3 (s1 + s0) v6 c t
set_option maxHeartbeats 4000000 in
set_option maxRecDepth 100000 in
theorem snd_X6_between_62 {l : Launch} (κ : XC l xTM cX6_between yX6_between.cls 7 (some .long) 0) (K : Int64 → CS → MT → Prop) (hQ : xRet κ (fun v ω' => ∃ (r : Int64) (c' : CS) (t' : MT), v = some (.long r) ∧ ω' = wM c' t' ∧ K r c' t')) (L6 : Int32 → Int32 → Int32 → Int64 → Int32 → CS → MT → Prop) (hL6 : ∀ (v1 : Int32) (v2 : Int32) (v3 : Int32) (v4 : Int64) (v6 : Int32) (c : CS) (t : MT), L6 v1 v2 v3 v4 v6 c t → Wat κ 6 [(0, .ref 0), (1, .int v1), (2, .int v2), (3, .int v3), (4, .long v4), (6, .int v6)] [] (wM c t)) (v1 : Int32) (v2 : Int32) (v3 : Int32) (v6 : Int32) (s0 : Int64) (s1 : Int64) (c : CS) (t : MT) (h : nd_X6_between_62 K L6 v1 v2 v3 v6 s0 s1 c t) : Wat κ 62 [(0, .ref 0), (1, .int v1), (2, .int v2), (3, .int v3), (6, .int v6)] [.long s0, .long s1] (wM c t) := by
    unfold nd_X6_between_62 at h
    refine xr_ladd (pc := 62) κ dX6_between_62 ?_
    refine xr_lstore (pc := 63) κ [1, 2, 3, 4, 0, 5] (lv' := [(0, .ref 0), (1, .int v1), (2, .int v2), (3, .int v3), (4, .long (s1 + s0)), (6, .int v6)]) dX6_between_63 (by decide) rfl ?_
    refine xr_goto (pc := 65) κ (tgt := 129) dX6_between_65 (by decide) ?_
    exact snd_X6_between_129 κ K hQ _ hL6 _ _ _ _ _ _ _ h
def nd_X6_between_50 (K : Int64 → CS → MT → Prop) (L6 : Int32 → Int32 → Int32 → Int64 → Int32 → CS → MT → Prop) (v1 : Int32) (v2 : Int32) (v3 : Int32) (v6 : Int32) (s0 : Int64) (c : CS) (t : MT) : Prop :=
    vp_in v6 12 ∧
    nd_X6_between_62 K L6 v1 v2 v3 v6 (Int32.toInt64 (c_wide c v6.toNatClampNeg)) s0 c t
set_option maxHeartbeats 4000000 in
set_option maxRecDepth 100000 in
theorem snd_X6_between_50 {l : Launch} (κ : XC l xTM cX6_between yX6_between.cls 7 (some .long) 0) (K : Int64 → CS → MT → Prop) (hQ : xRet κ (fun v ω' => ∃ (r : Int64) (c' : CS) (t' : MT), v = some (.long r) ∧ ω' = wM c' t' ∧ K r c' t')) (L6 : Int32 → Int32 → Int32 → Int64 → Int32 → CS → MT → Prop) (hL6 : ∀ (v1 : Int32) (v2 : Int32) (v3 : Int32) (v4 : Int64) (v6 : Int32) (c : CS) (t : MT), L6 v1 v2 v3 v4 v6 c t → Wat κ 6 [(0, .ref 0), (1, .int v1), (2, .int v2), (3, .int v3), (4, .long v4), (6, .int v6)] [] (wM c t)) (v1 : Int32) (v2 : Int32) (v3 : Int32) (v6 : Int32) (s0 : Int64) (c : CS) (t : MT) (h : nd_X6_between_50 K L6 v1 v2 v3 v6 s0 c t) : Wat κ 50 [(0, .ref 0), (1, .int v1), (2, .int v2), (3, .int v3), (6, .int v6)] [.long s0] (wM c t) := by
    unfold nd_X6_between_50 at h
    refine xr_aload_n (pc := 50) κ 0 (x := 0) dX6_between_50 rfl rfl ?_
    refine xr_get (pc := 51) κ xc6 (k := 0) (f := 4) (v := .ref 3) kw_3_27 (by decide) rfl (by decide) rfl dX6_between_51 ?_
    refine xr_iload (pc := 54) κ 4 (x := v6) dX6_between_54 rfl ?_
    obtain ⟨i15, h⟩ := h
    refine xr_iald (pc := 56) κ (k := 3) (n := 12) (f := c_wide c) (by decide) rfl rfl i15 dX6_between_56 ?_
    refine xr_i2l (pc := 57) κ dX6_between_57 ?_
    refine xr_goto (pc := 58) κ (tgt := 62) dX6_between_58 (by decide) ?_
    exact snd_X6_between_62 κ K hQ _ hL6 _ _ _ _ _ _ _ _ h
def nd_X6_between_6 (K : Int64 → CS → MT → Prop) : Nat → Int32 → Int32 → Int32 → Int64 → Int32 → CS → MT → Prop
  | 0 => fun _ _ _ _ _ _ _ => False
  | n + 1 => fun v1 v2 v3 v4 v6 c t =>
    ((c_wires c) ≤ v6 →
      K v4 c t) ∧
    (¬ (c_wires c) ≤ v6 →
      (v6 = v3 →
        nd_X6_between_129 K (fun v1 v2 v3 v4 v6 c t => nd_X6_between_6 K n v1 v2 v3 v4 v6 c t) v1 v2 v3 v4 v6 c t) ∧
      (¬ v6 = v3 →
        (¬ v1 = v2 →
          vp_in v6 12 ∧
          (¬ (c_from c v6.toNatClampNeg) = v1 →
            nd_X6_between_92 K (fun v1 v2 v3 v4 v6 c t => nd_X6_between_6 K n v1 v2 v3 v4 v6 c t) v1 v2 v3 v6 v4 c t) ∧
          ((c_from c v6.toNatClampNeg) = v1 →
            vp_in v6 12 ∧
            ((c_to c v6.toNatClampNeg) = v2 →
              nd_X6_between_114 K (fun v1 v2 v3 v4 v6 c t => nd_X6_between_6 K n v1 v2 v3 v4 v6 c t) v1 v2 v3 v6 v4 c t) ∧
            (¬ (c_to c v6.toNatClampNeg) = v2 →
              nd_X6_between_92 K (fun v1 v2 v3 v4 v6 c t => nd_X6_between_6 K n v1 v2 v3 v4 v6 c t) v1 v2 v3 v6 v4 c t))) ∧
        (v1 = v2 →
          vp_in v6 12 ∧
          ((c_from c v6.toNatClampNeg) = v1 →
            nd_X6_between_50 K (fun v1 v2 v3 v4 v6 c t => nd_X6_between_6 K n v1 v2 v3 v4 v6 c t) v1 v2 v3 v6 v4 c t) ∧
          (¬ (c_from c v6.toNatClampNeg) = v1 →
            vp_in v6 12 ∧
            (¬ (c_to c v6.toNatClampNeg) = v1 →
              nd_X6_between_62 K (fun v1 v2 v3 v4 v6 c t => nd_X6_between_6 K n v1 v2 v3 v4 v6 c t) v1 v2 v3 v6 (0 : Int64) v4 c t) ∧
            ((c_to c v6.toNatClampNeg) = v1 →
              nd_X6_between_50 K (fun v1 v2 v3 v4 v6 c t => nd_X6_between_6 K n v1 v2 v3 v4 v6 c t) v1 v2 v3 v6 v4 c t)))))
set_option maxHeartbeats 4000000 in
set_option maxRecDepth 100000 in
theorem snd_X6_between_6 {l : Launch} (κ : XC l xTM cX6_between yX6_between.cls 7 (some .long) 0) (K : Int64 → CS → MT → Prop) (hQ : xRet κ (fun v ω' => ∃ (r : Int64) (c' : CS) (t' : MT), v = some (.long r) ∧ ω' = wM c' t' ∧ K r c' t')) : ∀ (n : Nat) (v1 : Int32) (v2 : Int32) (v3 : Int32) (v4 : Int64) (v6 : Int32) (c : CS) (t : MT), nd_X6_between_6 K n v1 v2 v3 v4 v6 c t → Wat κ 6 [(0, .ref 0), (1, .int v1), (2, .int v2), (3, .int v3), (4, .long v4), (6, .int v6)] [] (wM c t) := by
  intro n
  induction n with
  | zero => intro v1 v2 v3 v4 v6 c t h; exact h.elim
  | succ n ih =>
    intro v1 v2 v3 v4 v6 c t h
    unfold nd_X6_between_6 at h
    refine xr_iload (pc := 6) κ 5 (x := v6) dX6_between_6 rfl ?_
    refine xr_aload_n (pc := 8) κ 0 (x := 0) dX6_between_8 rfl rfl ?_
    refine xr_get (pc := 9) κ xc6 (k := 0) (f := 1) (v := .int (c_wires c)) kw_3_24 (by decide) rfl (by decide) rfl dX6_between_9 ?_
    refine xr_icmp_ge (pc := 12) κ (tgt := 135) dX6_between_12 (by decide) (fun c1 => ?_) (fun c1 => ?_)
    · have h := h.1 c1
      refine xr_lload (pc := 135) κ 4 (x := v4) dX6_between_135 rfl ?_
      exact xr_lret (pc := 137) κ _ hQ dX6_between_137 ⟨_, _, _, rfl, rfl, h⟩
    · have h := h.2 c1
      refine xr_iload (pc := 15) κ 5 (x := v6) dX6_between_15 rfl ?_
      refine xr_iload_n (pc := 17) κ 3 (x := v3) dX6_between_17 rfl rfl ?_
      refine xr_icmp_eq (pc := 18) κ (tgt := 129) dX6_between_18 (by decide) (fun c2 => ?_) (fun c2 => ?_)
      · have h := h.1 c2
        exact snd_X6_between_129 κ K hQ _ ih _ _ _ _ _ _ _ h
      · have h := h.2 c2
        refine xr_iload_n (pc := 21) κ 1 (x := v1) dX6_between_21 rfl rfl ?_
        refine xr_iload_n (pc := 22) κ 2 (x := v2) dX6_between_22 rfl rfl ?_
        refine xr_icmp_ne (pc := 23) κ (tgt := 68) dX6_between_23 (by decide) (fun c3 => ?_) (fun c3 => ?_)
        · have h := h.1 c3
          refine xr_lload (pc := 68) κ 4 (x := v4) dX6_between_68 rfl ?_
          refine xr_aload_n (pc := 70) κ 0 (x := 0) dX6_between_70 rfl rfl ?_
          refine xr_get (pc := 71) κ xc6 (k := 0) (f := 2) (v := .ref 1) kw_3_25 (by decide) rfl (by decide) rfl dX6_between_71 ?_
          refine xr_iload (pc := 74) κ 5 (x := v6) dX6_between_74 rfl ?_
          obtain ⟨i4, h⟩ := h
          refine xr_iald (pc := 76) κ (k := 1) (n := 12) (f := c_from c) (by decide) rfl rfl i4 dX6_between_76 ?_
          refine xr_iload_n (pc := 77) κ 1 (x := v1) dX6_between_77 rfl rfl ?_
          refine xr_icmp_ne (pc := 78) κ (tgt := 92) dX6_between_78 (by decide) (fun c5 => ?_) (fun c5 => ?_)
          · have h := h.1 c5
            refine xr_sub (pc := 92) κ [0, 1, 2, 3, 5] (lv' := [(0, .ref 0), (1, .int v1), (2, .int v2), (3, .int v3), (6, .int v6)]) rfl ?_
            exact snd_X6_between_92 κ K hQ _ ih _ _ _ _ _ _ _ h
          · have h := h.2 c5
            refine xr_aload_n (pc := 81) κ 0 (x := 0) dX6_between_81 rfl rfl ?_
            refine xr_get (pc := 82) κ xc6 (k := 0) (f := 3) (v := .ref 2) kw_3_26 (by decide) rfl (by decide) rfl dX6_between_82 ?_
            refine xr_iload (pc := 85) κ 5 (x := v6) dX6_between_85 rfl ?_
            obtain ⟨i11, h⟩ := h
            refine xr_iald (pc := 87) κ (k := 2) (n := 12) (f := c_to c) (by decide) rfl rfl i11 dX6_between_87 ?_
            refine xr_iload_n (pc := 88) κ 2 (x := v2) dX6_between_88 rfl rfl ?_
            refine xr_icmp_eq (pc := 89) κ (tgt := 114) dX6_between_89 (by decide) (fun c12 => ?_) (fun c12 => ?_)
            · have h := h.1 c12
              refine xr_sub (pc := 114) κ [0, 1, 2, 3, 5] (lv' := [(0, .ref 0), (1, .int v1), (2, .int v2), (3, .int v3), (6, .int v6)]) rfl ?_
              exact snd_X6_between_114 κ K hQ _ ih _ _ _ _ _ _ _ h
            · have h := h.2 c12
              refine xr_sub (pc := 92) κ [0, 1, 2, 3, 5] (lv' := [(0, .ref 0), (1, .int v1), (2, .int v2), (3, .int v3), (6, .int v6)]) rfl ?_
              exact snd_X6_between_92 κ K hQ _ ih _ _ _ _ _ _ _ h
        · have h := h.2 c3
          refine xr_lload (pc := 26) κ 4 (x := v4) dX6_between_26 rfl ?_
          refine xr_aload_n (pc := 28) κ 0 (x := 0) dX6_between_28 rfl rfl ?_
          refine xr_get (pc := 29) κ xc6 (k := 0) (f := 2) (v := .ref 1) kw_3_25 (by decide) rfl (by decide) rfl dX6_between_29 ?_
          refine xr_iload (pc := 32) κ 5 (x := v6) dX6_between_32 rfl ?_
          obtain ⟨i13, h⟩ := h
          refine xr_iald (pc := 34) κ (k := 1) (n := 12) (f := c_from c) (by decide) rfl rfl i13 dX6_between_34 ?_
          refine xr_iload_n (pc := 35) κ 1 (x := v1) dX6_between_35 rfl rfl ?_
          refine xr_icmp_eq (pc := 36) κ (tgt := 50) dX6_between_36 (by decide) (fun c14 => ?_) (fun c14 => ?_)
          · have h := h.1 c14
            refine xr_sub (pc := 50) κ [0, 1, 2, 3, 5] (lv' := [(0, .ref 0), (1, .int v1), (2, .int v2), (3, .int v3), (6, .int v6)]) rfl ?_
            exact snd_X6_between_50 κ K hQ _ ih _ _ _ _ _ _ _ h
          · have h := h.2 c14
            refine xr_aload_n (pc := 39) κ 0 (x := 0) dX6_between_39 rfl rfl ?_
            refine xr_get (pc := 40) κ xc6 (k := 0) (f := 3) (v := .ref 2) kw_3_26 (by decide) rfl (by decide) rfl dX6_between_40 ?_
            refine xr_iload (pc := 43) κ 5 (x := v6) dX6_between_43 rfl ?_
            obtain ⟨i16, h⟩ := h
            refine xr_iald (pc := 45) κ (k := 2) (n := 12) (f := c_to c) (by decide) rfl rfl i16 dX6_between_45 ?_
            refine xr_iload_n (pc := 46) κ 1 (x := v1) dX6_between_46 rfl rfl ?_
            refine xr_icmp_ne (pc := 47) κ (tgt := 61) dX6_between_47 (by decide) (fun c17 => ?_) (fun c17 => ?_)
            · have h := h.1 c17
              refine xr_lconst (pc := 61) κ (v := 0) dX6_between_61 (by decide) ?_
              refine xr_sub (pc := 62) κ [0, 1, 2, 3, 5] (lv' := [(0, .ref 0), (1, .int v1), (2, .int v2), (3, .int v3), (6, .int v6)]) rfl ?_
              exact snd_X6_between_62 κ K hQ _ ih _ _ _ _ _ _ _ _ h
            · have h := h.2 c17
              refine xr_sub (pc := 50) κ [0, 1, 2, 3, 5] (lv' := [(0, .ref 0), (1, .int v1), (2, .int v2), (3, .int v3), (6, .int v6)]) rfl ?_
              exact snd_X6_between_50 κ K hQ _ ih _ _ _ _ _ _ _ h
def wp_X6_between (a : Int32) (b : Int32) (but : Int32) (c : CS) (t : MT) (K : Int64 → CS → MT → Prop) : Prop :=
    ∃ n6 : Nat, nd_X6_between_6 K n6 a b but (0 : Int64) (0 : Int32) c t
set_option maxHeartbeats 4000000 in
set_option maxRecDepth 100000 in
theorem snd_X6_between {l : Launch} (a : Int32) (b : Int32) (but : Int32) (c : CS) (t : MT) (K : Int64 → CS → MT → Prop) (h : wp_X6_between a b but c t K) : XM l xTM yX6_between cX6_between 7 (some .long) 0 [.ref 0, .int a, .int b, .int but] (wM c t) (fun v ω' => ∃ (r : Int64) (c' : CS) (t' : MT), v = some (.long r) ∧ ω' = wM c' t' ∧ K r c' t') := by
    refine XM.of (by decide) (Nat.le_of_ble_eq_true rfl) (fun κ hQ => ?_)
    show Wat κ 0 [(0, .ref 0), (1, .int a), (2, .int b), (3, .int but)] [] (wM c t)
    unfold wp_X6_between at h
    refine xr_lconst (pc := 0) κ (v := 0) dX6_between_0 (by decide) ?_
    refine xr_lstore (pc := 1) κ [1, 2, 3, 4, 0] (lv' := [(0, .ref 0), (1, .int a), (2, .int b), (3, .int but), (4, .long (0 : Int64))]) dX6_between_1 (by decide) rfl ?_
    refine xr_iconst (pc := 3) κ (v := 0) dX6_between_3 (by decide) ?_
    refine xr_istore (pc := 4) κ [1, 2, 3, 4, 5, 0] (lv' := [(0, .ref 0), (1, .int a), (2, .int b), (3, .int but), (4, .long (0 : Int64)), (6, .int (0 : Int32))]) dX6_between_4 (by decide) rfl ?_
    obtain ⟨n0, h⟩ := h
    exact snd_X6_between_6 κ K hQ n0 _ _ _ _ _ _ _ h
-- ChipVoltsModel.determinant()J, level 0
def nd_X6_determinant_171 (K : Int64 → CS → MT → Prop) (L7 : Int64 → Int64 → Int32 → CS → MT → Prop) (L156 : Int64 → Int64 → Int32 → Int32 → CS → MT → Prop) : Nat → Int64 → Int64 → Int32 → Int32 → Int32 → CS → MT → Prop
  | 0 => fun _ _ _ _ _ _ _ => False
  | n + 1 => fun v1 v3 v5 v7 v8 c t =>
    ((m_side t) ≤ v8 →
      L156 v1 v3 v5 (v7 + 1) c t) ∧
    (¬ (m_side t) ≤ v8 →
      vp_in (((7 : Int32) * v7) + v8) 49 ∧
      vp_in (((7 : Int32) * v5) + v5) 49 ∧
      vp_in (((7 : Int32) * v7) + v5) 49 ∧
      vp_in (((7 : Int32) * v5) + v8) 49 ∧
      ¬ v1 = 0 ∧
      vp_in (((7 : Int32) * v7) + v8) 49 ∧
      nd_X6_determinant_171 K L7 L156 n v1 v3 v5 v7 (v8 + 1) c (ms_square t (vp_updL (m_square t) (((((7 : Int32) * v7) + v8)).toNatClampNeg) ((((m_square t (((((7 : Int32) * v7) + v8)).toNatClampNeg)) * (m_square t (((((7 : Int32) * v5) + v5)).toNatClampNeg))) - ((m_square t (((((7 : Int32) * v7) + v5)).toNatClampNeg)) * (m_square t (((((7 : Int32) * v5) + v8)).toNatClampNeg)))) / v1))))
set_option maxHeartbeats 4000000 in
set_option maxRecDepth 100000 in
theorem snd_X6_determinant_171 {l : Launch} (κ : XC l xTM cX6_determinant yX6_determinant.cls 10 (some .long) 0) (K : Int64 → CS → MT → Prop) (hQ : xRet κ (fun v ω' => ∃ (r : Int64) (c' : CS) (t' : MT), v = some (.long r) ∧ ω' = wM c' t' ∧ K r c' t')) (L7 : Int64 → Int64 → Int32 → CS → MT → Prop) (L156 : Int64 → Int64 → Int32 → Int32 → CS → MT → Prop) (hL7 : ∀ (v1 : Int64) (v3 : Int64) (v5 : Int32) (c : CS) (t : MT), L7 v1 v3 v5 c t → Wat κ 7 [(0, .ref 0), (1, .long v1), (3, .long v3), (5, .int v5)] [] (wM c t)) (hL156 : ∀ (v1 : Int64) (v3 : Int64) (v5 : Int32) (v7 : Int32) (c : CS) (t : MT), L156 v1 v3 v5 v7 c t → Wat κ 156 [(0, .ref 0), (1, .long v1), (3, .long v3), (5, .int v5), (7, .int v7)] [] (wM c t)) : ∀ (n : Nat) (v1 : Int64) (v3 : Int64) (v5 : Int32) (v7 : Int32) (v8 : Int32) (c : CS) (t : MT), nd_X6_determinant_171 K L7 L156 n v1 v3 v5 v7 v8 c t → Wat κ 171 [(0, .ref 0), (1, .long v1), (3, .long v3), (5, .int v5), (7, .int v7), (8, .int v8)] [] (wM c t) := by
  intro n
  induction n with
  | zero => intro v1 v3 v5 v7 v8 c t h; exact h.elim
  | succ n ih =>
    intro v1 v3 v5 v7 v8 c t h
    unfold nd_X6_determinant_171 at h
    refine xr_iload (pc := 171) κ 5 (x := v8) dX6_determinant_171 rfl ?_
    refine xr_aload_n (pc := 173) κ 0 (x := 0) dX6_determinant_173 rfl rfl ?_
    refine xr_get (pc := 174) κ xc6 (k := 0) (f := 13) (v := .int (m_side t)) kw_3_36 (by decide) rfl (by decide) rfl dX6_determinant_174 ?_
    refine xr_icmp_ge (pc := 177) κ (tgt := 256) dX6_determinant_177 (by decide) (fun c9 => ?_) (fun c9 => ?_)
    · have h := h.1 c9
      refine xr_iinc (pc := 256) κ 4 [1, 2, 3, 4, 0, 5] (lv' := [(0, .ref 0), (1, .long v1), (3, .long v3), (5, .int v5), (7, .int (v7 + 1)), (8, .int v8)]) (x := v7) (v := v7 + 1) dX6_determinant_256 rfl rfl (by decide) rfl ?_
      refine xr_goto (pc := 259) κ (tgt := 156) dX6_determinant_259 (by decide) ?_
      refine xr_sub (pc := 156) κ [0, 1, 2, 3, 4] (lv' := [(0, .ref 0), (1, .long v1), (3, .long v3), (5, .int v5), (7, .int (v7 + 1))]) rfl ?_
      exact hL156 _ _ _ _ _ _ h
    · have h := h.2 c9
      refine xr_aload_n (pc := 180) κ 0 (x := 0) dX6_determinant_180 rfl rfl ?_
      refine xr_get (pc := 181) κ xc6 (k := 0) (f := 12) (v := .ref 8) kw_3_35 (by decide) rfl (by decide) rfl dX6_determinant_181 ?_
      refine xr_bipush (pc := 184) κ (v := 7) dX6_determinant_184 (by decide) ?_
      refine xr_iload (pc := 186) κ 4 (x := v7) dX6_determinant_186 rfl ?_
      refine xr_imul (pc := 188) κ dX6_determinant_188 ?_
      refine xr_iload (pc := 189) κ 5 (x := v8) dX6_determinant_189 rfl ?_
      refine xr_iadd (pc := 191) κ dX6_determinant_191 ?_
      refine xr_aload_n (pc := 192) κ 0 (x := 0) dX6_determinant_192 rfl rfl ?_
      refine xr_get (pc := 193) κ xc6 (k := 0) (f := 12) (v := .ref 8) kw_3_35 (by decide) rfl (by decide) rfl dX6_determinant_193 ?_
      refine xr_bipush (pc := 196) κ (v := 7) dX6_determinant_196 (by decide) ?_
      refine xr_iload (pc := 198) κ 4 (x := v7) dX6_determinant_198 rfl ?_
      refine xr_imul (pc := 200) κ dX6_determinant_200 ?_
      refine xr_iload (pc := 201) κ 5 (x := v8) dX6_determinant_201 rfl ?_
      refine xr_iadd (pc := 203) κ dX6_determinant_203 ?_
      obtain ⟨i10, h⟩ := h
      refine xr_lald (pc := 204) κ (k := 8) (n := 49) (f := m_square t) (by decide) rfl rfl i10 dX6_determinant_204 ?_
      refine xr_aload_n (pc := 205) κ 0 (x := 0) dX6_determinant_205 rfl rfl ?_
      refine xr_get (pc := 206) κ xc6 (k := 0) (f := 12) (v := .ref 8) kw_3_35 (by decide) rfl (by decide) rfl dX6_determinant_206 ?_
      refine xr_bipush (pc := 209) κ (v := 7) dX6_determinant_209 (by decide) ?_
      refine xr_iload (pc := 211) κ 3 (x := v5) dX6_determinant_211 rfl ?_
      refine xr_imul (pc := 213) κ dX6_determinant_213 ?_
      refine xr_iload (pc := 214) κ 3 (x := v5) dX6_determinant_214 rfl ?_
      refine xr_iadd (pc := 216) κ dX6_determinant_216 ?_
      obtain ⟨i11, h⟩ := h
      refine xr_lald (pc := 217) κ (k := 8) (n := 49) (f := m_square t) (by decide) rfl rfl i11 dX6_determinant_217 ?_
      refine xr_lmul (pc := 218) κ dX6_determinant_218 ?_
      refine xr_aload_n (pc := 219) κ 0 (x := 0) dX6_determinant_219 rfl rfl ?_
      refine xr_get (pc := 220) κ xc6 (k := 0) (f := 12) (v := .ref 8) kw_3_35 (by decide) rfl (by decide) rfl dX6_determinant_220 ?_
      refine xr_bipush (pc := 223) κ (v := 7) dX6_determinant_223 (by decide) ?_
      refine xr_iload (pc := 225) κ 4 (x := v7) dX6_determinant_225 rfl ?_
      refine xr_imul (pc := 227) κ dX6_determinant_227 ?_
      refine xr_iload (pc := 228) κ 3 (x := v5) dX6_determinant_228 rfl ?_
      refine xr_iadd (pc := 230) κ dX6_determinant_230 ?_
      obtain ⟨i12, h⟩ := h
      refine xr_lald (pc := 231) κ (k := 8) (n := 49) (f := m_square t) (by decide) rfl rfl i12 dX6_determinant_231 ?_
      refine xr_aload_n (pc := 232) κ 0 (x := 0) dX6_determinant_232 rfl rfl ?_
      refine xr_get (pc := 233) κ xc6 (k := 0) (f := 12) (v := .ref 8) kw_3_35 (by decide) rfl (by decide) rfl dX6_determinant_233 ?_
      refine xr_bipush (pc := 236) κ (v := 7) dX6_determinant_236 (by decide) ?_
      refine xr_iload (pc := 238) κ 3 (x := v5) dX6_determinant_238 rfl ?_
      refine xr_imul (pc := 240) κ dX6_determinant_240 ?_
      refine xr_iload (pc := 241) κ 5 (x := v8) dX6_determinant_241 rfl ?_
      refine xr_iadd (pc := 243) κ dX6_determinant_243 ?_
      obtain ⟨i13, h⟩ := h
      refine xr_lald (pc := 244) κ (k := 8) (n := 49) (f := m_square t) (by decide) rfl rfl i13 dX6_determinant_244 ?_
      refine xr_lmul (pc := 245) κ dX6_determinant_245 ?_
      refine xr_lsub (pc := 246) κ dX6_determinant_246 ?_
      refine xr_lload_n (pc := 247) κ 1 (x := v1) dX6_determinant_247 rfl rfl ?_
      obtain ⟨i14, h⟩ := h
      refine xr_ldiv (pc := 248) κ i14 dX6_determinant_248 ?_
      obtain ⟨i15, h⟩ := h
      refine xr_last (pc := 249) κ (k := 8) (n := 49) (f := m_square t) (ω' := wM c (ms_square t (vp_updL (m_square t) (((((7 : Int32) * v7) + v8)).toNatClampNeg) ((((m_square t (((((7 : Int32) * v7) + v8)).toNatClampNeg)) * (m_square t (((((7 : Int32) * v5) + v5)).toNatClampNeg))) - ((m_square t (((((7 : Int32) * v7) + v5)).toNatClampNeg)) * (m_square t (((((7 : Int32) * v5) + v8)).toNatClampNeg)))) / v1)))) (by decide) rfl rfl i15 (wMa_square _ _ _) dX6_determinant_249 ?_
      refine xr_iinc (pc := 250) κ 5 [1, 2, 3, 4, 5, 0] (lv' := [(0, .ref 0), (1, .long v1), (3, .long v3), (5, .int v5), (7, .int v7), (8, .int (v8 + 1))]) (x := v8) (v := v8 + 1) dX6_determinant_250 rfl rfl (by decide) rfl ?_
      refine xr_goto (pc := 253) κ (tgt := 171) dX6_determinant_253 (by decide) ?_
      exact ih _ _ _ _ _ _ _ h
def nd_X6_determinant_156 (K : Int64 → CS → MT → Prop) (L7 : Int64 → Int64 → Int32 → CS → MT → Prop) : Nat → Int64 → Int64 → Int32 → Int32 → CS → MT → Prop
  | 0 => fun _ _ _ _ _ _ => False
  | n + 1 => fun v1 v3 v5 v7 c t =>
    ((m_side t) ≤ v7 →
      vp_in (((7 : Int32) * v5) + v5) 49 ∧
      L7 (m_square t (((((7 : Int32) * v5) + v5)).toNatClampNeg)) v3 (v5 + 1) c t) ∧
    (¬ (m_side t) ≤ v7 →
      ∃ n171 : Nat, nd_X6_determinant_171 K L7 (fun v1 v3 v5 v7 c t => nd_X6_determinant_156 K L7 n v1 v3 v5 v7 c t) n171 v1 v3 v5 v7 (v5 + (1 : Int32)) c t)
set_option maxHeartbeats 4000000 in
set_option maxRecDepth 100000 in
theorem snd_X6_determinant_156 {l : Launch} (κ : XC l xTM cX6_determinant yX6_determinant.cls 10 (some .long) 0) (K : Int64 → CS → MT → Prop) (hQ : xRet κ (fun v ω' => ∃ (r : Int64) (c' : CS) (t' : MT), v = some (.long r) ∧ ω' = wM c' t' ∧ K r c' t')) (L7 : Int64 → Int64 → Int32 → CS → MT → Prop) (hL7 : ∀ (v1 : Int64) (v3 : Int64) (v5 : Int32) (c : CS) (t : MT), L7 v1 v3 v5 c t → Wat κ 7 [(0, .ref 0), (1, .long v1), (3, .long v3), (5, .int v5)] [] (wM c t)) : ∀ (n : Nat) (v1 : Int64) (v3 : Int64) (v5 : Int32) (v7 : Int32) (c : CS) (t : MT), nd_X6_determinant_156 K L7 n v1 v3 v5 v7 c t → Wat κ 156 [(0, .ref 0), (1, .long v1), (3, .long v3), (5, .int v5), (7, .int v7)] [] (wM c t) := by
  intro n
  induction n with
  | zero => intro v1 v3 v5 v7 c t h; exact h.elim
  | succ n ih =>
    intro v1 v3 v5 v7 c t h
    unfold nd_X6_determinant_156 at h
    refine xr_iload (pc := 156) κ 4 (x := v7) dX6_determinant_156 rfl ?_
    refine xr_aload_n (pc := 158) κ 0 (x := 0) dX6_determinant_158 rfl rfl ?_
    refine xr_get (pc := 159) κ xc6 (k := 0) (f := 13) (v := .int (m_side t)) kw_3_36 (by decide) rfl (by decide) rfl dX6_determinant_159 ?_
    refine xr_icmp_ge (pc := 162) κ (tgt := 262) dX6_determinant_162 (by decide) (fun c7 => ?_) (fun c7 => ?_)
    · have h := h.1 c7
      refine xr_aload_n (pc := 262) κ 0 (x := 0) dX6_determinant_262 rfl rfl ?_
      refine xr_get (pc := 263) κ xc6 (k := 0) (f := 12) (v := .ref 8) kw_3_35 (by decide) rfl (by decide) rfl dX6_determinant_263 ?_
      refine xr_bipush (pc := 266) κ (v := 7) dX6_determinant_266 (by decide) ?_
      refine xr_iload (pc := 268) κ 3 (x := v5) dX6_determinant_268 rfl ?_
      refine xr_imul (pc := 270) κ dX6_determinant_270 ?_
      refine xr_iload (pc := 271) κ 3 (x := v5) dX6_determinant_271 rfl ?_
      refine xr_iadd (pc := 273) κ dX6_determinant_273 ?_
      obtain ⟨i8, h⟩ := h
      refine xr_lald (pc := 274) κ (k := 8) (n := 49) (f := m_square t) (by decide) rfl rfl i8 dX6_determinant_274 ?_
      refine xr_lstore_n (pc := 275) κ [1, 0, 2, 3, 4] (lv' := [(0, .ref 0), (1, .long (m_square t (((((7 : Int32) * v5) + v5)).toNatClampNeg))), (3, .long v3), (5, .int v5), (7, .int v7)]) dX6_determinant_275 rfl (by decide) rfl ?_
      refine xr_iinc (pc := 276) κ 3 [1, 2, 3, 0, 4] (lv' := [(0, .ref 0), (1, .long (m_square t (((((7 : Int32) * v5) + v5)).toNatClampNeg))), (3, .long v3), (5, .int (v5 + 1)), (7, .int v7)]) (x := v5) (v := v5 + 1) dX6_determinant_276 rfl rfl (by decide) rfl ?_
      refine xr_goto (pc := 279) κ (tgt := 7) dX6_determinant_279 (by decide) ?_
      refine xr_sub (pc := 7) κ [0, 1, 2, 3] (lv' := [(0, .ref 0), (1, .long (m_square t (((((7 : Int32) * v5) + v5)).toNatClampNeg))), (3, .long v3), (5, .int (v5 + 1))]) rfl ?_
      exact hL7 _ _ _ _ _ h
    · have h := h.2 c7
      refine xr_iload (pc := 165) κ 3 (x := v5) dX6_determinant_165 rfl ?_
      refine xr_iconst (pc := 167) κ (v := 1) dX6_determinant_167 (by decide) ?_
      refine xr_iadd (pc := 168) κ dX6_determinant_168 ?_
      refine xr_istore (pc := 169) κ [1, 2, 3, 4, 5, 0] (lv' := [(0, .ref 0), (1, .long v1), (3, .long v3), (5, .int v5), (7, .int v7), (8, .int (v5 + (1 : Int32)))]) dX6_determinant_169 (by decide) rfl ?_
      obtain ⟨n0, h⟩ := h
      exact snd_X6_determinant_171 κ K hQ _ _ hL7 ih n0 _ _ _ _ _ _ _ h
def nd_X6_determinant_150 (K : Int64 → CS → MT → Prop) (L7 : Int64 → Int64 → Int32 → CS → MT → Prop) (v1 : Int64) (v3 : Int64) (v5 : Int32) (c : CS) (t : MT) : Prop :=
    ∃ n156 : Nat, nd_X6_determinant_156 K L7 n156 v1 v3 v5 (v5 + (1 : Int32)) c t
set_option maxHeartbeats 4000000 in
set_option maxRecDepth 100000 in
theorem snd_X6_determinant_150 {l : Launch} (κ : XC l xTM cX6_determinant yX6_determinant.cls 10 (some .long) 0) (K : Int64 → CS → MT → Prop) (hQ : xRet κ (fun v ω' => ∃ (r : Int64) (c' : CS) (t' : MT), v = some (.long r) ∧ ω' = wM c' t' ∧ K r c' t')) (L7 : Int64 → Int64 → Int32 → CS → MT → Prop) (hL7 : ∀ (v1 : Int64) (v3 : Int64) (v5 : Int32) (c : CS) (t : MT), L7 v1 v3 v5 c t → Wat κ 7 [(0, .ref 0), (1, .long v1), (3, .long v3), (5, .int v5)] [] (wM c t)) (v1 : Int64) (v3 : Int64) (v5 : Int32) (c : CS) (t : MT) (h : nd_X6_determinant_150 K L7 v1 v3 v5 c t) : Wat κ 150 [(0, .ref 0), (1, .long v1), (3, .long v3), (5, .int v5)] [] (wM c t) := by
    unfold nd_X6_determinant_150 at h
    refine xr_iload (pc := 150) κ 3 (x := v5) dX6_determinant_150 rfl ?_
    refine xr_iconst (pc := 152) κ (v := 1) dX6_determinant_152 (by decide) ?_
    refine xr_iadd (pc := 153) κ dX6_determinant_153 ?_
    refine xr_istore (pc := 154) κ [1, 2, 3, 4, 0] (lv' := [(0, .ref 0), (1, .long v1), (3, .long v3), (5, .int v5), (7, .int (v5 + (1 : Int32)))]) dX6_determinant_154 (by decide) rfl ?_
    obtain ⟨n0, h⟩ := h
    exact snd_X6_determinant_156 κ K hQ _ hL7 n0 _ _ _ _ _ _ h
def nd_X6_determinant_79 (K : Int64 → CS → MT → Prop) (L7 : Int64 → Int64 → Int32 → CS → MT → Prop) : Nat → Int64 → Int64 → Int32 → Int32 → Int32 → CS → MT → Prop
  | 0 => fun _ _ _ _ _ _ _ => False
  | n + 1 => fun v1 v3 v5 v6 v7 c t =>
    ((m_side t) ≤ v7 →
      nd_X6_determinant_150 K L7 v1 v3 v5 c t) ∧
    (¬ (m_side t) ≤ v7 →
      vp_in (((7 : Int32) * v6) + v7) 49 ∧
      vp_in (((7 : Int32) * v5) + v7) 49 ∧
      vp_in (((7 : Int32) * v6) + v7) 49 ∧
      vp_in (((7 : Int32) * v5) + v7) 49 ∧
      nd_X6_determinant_79 K L7 n v1 v3 v5 v6 (v7 + 1) c (ms_square t (vp_updL (vp_updL (m_square t) (((((7 : Int32) * v6) + v7)).toNatClampNeg) (m_square t (((((7 : Int32) * v5) + v7)).toNatClampNeg))) (((((7 : Int32) * v5) + v7)).toNatClampNeg) (m_square t (((((7 : Int32) * v6) + v7)).toNatClampNeg)))))
set_option maxHeartbeats 4000000 in
set_option maxRecDepth 100000 in
theorem snd_X6_determinant_79 {l : Launch} (κ : XC l xTM cX6_determinant yX6_determinant.cls 10 (some .long) 0) (K : Int64 → CS → MT → Prop) (hQ : xRet κ (fun v ω' => ∃ (r : Int64) (c' : CS) (t' : MT), v = some (.long r) ∧ ω' = wM c' t' ∧ K r c' t')) (L7 : Int64 → Int64 → Int32 → CS → MT → Prop) (hL7 : ∀ (v1 : Int64) (v3 : Int64) (v5 : Int32) (c : CS) (t : MT), L7 v1 v3 v5 c t → Wat κ 7 [(0, .ref 0), (1, .long v1), (3, .long v3), (5, .int v5)] [] (wM c t)) : ∀ (n : Nat) (v1 : Int64) (v3 : Int64) (v5 : Int32) (v6 : Int32) (v7 : Int32) (c : CS) (t : MT), nd_X6_determinant_79 K L7 n v1 v3 v5 v6 v7 c t → Wat κ 79 [(0, .ref 0), (1, .long v1), (3, .long v3), (5, .int v5), (6, .int v6), (7, .int v7)] [] (wM c t) := by
  intro n
  induction n with
  | zero => intro v1 v3 v5 v6 v7 c t h; exact h.elim
  | succ n ih =>
    intro v1 v3 v5 v6 v7 c t h
    unfold nd_X6_determinant_79 at h
    refine xr_iload (pc := 79) κ 5 (x := v7) dX6_determinant_79 rfl ?_
    refine xr_aload_n (pc := 81) κ 0 (x := 0) dX6_determinant_81 rfl rfl ?_
    refine xr_get (pc := 82) κ xc6 (k := 0) (f := 13) (v := .int (m_side t)) kw_3_36 (by decide) rfl (by decide) rfl dX6_determinant_82 ?_
    refine xr_icmp_ge (pc := 85) κ (tgt := 150) dX6_determinant_85 (by decide) (fun c16 => ?_) (fun c16 => ?_)
    · have h := h.1 c16
      refine xr_sub (pc := 150) κ [0, 1, 2, 3] (lv' := [(0, .ref 0), (1, .long v1), (3, .long v3), (5, .int v5)]) rfl ?_
      exact snd_X6_determinant_150 κ K hQ _ hL7 _ _ _ _ _ h
    · have h := h.2 c16
      refine xr_aload_n (pc := 88) κ 0 (x := 0) dX6_determinant_88 rfl rfl ?_
      refine xr_get (pc := 89) κ xc6 (k := 0) (f := 12) (v := .ref 8) kw_3_35 (by decide) rfl (by decide) rfl dX6_determinant_89 ?_
      refine xr_bipush (pc := 92) κ (v := 7) dX6_determinant_92 (by decide) ?_
      refine xr_iload (pc := 94) κ 4 (x := v6) dX6_determinant_94 rfl ?_
      refine xr_imul (pc := 96) κ dX6_determinant_96 ?_
      refine xr_iload (pc := 97) κ 5 (x := v7) dX6_determinant_97 rfl ?_
      refine xr_iadd (pc := 99) κ dX6_determinant_99 ?_
      obtain ⟨i17, h⟩ := h
      refine xr_lald (pc := 100) κ (k := 8) (n := 49) (f := m_square t) (by decide) rfl rfl i17 dX6_determinant_100 ?_
      refine xr_lstore (pc := 101) κ [1, 2, 3, 4, 5, 6, 0] (lv' := [(0, .ref 0), (1, .long v1), (3, .long v3), (5, .int v5), (6, .int v6), (7, .int v7), (8, .long (m_square t (((((7 : Int32) * v6) + v7)).toNatClampNeg)))]) dX6_determinant_101 (by decide) rfl ?_
      refine xr_aload_n (pc := 103) κ 0 (x := 0) dX6_determinant_103 rfl rfl ?_
      refine xr_get (pc := 104) κ xc6 (k := 0) (f := 12) (v := .ref 8) kw_3_35 (by decide) rfl (by decide) rfl dX6_determinant_104 ?_
      refine xr_bipush (pc := 107) κ (v := 7) dX6_determinant_107 (by decide) ?_
      refine xr_iload (pc := 109) κ 4 (x := v6) dX6_determinant_109 rfl ?_
      refine xr_imul (pc := 111) κ dX6_determinant_111 ?_
      refine xr_iload (pc := 112) κ 5 (x := v7) dX6_determinant_112 rfl ?_
      refine xr_iadd (pc := 114) κ dX6_determinant_114 ?_
      refine xr_aload_n (pc := 115) κ 0 (x := 0) dX6_determinant_115 rfl rfl ?_
      refine xr_get (pc := 116) κ xc6 (k := 0) (f := 12) (v := .ref 8) kw_3_35 (by decide) rfl (by decide) rfl dX6_determinant_116 ?_
      refine xr_bipush (pc := 119) κ (v := 7) dX6_determinant_119 (by decide) ?_
      refine xr_iload (pc := 121) κ 3 (x := v5) dX6_determinant_121 rfl ?_
      refine xr_imul (pc := 123) κ dX6_determinant_123 ?_
      refine xr_iload (pc := 124) κ 5 (x := v7) dX6_determinant_124 rfl ?_
      refine xr_iadd (pc := 126) κ dX6_determinant_126 ?_
      obtain ⟨i18, h⟩ := h
      refine xr_lald (pc := 127) κ (k := 8) (n := 49) (f := m_square t) (by decide) rfl rfl i18 dX6_determinant_127 ?_
      obtain ⟨i19, h⟩ := h
      refine xr_last (pc := 128) κ (k := 8) (n := 49) (f := m_square t) (ω' := wM c (ms_square t (vp_updL (m_square t) (((((7 : Int32) * v6) + v7)).toNatClampNeg) (m_square t (((((7 : Int32) * v5) + v7)).toNatClampNeg))))) (by decide) rfl rfl i19 (wMa_square _ _ _) dX6_determinant_128 ?_
      refine xr_aload_n (pc := 129) κ 0 (x := 0) dX6_determinant_129 rfl rfl ?_
      refine xr_get (pc := 130) κ xc6 (k := 0) (f := 12) (v := .ref 8) kw_3_35 (by decide) rfl (by decide) rfl dX6_determinant_130 ?_
      refine xr_bipush (pc := 133) κ (v := 7) dX6_determinant_133 (by decide) ?_
      refine xr_iload (pc := 135) κ 3 (x := v5) dX6_determinant_135 rfl ?_
      refine xr_imul (pc := 137) κ dX6_determinant_137 ?_
      refine xr_iload (pc := 138) κ 5 (x := v7) dX6_determinant_138 rfl ?_
      refine xr_iadd (pc := 140) κ dX6_determinant_140 ?_
      refine xr_lload (pc := 141) κ 6 (x := (m_square t (((((7 : Int32) * v6) + v7)).toNatClampNeg))) dX6_determinant_141 rfl ?_
      obtain ⟨i20, h⟩ := h
      refine xr_last (pc := 143) κ (k := 8) (n := 49) (f := vp_updL (m_square t) (((((7 : Int32) * v6) + v7)).toNatClampNeg) (m_square t (((((7 : Int32) * v5) + v7)).toNatClampNeg))) (ω' := wM c (ms_square t (vp_updL (vp_updL (m_square t) (((((7 : Int32) * v6) + v7)).toNatClampNeg) (m_square t (((((7 : Int32) * v5) + v7)).toNatClampNeg))) (((((7 : Int32) * v5) + v7)).toNatClampNeg) (m_square t (((((7 : Int32) * v6) + v7)).toNatClampNeg))))) (by decide) rfl rfl i20 (wMa_square _ _ _) dX6_determinant_143 ?_
      refine xr_iinc (pc := 144) κ 5 [1, 2, 3, 4, 5, 0, 6] (lv' := [(0, .ref 0), (1, .long v1), (3, .long v3), (5, .int v5), (6, .int v6), (7, .int (v7 + 1)), (8, .long (m_square t (((((7 : Int32) * v6) + v7)).toNatClampNeg)))]) (x := v7) (v := v7 + 1) dX6_determinant_144 rfl rfl (by decide) rfl ?_
      refine xr_goto (pc := 147) κ (tgt := 79) dX6_determinant_147 (by decide) ?_
      refine xr_sub (pc := 79) κ [0, 1, 2, 3, 4, 5] (lv' := [(0, .ref 0), (1, .long v1), (3, .long v3), (5, .int v5), (6, .int v6), (7, .int (v7 + 1))]) rfl ?_
      exact ih _ _ _ _ _ _ _ h
def nd_X6_determinant_55 (K : Int64 → CS → MT → Prop) (L7 : Int64 → Int64 → Int32 → CS → MT → Prop) (v1 : Int64) (v3 : Int64) (v5 : Int32) (v6 : Int32) (c : CS) (t : MT) : Prop :=
    (¬ v6 = (m_side t) →
      (v6 = v5 →
        nd_X6_determinant_150 K L7 v1 v3 v5 c t) ∧
      (¬ v6 = v5 →
        ∃ n79 : Nat, nd_X6_determinant_79 K L7 n79 v1 (-v3) v5 v6 (0 : Int32) c t)) ∧
    (v6 = (m_side t) →
      K (0 : Int64) c t)
set_option maxHeartbeats 4000000 in
set_option maxRecDepth 100000 in
theorem snd_X6_determinant_55 {l : Launch} (κ : XC l xTM cX6_determinant yX6_determinant.cls 10 (some .long) 0) (K : Int64 → CS → MT → Prop) (hQ : xRet κ (fun v ω' => ∃ (r : Int64) (c' : CS) (t' : MT), v = some (.long r) ∧ ω' = wM c' t' ∧ K r c' t')) (L7 : Int64 → Int64 → Int32 → CS → MT → Prop) (hL7 : ∀ (v1 : Int64) (v3 : Int64) (v5 : Int32) (c : CS) (t : MT), L7 v1 v3 v5 c t → Wat κ 7 [(0, .ref 0), (1, .long v1), (3, .long v3), (5, .int v5)] [] (wM c t)) (v1 : Int64) (v3 : Int64) (v5 : Int32) (v6 : Int32) (c : CS) (t : MT) (h : nd_X6_determinant_55 K L7 v1 v3 v5 v6 c t) : Wat κ 55 [(0, .ref 0), (1, .long v1), (3, .long v3), (5, .int v5), (6, .int v6)] [] (wM c t) := by
    unfold nd_X6_determinant_55 at h
    refine xr_iload (pc := 55) κ 4 (x := v6) dX6_determinant_55 rfl ?_
    refine xr_aload_n (pc := 57) κ 0 (x := 0) dX6_determinant_57 rfl rfl ?_
    refine xr_get (pc := 58) κ xc6 (k := 0) (f := 13) (v := .int (m_side t)) kw_3_36 (by decide) rfl (by decide) rfl dX6_determinant_58 ?_
    refine xr_icmp_ne (pc := 61) κ (tgt := 66) dX6_determinant_61 (by decide) (fun c5 => ?_) (fun c5 => ?_)
    · have h := h.1 c5
      refine xr_iload (pc := 66) κ 4 (x := v6) dX6_determinant_66 rfl ?_
      refine xr_iload (pc := 68) κ 3 (x := v5) dX6_determinant_68 rfl ?_
      refine xr_icmp_eq (pc := 70) κ (tgt := 150) dX6_determinant_70 (by decide) (fun c6 => ?_) (fun c6 => ?_)
      · have h := h.1 c6
        refine xr_sub (pc := 150) κ [0, 1, 2, 3] (lv' := [(0, .ref 0), (1, .long v1), (3, .long v3), (5, .int v5)]) rfl ?_
        exact snd_X6_determinant_150 κ K hQ _ hL7 _ _ _ _ _ h
      · have h := h.2 c6
        refine xr_lload_n (pc := 73) κ 2 (x := v3) dX6_determinant_73 rfl rfl ?_
        refine xr_lneg (pc := 74) κ dX6_determinant_74 ?_
        refine xr_lstore_n (pc := 75) κ [1, 2, 0, 3, 4] (lv' := [(0, .ref 0), (1, .long v1), (3, .long (-v3)), (5, .int v5), (6, .int v6)]) dX6_determinant_75 rfl (by decide) rfl ?_
        refine xr_iconst (pc := 76) κ (v := 0) dX6_determinant_76 (by decide) ?_
        refine xr_istore (pc := 77) κ [1, 2, 3, 4, 5, 0] (lv' := [(0, .ref 0), (1, .long v1), (3, .long (-v3)), (5, .int v5), (6, .int v6), (7, .int (0 : Int32))]) dX6_determinant_77 (by decide) rfl ?_
        obtain ⟨n0, h⟩ := h
        exact snd_X6_determinant_79 κ K hQ _ hL7 n0 _ _ _ _ _ _ _ h
    · have h := h.2 c5
      refine xr_lconst (pc := 64) κ (v := 0) dX6_determinant_64 (by decide) ?_
      exact xr_lret (pc := 65) κ _ hQ dX6_determinant_65 ⟨_, _, _, rfl, rfl, h⟩
def nd_X6_determinant_22 (K : Int64 → CS → MT → Prop) (L7 : Int64 → Int64 → Int32 → CS → MT → Prop) : Nat → Int64 → Int64 → Int32 → Int32 → CS → MT → Prop
  | 0 => fun _ _ _ _ _ _ => False
  | n + 1 => fun v1 v3 v5 v6 c t =>
    ((m_side t) ≤ v6 →
      nd_X6_determinant_55 K L7 v1 v3 v5 v6 c t) ∧
    (¬ (m_side t) ≤ v6 →
      vp_in (((7 : Int32) * v6) + v5) 49 ∧
      (¬ (m_square t (((((7 : Int32) * v6) + v5)).toNatClampNeg)) = (0 : Int64) →
        nd_X6_determinant_55 K L7 v1 v3 v5 v6 c t) ∧
      ((m_square t (((((7 : Int32) * v6) + v5)).toNatClampNeg)) = (0 : Int64) →
        nd_X6_determinant_22 K L7 n v1 v3 v5 (v6 + 1) c t))
set_option maxHeartbeats 4000000 in
set_option maxRecDepth 100000 in
theorem snd_X6_determinant_22 {l : Launch} (κ : XC l xTM cX6_determinant yX6_determinant.cls 10 (some .long) 0) (K : Int64 → CS → MT → Prop) (hQ : xRet κ (fun v ω' => ∃ (r : Int64) (c' : CS) (t' : MT), v = some (.long r) ∧ ω' = wM c' t' ∧ K r c' t')) (L7 : Int64 → Int64 → Int32 → CS → MT → Prop) (hL7 : ∀ (v1 : Int64) (v3 : Int64) (v5 : Int32) (c : CS) (t : MT), L7 v1 v3 v5 c t → Wat κ 7 [(0, .ref 0), (1, .long v1), (3, .long v3), (5, .int v5)] [] (wM c t)) : ∀ (n : Nat) (v1 : Int64) (v3 : Int64) (v5 : Int32) (v6 : Int32) (c : CS) (t : MT), nd_X6_determinant_22 K L7 n v1 v3 v5 v6 c t → Wat κ 22 [(0, .ref 0), (1, .long v1), (3, .long v3), (5, .int v5), (6, .int v6)] [] (wM c t) := by
  intro n
  induction n with
  | zero => intro v1 v3 v5 v6 c t h; exact h.elim
  | succ n ih =>
    intro v1 v3 v5 v6 c t h
    unfold nd_X6_determinant_22 at h
    refine xr_iload (pc := 22) κ 4 (x := v6) dX6_determinant_22 rfl ?_
    refine xr_aload_n (pc := 24) κ 0 (x := 0) dX6_determinant_24 rfl rfl ?_
    refine xr_get (pc := 25) κ xc6 (k := 0) (f := 13) (v := .int (m_side t)) kw_3_36 (by decide) rfl (by decide) rfl dX6_determinant_25 ?_
    refine xr_icmp_ge (pc := 28) κ (tgt := 55) dX6_determinant_28 (by decide) (fun c4 => ?_) (fun c4 => ?_)
    · have h := h.1 c4
      exact snd_X6_determinant_55 κ K hQ _ hL7 _ _ _ _ _ _ h
    · have h := h.2 c4
      refine xr_aload_n (pc := 31) κ 0 (x := 0) dX6_determinant_31 rfl rfl ?_
      refine xr_get (pc := 32) κ xc6 (k := 0) (f := 12) (v := .ref 8) kw_3_35 (by decide) rfl (by decide) rfl dX6_determinant_32 ?_
      refine xr_bipush (pc := 35) κ (v := 7) dX6_determinant_35 (by decide) ?_
      refine xr_iload (pc := 37) κ 4 (x := v6) dX6_determinant_37 rfl ?_
      refine xr_imul (pc := 39) κ dX6_determinant_39 ?_
      refine xr_iload (pc := 40) κ 3 (x := v5) dX6_determinant_40 rfl ?_
      refine xr_iadd (pc := 42) κ dX6_determinant_42 ?_
      obtain ⟨i21, h⟩ := h
      refine xr_lald (pc := 43) κ (k := 8) (n := 49) (f := m_square t) (by decide) rfl rfl i21 dX6_determinant_43 ?_
      refine xr_lconst (pc := 44) κ (v := 0) dX6_determinant_44 (by decide) ?_
      refine xr_lcmp_ne (pc := 45) κ (tgt := 55) dX6_determinant_45 dX6_determinant_46 (by decide) (fun c22 => ?_) (fun c22 => ?_)
      · have h := h.1 c22
        exact snd_X6_determinant_55 κ K hQ _ hL7 _ _ _ _ _ _ h
      · have h := h.2 c22
        refine xr_iinc (pc := 49) κ 4 [1, 2, 3, 4, 0] (lv' := [(0, .ref 0), (1, .long v1), (3, .long v3), (5, .int v5), (6, .int (v6 + 1))]) (x := v6) (v := v6 + 1) dX6_determinant_49 rfl rfl (by decide) rfl ?_
        refine xr_goto (pc := 52) κ (tgt := 22) dX6_determinant_52 (by decide) ?_
        exact ih _ _ _ _ _ _ h
def nd_X6_determinant_7 (K : Int64 → CS → MT → Prop) : Nat → Int64 → Int64 → Int32 → CS → MT → Prop
  | 0 => fun _ _ _ _ _ => False
  | n + 1 => fun v1 v3 v5 c t =>
    ((m_side t) ≤ (v5 + (1 : Int32)) →
      (¬ (m_side t) = 0 →
        vp_in ((8 : Int32) * ((m_side t) - (1 : Int32))) 49 ∧
        K (v3 * (m_square t ((((8 : Int32) * ((m_side t) - (1 : Int32)))).toNatClampNeg))) c t) ∧
      ((m_side t) = 0 →
        K (1 : Int64) c t)) ∧
    (¬ (m_side t) ≤ (v5 + (1 : Int32)) →
      ∃ n22 : Nat, nd_X6_determinant_22 K (fun v1 v3 v5 c t => nd_X6_determinant_7 K n v1 v3 v5 c t) n22 v1 v3 v5 v5 c t)
set_option maxHeartbeats 4000000 in
set_option maxRecDepth 100000 in
theorem snd_X6_determinant_7 {l : Launch} (κ : XC l xTM cX6_determinant yX6_determinant.cls 10 (some .long) 0) (K : Int64 → CS → MT → Prop) (hQ : xRet κ (fun v ω' => ∃ (r : Int64) (c' : CS) (t' : MT), v = some (.long r) ∧ ω' = wM c' t' ∧ K r c' t')) : ∀ (n : Nat) (v1 : Int64) (v3 : Int64) (v5 : Int32) (c : CS) (t : MT), nd_X6_determinant_7 K n v1 v3 v5 c t → Wat κ 7 [(0, .ref 0), (1, .long v1), (3, .long v3), (5, .int v5)] [] (wM c t) := by
  intro n
  induction n with
  | zero => intro v1 v3 v5 c t h; exact h.elim
  | succ n ih =>
    intro v1 v3 v5 c t h
    unfold nd_X6_determinant_7 at h
    refine xr_iload (pc := 7) κ 3 (x := v5) dX6_determinant_7 rfl ?_
    refine xr_iconst (pc := 9) κ (v := 1) dX6_determinant_9 (by decide) ?_
    refine xr_iadd (pc := 10) κ dX6_determinant_10 ?_
    refine xr_aload_n (pc := 11) κ 0 (x := 0) dX6_determinant_11 rfl rfl ?_
    refine xr_get (pc := 12) κ xc6 (k := 0) (f := 13) (v := .int (m_side t)) kw_3_36 (by decide) rfl (by decide) rfl dX6_determinant_12 ?_
    refine xr_icmp_ge (pc := 15) κ (tgt := 282) dX6_determinant_15 (by decide) (fun c1 => ?_) (fun c1 => ?_)
    · have h := h.1 c1
      refine xr_aload_n (pc := 282) κ 0 (x := 0) dX6_determinant_282 rfl rfl ?_
      refine xr_get (pc := 283) κ xc6 (k := 0) (f := 13) (v := .int (m_side t)) kw_3_36 (by decide) rfl (by decide) rfl dX6_determinant_283 ?_
      refine xr_if_ne (pc := 286) κ (tgt := 293) dX6_determinant_286 (by decide) (fun c2 => ?_) (fun c2 => ?_)
      · have h := h.1 c2
        refine xr_lload_n (pc := 293) κ 2 (x := v3) dX6_determinant_293 rfl rfl ?_
        refine xr_aload_n (pc := 294) κ 0 (x := 0) dX6_determinant_294 rfl rfl ?_
        refine xr_get (pc := 295) κ xc6 (k := 0) (f := 12) (v := .ref 8) kw_3_35 (by decide) rfl (by decide) rfl dX6_determinant_295 ?_
        refine xr_bipush (pc := 298) κ (v := 8) dX6_determinant_298 (by decide) ?_
        refine xr_aload_n (pc := 300) κ 0 (x := 0) dX6_determinant_300 rfl rfl ?_
        refine xr_get (pc := 301) κ xc6 (k := 0) (f := 13) (v := .int (m_side t)) kw_3_36 (by decide) rfl (by decide) rfl dX6_determinant_301 ?_
        refine xr_iconst (pc := 304) κ (v := 1) dX6_determinant_304 (by decide) ?_
        refine xr_isub (pc := 305) κ dX6_determinant_305 ?_
        refine xr_imul (pc := 306) κ dX6_determinant_306 ?_
        obtain ⟨i3, h⟩ := h
        refine xr_lald (pc := 307) κ (k := 8) (n := 49) (f := m_square t) (by decide) rfl rfl i3 dX6_determinant_307 ?_
        refine xr_lmul (pc := 308) κ dX6_determinant_308 ?_
        exact xr_lret (pc := 309) κ _ hQ dX6_determinant_309 ⟨_, _, _, rfl, rfl, h⟩
      · have h := h.2 c2
        refine xr_lconst (pc := 289) κ (v := 1) dX6_determinant_289 (by decide) ?_
        refine xr_goto (pc := 290) κ (tgt := 309) dX6_determinant_290 (by decide) ?_
        exact xr_lret (pc := 309) κ _ hQ dX6_determinant_309 ⟨_, _, _, rfl, rfl, h⟩
    · have h := h.2 c1
      refine xr_iload (pc := 18) κ 3 (x := v5) dX6_determinant_18 rfl ?_
      refine xr_istore (pc := 20) κ [1, 2, 3, 4, 0] (lv' := [(0, .ref 0), (1, .long v1), (3, .long v3), (5, .int v5), (6, .int v5)]) dX6_determinant_20 (by decide) rfl ?_
      obtain ⟨n0, h⟩ := h
      exact snd_X6_determinant_22 κ K hQ _ ih n0 _ _ _ _ _ _ h
def wp_X6_determinant (c : CS) (t : MT) (K : Int64 → CS → MT → Prop) : Prop :=
    ∃ n7 : Nat, nd_X6_determinant_7 K n7 (1 : Int64) (1 : Int64) (0 : Int32) c t
set_option maxHeartbeats 4000000 in
set_option maxRecDepth 100000 in
theorem snd_X6_determinant {l : Launch} (c : CS) (t : MT) (K : Int64 → CS → MT → Prop) (h : wp_X6_determinant  c t K) : XM l xTM yX6_determinant cX6_determinant 10 (some .long) 0 [.ref 0] (wM c t) (fun v ω' => ∃ (r : Int64) (c' : CS) (t' : MT), v = some (.long r) ∧ ω' = wM c' t' ∧ K r c' t') := by
    refine XM.of (by decide) (Nat.le_of_ble_eq_true rfl) (fun κ hQ => ?_)
    show Wat κ 0 [(0, .ref 0)] [] (wM c t)
    unfold wp_X6_determinant at h
    refine xr_lconst (pc := 0) κ (v := 1) dX6_determinant_0 (by decide) ?_
    refine xr_lstore_n (pc := 1) κ [1, 0] (lv' := [(0, .ref 0), (1, .long (1 : Int64))]) dX6_determinant_1 rfl (by decide) rfl ?_
    refine xr_lconst (pc := 2) κ (v := 1) dX6_determinant_2 (by decide) ?_
    refine xr_lstore_n (pc := 3) κ [1, 2, 0] (lv' := [(0, .ref 0), (1, .long (1 : Int64)), (3, .long (1 : Int64))]) dX6_determinant_3 rfl (by decide) rfl ?_
    refine xr_iconst (pc := 4) κ (v := 0) dX6_determinant_4 (by decide) ?_
    refine xr_istore (pc := 5) κ [1, 2, 3, 0] (lv' := [(0, .ref 0), (1, .long (1 : Int64)), (3, .long (1 : Int64)), (5, .int (0 : Int32))]) dX6_determinant_5 (by decide) rfl ?_
    obtain ⟨n0, h⟩ := h
    exact snd_X6_determinant_7 κ K hQ n0 _ _ _ _ _ h
-- ChipVoltsModel.minor(IIII)J, level 1
def nd_X6_minor_114 (K : Int64 → CS → MT → Prop) (L102 : Int32 → Int32 → CS → MT → Prop) : Nat → Int32 → Int32 → Int32 → CS → MT → Prop
  | 0 => fun _ _ _ _ _ => False
  | n + 1 => fun v4 v5 v6 c t =>
    ((m_side t) ≤ v6 →
      L102 v4 (v5 + 1) c t) ∧
    (¬ (m_side t) ≤ v6 →
      vp_in v5 7 ∧
      vp_in v6 7 ∧
      wp_X6_between (m_rows t v5.toNatClampNeg) (m_columns t v6.toNatClampNeg) v4 c t (fun r8 c8_ t8_ =>
        vp_in (((7 : Int32) * v5) + v6) 49 ∧
        nd_X6_minor_114 K L102 n v4 v5 (v6 + 1) c8_ (ms_square t8_ (vp_updL (m_square t8_) (((((7 : Int32) * v5) + v6)).toNatClampNeg) r8))))
set_option maxHeartbeats 4000000 in
set_option maxRecDepth 100000 in
theorem snd_X6_minor_114 {l : Launch} (κ : XC l xTM cX6_minor yX6_minor.cls 7 (some .long) 1) (K : Int64 → CS → MT → Prop) (hQ : xRet κ (fun v ω' => ∃ (r : Int64) (c' : CS) (t' : MT), v = some (.long r) ∧ ω' = wM c' t' ∧ K r c' t')) (L102 : Int32 → Int32 → CS → MT → Prop) (hL102 : ∀ (v4 : Int32) (v5 : Int32) (c : CS) (t : MT), L102 v4 v5 c t → Wat κ 102 [(0, .ref 0), (4, .int v4), (5, .int v5)] [] (wM c t)) : ∀ (n : Nat) (v4 : Int32) (v5 : Int32) (v6 : Int32) (c : CS) (t : MT), nd_X6_minor_114 K L102 n v4 v5 v6 c t → Wat κ 114 [(0, .ref 0), (4, .int v4), (5, .int v5), (6, .int v6)] [] (wM c t) := by
  intro n
  induction n with
  | zero => intro v4 v5 v6 c t h; exact h.elim
  | succ n ih =>
    intro v4 v5 v6 c t h
    unfold nd_X6_minor_114 at h
    refine xr_iload (pc := 114) κ 3 (x := v6) dX6_minor_114 rfl ?_
    refine xr_aload_n (pc := 116) κ 0 (x := 0) dX6_minor_116 rfl rfl ?_
    refine xr_get (pc := 117) κ xc6 (k := 0) (f := 13) (v := .int (m_side t)) kw_3_36 (by decide) rfl (by decide) rfl dX6_minor_117 ?_
    refine xr_icmp_ge (pc := 120) κ (tgt := 162) dX6_minor_120 (by decide) (fun c5 => ?_) (fun c5 => ?_)
    · have h := h.1 c5
      refine xr_iinc (pc := 162) κ 2 [1, 2, 0, 3] (lv' := [(0, .ref 0), (4, .int v4), (5, .int (v5 + 1)), (6, .int v6)]) (x := v5) (v := v5 + 1) dX6_minor_162 rfl rfl (by decide) rfl ?_
      refine xr_goto (pc := 165) κ (tgt := 102) dX6_minor_165 (by decide) ?_
      refine xr_sub (pc := 102) κ [0, 1, 2] (lv' := [(0, .ref 0), (4, .int v4), (5, .int (v5 + 1))]) rfl ?_
      exact hL102 _ _ _ _ h
    · have h := h.2 c5
      refine xr_aload_n (pc := 123) κ 0 (x := 0) dX6_minor_123 rfl rfl ?_
      refine xr_get (pc := 124) κ xc6 (k := 0) (f := 12) (v := .ref 8) kw_3_35 (by decide) rfl (by decide) rfl dX6_minor_124 ?_
      refine xr_bipush (pc := 127) κ (v := 7) dX6_minor_127 (by decide) ?_
      refine xr_iload (pc := 129) κ 2 (x := v5) dX6_minor_129 rfl ?_
      refine xr_imul (pc := 131) κ dX6_minor_131 ?_
      refine xr_iload (pc := 132) κ 3 (x := v6) dX6_minor_132 rfl ?_
      refine xr_iadd (pc := 134) κ dX6_minor_134 ?_
      refine xr_aload_n (pc := 135) κ 0 (x := 0) dX6_minor_135 rfl rfl ?_
      refine xr_aload_n (pc := 136) κ 0 (x := 0) dX6_minor_136 rfl rfl ?_
      refine xr_get (pc := 137) κ xc6 (k := 0) (f := 14) (v := .ref 9) kw_3_37 (by decide) rfl (by decide) rfl dX6_minor_137 ?_
      refine xr_iload (pc := 140) κ 2 (x := v5) dX6_minor_140 rfl ?_
      obtain ⟨i6, h⟩ := h
      refine xr_iald (pc := 142) κ (k := 9) (n := 7) (f := m_rows t) (by decide) rfl rfl i6 dX6_minor_142 ?_
      refine xr_aload_n (pc := 143) κ 0 (x := 0) dX6_minor_143 rfl rfl ?_
      refine xr_get (pc := 144) κ xc6 (k := 0) (f := 15) (v := .ref 10) kw_3_38 (by decide) rfl (by decide) rfl dX6_minor_144 ?_
      refine xr_iload (pc := 147) κ 3 (x := v6) dX6_minor_147 rfl ?_
      obtain ⟨i7, h⟩ := h
      refine xr_iald (pc := 149) κ (k := 10) (n := 7) (f := m_columns t) (by decide) rfl rfl i7 dX6_minor_149 ?_
      refine xr_iload (pc := 150) κ 1 (x := v4) dX6_minor_150 rfl ?_
      refine xr_callV (pc := 152) κ [.int (m_rows t v5.toNatClampNeg), .int (m_columns t v6.toNatClampNeg), .int v4] kw_3_151 tg_X6_between (snd_X6_between _ _ _ _ _ _ h) rfl (by decide) (by decide) (by decide) rfl (ci := 6) rfl rfl (Nat.le_of_ble_eq_true rfl) dX6_minor_152 (fun v9 ω9 hk9 => ?_)
      obtain ⟨r8, c8_, t8_, rfl, rfl, h⟩ := hk9
      skip
      show Wat κ 155 [(0, .ref 0), (4, .int v4), (5, .int v5), (6, .int v6)] [.long r8, .int (((7 : Int32) * v5) + v6), .ref 8] (wM c8_ t8_)
      obtain ⟨i9, h⟩ := h
      refine xr_last (pc := 155) κ (k := 8) (n := 49) (f := m_square t8_) (ω' := wM c8_ (ms_square t8_ (vp_updL (m_square t8_) (((((7 : Int32) * v5) + v6)).toNatClampNeg) r8))) (by decide) rfl rfl i9 (wMa_square _ _ _) dX6_minor_155 ?_
      refine xr_iinc (pc := 156) κ 3 [1, 2, 3, 0] (lv' := [(0, .ref 0), (4, .int v4), (5, .int v5), (6, .int (v6 + 1))]) (x := v6) (v := v6 + 1) dX6_minor_156 rfl rfl (by decide) rfl ?_
      refine xr_goto (pc := 159) κ (tgt := 114) dX6_minor_159 (by decide) ?_
      exact ih _ _ _ _ _ h
def nd_X6_minor_102 (K : Int64 → CS → MT → Prop) : Nat → Int32 → Int32 → CS → MT → Prop
  | 0 => fun _ _ _ _ => False
  | n + 1 => fun v4 v5 c t =>
    ((m_side t) ≤ v5 →
      wp_X6_determinant c t (fun r4 c4_ t4_ =>
        K r4 c4_ t4_)) ∧
    (¬ (m_side t) ≤ v5 →
      ∃ n114 : Nat, nd_X6_minor_114 K (fun v4 v5 c t => nd_X6_minor_102 K n v4 v5 c t) n114 v4 v5 (0 : Int32) c t)
set_option maxHeartbeats 4000000 in
set_option maxRecDepth 100000 in
theorem snd_X6_minor_102 {l : Launch} (κ : XC l xTM cX6_minor yX6_minor.cls 7 (some .long) 1) (K : Int64 → CS → MT → Prop) (hQ : xRet κ (fun v ω' => ∃ (r : Int64) (c' : CS) (t' : MT), v = some (.long r) ∧ ω' = wM c' t' ∧ K r c' t')) : ∀ (n : Nat) (v4 : Int32) (v5 : Int32) (c : CS) (t : MT), nd_X6_minor_102 K n v4 v5 c t → Wat κ 102 [(0, .ref 0), (4, .int v4), (5, .int v5)] [] (wM c t) := by
  intro n
  induction n with
  | zero => intro v4 v5 c t h; exact h.elim
  | succ n ih =>
    intro v4 v5 c t h
    unfold nd_X6_minor_102 at h
    refine xr_iload (pc := 102) κ 2 (x := v5) dX6_minor_102 rfl ?_
    refine xr_aload_n (pc := 104) κ 0 (x := 0) dX6_minor_104 rfl rfl ?_
    refine xr_get (pc := 105) κ xc6 (k := 0) (f := 13) (v := .int (m_side t)) kw_3_36 (by decide) rfl (by decide) rfl dX6_minor_105 ?_
    refine xr_icmp_ge (pc := 108) κ (tgt := 168) dX6_minor_108 (by decide) (fun c3 => ?_) (fun c3 => ?_)
    · have h := h.1 c3
      refine xr_aload_n (pc := 168) κ 0 (x := 0) dX6_minor_168 rfl rfl ?_
      refine xr_callV (pc := 169) κ [] kw_3_155 tg_X6_determinant (snd_X6_determinant  _ _ _ h) rfl (by decide) (by decide) (by decide) rfl (ci := 6) rfl rfl (Nat.le_of_ble_eq_true rfl) dX6_minor_169 (fun v9 ω9 hk9 => ?_)
      obtain ⟨r4, c4_, t4_, rfl, rfl, h⟩ := hk9
      skip
      show Wat κ 172 [(0, .ref 0), (4, .int v4), (5, .int v5)] [.long r4] (wM c4_ t4_)
      exact xr_lret (pc := 172) κ _ hQ dX6_minor_172 ⟨_, _, _, rfl, rfl, h⟩
    · have h := h.2 c3
      refine xr_iconst (pc := 111) κ (v := 0) dX6_minor_111 (by decide) ?_
      refine xr_istore (pc := 112) κ [1, 2, 3, 0] (lv' := [(0, .ref 0), (4, .int v4), (5, .int v5), (6, .int (0 : Int32))]) dX6_minor_112 (by decide) rfl ?_
      obtain ⟨n0, h⟩ := h
      exact snd_X6_minor_114 κ K hQ _ ih n0 _ _ _ _ _ h
def nd_X6_minor_99 (K : Int64 → CS → MT → Prop) (v4 : Int32) (c : CS) (t : MT) : Prop :=
    ∃ n102 : Nat, nd_X6_minor_102 K n102 v4 (0 : Int32) c t
set_option maxHeartbeats 4000000 in
set_option maxRecDepth 100000 in
theorem snd_X6_minor_99 {l : Launch} (κ : XC l xTM cX6_minor yX6_minor.cls 7 (some .long) 1) (K : Int64 → CS → MT → Prop) (hQ : xRet κ (fun v ω' => ∃ (r : Int64) (c' : CS) (t' : MT), v = some (.long r) ∧ ω' = wM c' t' ∧ K r c' t')) (v4 : Int32) (c : CS) (t : MT) (h : nd_X6_minor_99 K v4 c t) : Wat κ 99 [(0, .ref 0), (4, .int v4)] [] (wM c t) := by
    unfold nd_X6_minor_99 at h
    refine xr_iconst (pc := 99) κ (v := 0) dX6_minor_99 (by decide) ?_
    refine xr_istore (pc := 100) κ [1, 2, 0] (lv' := [(0, .ref 0), (4, .int v4), (5, .int (0 : Int32))]) dX6_minor_100 (by decide) rfl ?_
    obtain ⟨n0, h⟩ := h
    exact snd_X6_minor_102 κ K hQ n0 _ _ _ _ h
def nd_X6_minor_58 (K : Int64 → CS → MT → Prop) (L8 : Int32 → Int32 → Int32 → Int32 → Int32 → CS → MT → Prop) (v1 : Int32) (v2 : Int32) (v3 : Int32) (v4 : Int32) (v5 : Int32) (c : CS) (t : MT) : Prop :=
    L8 v1 v2 v3 v4 (v5 + 1) c t
set_option maxHeartbeats 4000000 in
set_option maxRecDepth 100000 in
theorem snd_X6_minor_58 {l : Launch} (κ : XC l xTM cX6_minor yX6_minor.cls 7 (some .long) 1) (K : Int64 → CS → MT → Prop) (hQ : xRet κ (fun v ω' => ∃ (r : Int64) (c' : CS) (t' : MT), v = some (.long r) ∧ ω' = wM c' t' ∧ K r c' t')) (L8 : Int32 → Int32 → Int32 → Int32 → Int32 → CS → MT → Prop) (hL8 : ∀ (v1 : Int32) (v2 : Int32) (v3 : Int32) (v4 : Int32) (v5 : Int32) (c : CS) (t : MT), L8 v1 v2 v3 v4 v5 c t → Wat κ 8 [(0, .ref 0), (1, .int v1), (2, .int v2), (3, .int v3), (4, .int v4), (5, .int v5)] [] (wM c t)) (v1 : Int32) (v2 : Int32) (v3 : Int32) (v4 : Int32) (v5 : Int32) (c : CS) (t : MT) (h : nd_X6_minor_58 K L8 v1 v2 v3 v4 v5 c t) : Wat κ 58 [(0, .ref 0), (1, .int v1), (2, .int v2), (3, .int v3), (4, .int v4), (5, .int v5)] [] (wM c t) := by
    unfold nd_X6_minor_58 at h
    refine xr_iinc (pc := 58) κ 5 [1, 2, 3, 4, 5, 0] (lv' := [(0, .ref 0), (1, .int v1), (2, .int v2), (3, .int v3), (4, .int v4), (5, .int (v5 + 1))]) (x := v5) (v := v5 + 1) dX6_minor_58 rfl rfl (by decide) rfl ?_
    refine xr_goto (pc := 61) κ (tgt := 8) dX6_minor_61 (by decide) ?_
    exact hL8 _ _ _ _ _ _ _ h
def nd_X6_minor_8 (K : Int64 → CS → MT → Prop) : Nat → Int32 → Int32 → Int32 → Int32 → Int32 → CS → MT → Prop
  | 0 => fun _ _ _ _ _ _ _ => False
  | n + 1 => fun v1 v2 v3 v4 v5 c t =>
    ((c_n c) ≤ v5 →
      (v2 = (-1 : Int32) →
        nd_X6_minor_99 K v4 c t) ∧
      (¬ v2 = (-1 : Int32) →
        vp_in (m_side t) 7 ∧
        vp_in (m_side t) 7 ∧
        nd_X6_minor_99 K v4 c (ms_side (ms_columns (ms_rows t (upd (m_rows t) (((m_side t)).toNatClampNeg) v2)) (upd (m_columns t) (((m_side t)).toNatClampNeg) v3)) ((m_side t) + (1 : Int32))))) ∧
    (¬ (c_n c) ≤ v5 →
      (¬ ((v1 >>> (v5 &&& 31)) &&& (1 : Int32)) = 0 →
        nd_X6_minor_58 K (fun v1 v2 v3 v4 v5 c t => nd_X6_minor_8 K n v1 v2 v3 v4 v5 c t) v1 v2 v3 v4 v5 c t) ∧
      (((v1 >>> (v5 &&& 31)) &&& (1 : Int32)) = 0 →
        vp_in (m_side t) 7 ∧
        vp_in (m_side t) 7 ∧
        nd_X6_minor_58 K (fun v1 v2 v3 v4 v5 c t => nd_X6_minor_8 K n v1 v2 v3 v4 v5 c t) v1 v2 v3 v4 v5 c (ms_side (ms_columns (ms_rows t (upd (m_rows t) (((m_side t)).toNatClampNeg) v5)) (upd (m_columns t) (((m_side t)).toNatClampNeg) v5)) ((m_side t) + (1 : Int32)))))
set_option maxHeartbeats 4000000 in
set_option maxRecDepth 100000 in
theorem snd_X6_minor_8 {l : Launch} (κ : XC l xTM cX6_minor yX6_minor.cls 7 (some .long) 1) (K : Int64 → CS → MT → Prop) (hQ : xRet κ (fun v ω' => ∃ (r : Int64) (c' : CS) (t' : MT), v = some (.long r) ∧ ω' = wM c' t' ∧ K r c' t')) : ∀ (n : Nat) (v1 : Int32) (v2 : Int32) (v3 : Int32) (v4 : Int32) (v5 : Int32) (c : CS) (t : MT), nd_X6_minor_8 K n v1 v2 v3 v4 v5 c t → Wat κ 8 [(0, .ref 0), (1, .int v1), (2, .int v2), (3, .int v3), (4, .int v4), (5, .int v5)] [] (wM c t) := by
  intro n
  induction n with
  | zero => intro v1 v2 v3 v4 v5 c t h; exact h.elim
  | succ n ih =>
    intro v1 v2 v3 v4 v5 c t h
    unfold nd_X6_minor_8 at h
    refine xr_iload (pc := 8) κ 5 (x := v5) dX6_minor_8 rfl ?_
    refine xr_aload_n (pc := 10) κ 0 (x := 0) dX6_minor_10 rfl rfl ?_
    refine xr_get (pc := 11) κ xc6 (k := 0) (f := 0) (v := .int (c_n c)) kw_3_23 (by decide) rfl (by decide) rfl dX6_minor_11 ?_
    refine xr_icmp_ge (pc := 14) κ (tgt := 64) dX6_minor_14 (by decide) (fun c1 => ?_) (fun c1 => ?_)
    · have h := h.1 c1
      refine xr_iload_n (pc := 64) κ 2 (x := v2) dX6_minor_64 rfl rfl ?_
      refine xr_iconst (pc := 65) κ (v := -1) dX6_minor_65 (by decide) ?_
      refine xr_icmp_eq (pc := 66) κ (tgt := 99) dX6_minor_66 (by decide) (fun c2 => ?_) (fun c2 => ?_)
      · have h := h.1 c2
        refine xr_sub (pc := 99) κ [0, 4] (lv' := [(0, .ref 0), (4, .int v4)]) rfl ?_
        exact snd_X6_minor_99 κ K hQ _ _ _ h
      · have h := h.2 c2
        refine xr_aload_n (pc := 69) κ 0 (x := 0) dX6_minor_69 rfl rfl ?_
        refine xr_get (pc := 70) κ xc6 (k := 0) (f := 14) (v := .ref 9) kw_3_37 (by decide) rfl (by decide) rfl dX6_minor_70 ?_
        refine xr_aload_n (pc := 73) κ 0 (x := 0) dX6_minor_73 rfl rfl ?_
        refine xr_get (pc := 74) κ xc6 (k := 0) (f := 13) (v := .int (m_side t)) kw_3_36 (by decide) rfl (by decide) rfl dX6_minor_74 ?_
        refine xr_iload_n (pc := 77) κ 2 (x := v2) dX6_minor_77 rfl rfl ?_
        obtain ⟨i10, h⟩ := h
        refine xr_iast (pc := 78) κ (k := 9) (n := 7) (f := m_rows t) (ω' := wM c (ms_rows t (upd (m_rows t) (((m_side t)).toNatClampNeg) v2))) (by decide) rfl rfl i10 (wMa_rows _ _ _) dX6_minor_78 ?_
        refine xr_aload_n (pc := 79) κ 0 (x := 0) dX6_minor_79 rfl rfl ?_
        refine xr_get (pc := 80) κ xc6 (k := 0) (f := 15) (v := .ref 10) kw_3_38 (by decide) rfl (by decide) rfl dX6_minor_80 ?_
        refine xr_aload_n (pc := 83) κ 0 (x := 0) dX6_minor_83 rfl rfl ?_
        refine xr_get (pc := 84) κ xc6 (k := 0) (f := 13) (v := .int (m_side t)) kw_3_36 (by decide) rfl (by decide) rfl dX6_minor_84 ?_
        refine xr_iload_n (pc := 87) κ 3 (x := v3) dX6_minor_87 rfl rfl ?_
        obtain ⟨i11, h⟩ := h
        refine xr_iast (pc := 88) κ (k := 10) (n := 7) (f := m_columns t) (ω' := wM c (ms_columns (ms_rows t (upd (m_rows t) (((m_side t)).toNatClampNeg) v2)) (upd (m_columns t) (((m_side t)).toNatClampNeg) v3))) (by decide) rfl rfl i11 (wMa_columns _ _ _) dX6_minor_88 ?_
        refine xr_aload_n (pc := 89) κ 0 (x := 0) dX6_minor_89 rfl rfl ?_
        refine xr_dup (pc := 90) κ rfl dX6_minor_90 ?_
        refine xr_get (pc := 91) κ xc6 (k := 0) (f := 13) (v := .int (m_side t)) kw_3_36 (by decide) rfl (by decide) rfl dX6_minor_91 ?_
        refine xr_iconst (pc := 94) κ (v := 1) dX6_minor_94 (by decide) ?_
        refine xr_iadd (pc := 95) κ dX6_minor_95 ?_
        refine xr_put (pc := 96) κ xc6 (k := 0) (f := 13) (v := .int ((m_side t) + (1 : Int32))) (ω' := wM c (ms_side (ms_columns (ms_rows t (upd (m_rows t) (((m_side t)).toNatClampNeg) v2)) (upd (m_columns t) (((m_side t)).toNatClampNeg) v3)) ((m_side t) + (1 : Int32)))) kw_3_36 (by decide) rfl (by decide) rfl (fun _ => rfl) (fun _ => rfl) (Nat.le_of_ble_eq_true rfl) (wMf_side _ _ _) dX6_minor_96 ?_
        refine xr_sub (pc := 99) κ [0, 4] (lv' := [(0, .ref 0), (4, .int v4)]) rfl ?_
        exact snd_X6_minor_99 κ K hQ _ _ _ h
    · have h := h.2 c1
      refine xr_iload_n (pc := 17) κ 1 (x := v1) dX6_minor_17 rfl rfl ?_
      refine xr_iload (pc := 18) κ 5 (x := v5) dX6_minor_18 rfl ?_
      refine xr_ishr (pc := 20) κ dX6_minor_20 ?_
      refine xr_iconst (pc := 21) κ (v := 1) dX6_minor_21 (by decide) ?_
      refine xr_iand (pc := 22) κ dX6_minor_22 ?_
      refine xr_if_ne (pc := 23) κ (tgt := 58) dX6_minor_23 (by decide) (fun c12 => ?_) (fun c12 => ?_)
      · have h := h.1 c12
        exact snd_X6_minor_58 κ K hQ _ ih _ _ _ _ _ _ _ h
      · have h := h.2 c12
        refine xr_aload_n (pc := 26) κ 0 (x := 0) dX6_minor_26 rfl rfl ?_
        refine xr_get (pc := 27) κ xc6 (k := 0) (f := 14) (v := .ref 9) kw_3_37 (by decide) rfl (by decide) rfl dX6_minor_27 ?_
        refine xr_aload_n (pc := 30) κ 0 (x := 0) dX6_minor_30 rfl rfl ?_
        refine xr_get (pc := 31) κ xc6 (k := 0) (f := 13) (v := .int (m_side t)) kw_3_36 (by decide) rfl (by decide) rfl dX6_minor_31 ?_
        refine xr_iload (pc := 34) κ 5 (x := v5) dX6_minor_34 rfl ?_
        obtain ⟨i13, h⟩ := h
        refine xr_iast (pc := 36) κ (k := 9) (n := 7) (f := m_rows t) (ω' := wM c (ms_rows t (upd (m_rows t) (((m_side t)).toNatClampNeg) v5))) (by decide) rfl rfl i13 (wMa_rows _ _ _) dX6_minor_36 ?_
        refine xr_aload_n (pc := 37) κ 0 (x := 0) dX6_minor_37 rfl rfl ?_
        refine xr_get (pc := 38) κ xc6 (k := 0) (f := 15) (v := .ref 10) kw_3_38 (by decide) rfl (by decide) rfl dX6_minor_38 ?_
        refine xr_aload_n (pc := 41) κ 0 (x := 0) dX6_minor_41 rfl rfl ?_
        refine xr_get (pc := 42) κ xc6 (k := 0) (f := 13) (v := .int (m_side t)) kw_3_36 (by decide) rfl (by decide) rfl dX6_minor_42 ?_
        refine xr_iload (pc := 45) κ 5 (x := v5) dX6_minor_45 rfl ?_
        obtain ⟨i14, h⟩ := h
        refine xr_iast (pc := 47) κ (k := 10) (n := 7) (f := m_columns t) (ω' := wM c (ms_columns (ms_rows t (upd (m_rows t) (((m_side t)).toNatClampNeg) v5)) (upd (m_columns t) (((m_side t)).toNatClampNeg) v5))) (by decide) rfl rfl i14 (wMa_columns _ _ _) dX6_minor_47 ?_
        refine xr_aload_n (pc := 48) κ 0 (x := 0) dX6_minor_48 rfl rfl ?_
        refine xr_dup (pc := 49) κ rfl dX6_minor_49 ?_
        refine xr_get (pc := 50) κ xc6 (k := 0) (f := 13) (v := .int (m_side t)) kw_3_36 (by decide) rfl (by decide) rfl dX6_minor_50 ?_
        refine xr_iconst (pc := 53) κ (v := 1) dX6_minor_53 (by decide) ?_
        refine xr_iadd (pc := 54) κ dX6_minor_54 ?_
        refine xr_put (pc := 55) κ xc6 (k := 0) (f := 13) (v := .int ((m_side t) + (1 : Int32))) (ω' := wM c (ms_side (ms_columns (ms_rows t (upd (m_rows t) (((m_side t)).toNatClampNeg) v5)) (upd (m_columns t) (((m_side t)).toNatClampNeg) v5)) ((m_side t) + (1 : Int32)))) kw_3_36 (by decide) rfl (by decide) rfl (fun _ => rfl) (fun _ => rfl) (Nat.le_of_ble_eq_true rfl) (wMf_side _ _ _) dX6_minor_55 ?_
        exact snd_X6_minor_58 κ K hQ _ ih _ _ _ _ _ _ _ h
def wp_X6_minor (wo : Int32) (a : Int32) (b : Int32) (but : Int32) (c : CS) (t : MT) (K : Int64 → CS → MT → Prop) : Prop :=
    ∃ n8 : Nat, nd_X6_minor_8 K n8 wo a b but (0 : Int32) c (ms_side t (0 : Int32))
set_option maxHeartbeats 4000000 in
set_option maxRecDepth 100000 in
theorem snd_X6_minor {l : Launch} (wo : Int32) (a : Int32) (b : Int32) (but : Int32) (c : CS) (t : MT) (K : Int64 → CS → MT → Prop) (h : wp_X6_minor wo a b but c t K) : XM l xTM yX6_minor cX6_minor 7 (some .long) 1 [.ref 0, .int wo, .int a, .int b, .int but] (wM c t) (fun v ω' => ∃ (r : Int64) (c' : CS) (t' : MT), v = some (.long r) ∧ ω' = wM c' t' ∧ K r c' t') := by
    refine XM.of (by decide) (Nat.le_of_ble_eq_true rfl) (fun κ hQ => ?_)
    show Wat κ 0 [(0, .ref 0), (1, .int wo), (2, .int a), (3, .int b), (4, .int but)] [] (wM c t)
    unfold wp_X6_minor at h
    refine xr_aload_n (pc := 0) κ 0 (x := 0) dX6_minor_0 rfl rfl ?_
    refine xr_iconst (pc := 1) κ (v := 0) dX6_minor_1 (by decide) ?_
    refine xr_put (pc := 2) κ xc6 (k := 0) (f := 13) (v := .int (0 : Int32)) (ω' := wM c (ms_side t (0 : Int32))) kw_3_36 (by decide) rfl (by decide) rfl (fun _ => rfl) (fun _ => rfl) (Nat.le_of_ble_eq_true rfl) (wMf_side _ _ _) dX6_minor_2 ?_
    refine xr_iconst (pc := 5) κ (v := 0) dX6_minor_5 (by decide) ?_
    refine xr_istore (pc := 6) κ [1, 2, 3, 4, 5, 0] (lv' := [(0, .ref 0), (1, .int wo), (2, .int a), (3, .int b), (4, .int but), (5, .int (0 : Int32))]) dX6_minor_6 (by decide) rfl ?_
    obtain ⟨n0, h⟩ := h
    exact snd_X6_minor_8 κ K hQ n0 _ _ _ _ _ _ _ h
-- ChipVoltsModel.cramer(IIII)J, level 1
def nd_X6_cramer_139 (K : Int64 → CS → MT → Prop) (L56 : Int32 → Int32 → Int32 → Int32 → CS → MT → Prop) (L68 : Int32 → Int32 → Int32 → Int32 → Int32 → CS → MT → Prop) (v2 : Int32) (v3 : Int32) (v4 : Int32) (v5 : Int32) (v6 : Int32) (s0 : Int64) (s1 : Int32) (c : CS) (t : MT) : Prop :=
    vp_in s1 49 ∧
    L68 v2 v3 v4 v5 (v6 + 1) c (ms_square t (vp_updL (m_square t) s1.toNatClampNeg s0))
set_option maxHeartbeats 4000000 in
set_option maxRecDepth 100000 in
theorem snd_X6_cramer_139 {l : Launch} (κ : XC l xTM cX6_cramer yX6_cramer.cls 7 (some .long) 1) (K : Int64 → CS → MT → Prop) (hQ : xRet κ (fun v ω' => ∃ (r : Int64) (c' : CS) (t' : MT), v = some (.long r) ∧ ω' = wM c' t' ∧ K r c' t')) (L56 : Int32 → Int32 → Int32 → Int32 → CS → MT → Prop) (L68 : Int32 → Int32 → Int32 → Int32 → Int32 → CS → MT → Prop) (hL56 : ∀ (v2 : Int32) (v3 : Int32) (v4 : Int32) (v5 : Int32) (c : CS) (t : MT), L56 v2 v3 v4 v5 c t → Wat κ 56 [(0, .ref 0), (2, .int v2), (3, .int v3), (4, .int v4), (5, .int v5)] [] (wM c t)) (hL68 : ∀ (v2 : Int32) (v3 : Int32) (v4 : Int32) (v5 : Int32) (v6 : Int32) (c : CS) (t : MT), L68 v2 v3 v4 v5 v6 c t → Wat κ 68 [(0, .ref 0), (2, .int v2), (3, .int v3), (4, .int v4), (5, .int v5), (6, .int v6)] [] (wM c t)) (v2 : Int32) (v3 : Int32) (v4 : Int32) (v5 : Int32) (v6 : Int32) (s0 : Int64) (s1 : Int32) (c : CS) (t : MT) (h : nd_X6_cramer_139 K L56 L68 v2 v3 v4 v5 v6 s0 s1 c t) : Wat κ 139 [(0, .ref 0), (2, .int v2), (3, .int v3), (4, .int v4), (5, .int v5), (6, .int v6)] [.long s0, .int s1, .ref 8] (wM c t) := by
    unfold nd_X6_cramer_139 at h
    obtain ⟨i10, h⟩ := h
    refine xr_last (pc := 139) κ (k := 8) (n := 49) (f := m_square t) (ω' := wM c (ms_square t (vp_updL (m_square t) s1.toNatClampNeg s0))) (by decide) rfl rfl i10 (wMa_square _ _ _) dX6_cramer_139 ?_
    refine xr_iinc (pc := 140) κ 5 [1, 2, 3, 4, 5, 0] (lv' := [(0, .ref 0), (2, .int v2), (3, .int v3), (4, .int v4), (5, .int v5), (6, .int (v6 + 1))]) (x := v6) (v := v6 + 1) dX6_cramer_140 rfl rfl (by decide) rfl ?_
    refine xr_goto (pc := 143) κ (tgt := 68) dX6_cramer_143 (by decide) ?_
    exact hL68 _ _ _ _ _ _ _ h
def nd_X6_cramer_68 (K : Int64 → CS → MT → Prop) (L56 : Int32 → Int32 → Int32 → Int32 → CS → MT → Prop) : Nat → Int32 → Int32 → Int32 → Int32 → Int32 → CS → MT → Prop
  | 0 => fun _ _ _ _ _ _ _ => False
  | n + 1 => fun v2 v3 v4 v5 v6 c t =>
    ((m_side t) ≤ v6 →
      L56 v2 v3 v4 (v5 + 1) c t) ∧
    (¬ (m_side t) ≤ v6 →
      vp_in v6 7 ∧
      (¬ (m_rows t v6.toNatClampNeg) = v2 →
        vp_in v5 7 ∧
        vp_in v6 7 ∧
        wp_X6_between (m_rows t v5.toNatClampNeg) (m_rows t v6.toNatClampNeg) v4 c t (fun r9 c9_ t9_ =>
          nd_X6_cramer_139 K L56 (fun v2 v3 v4 v5 v6 c t => nd_X6_cramer_68 K L56 n v2 v3 v4 v5 v6 c t) v2 v3 v4 v5 v6 r9 (((7 : Int32) * v5) + v6) c9_ t9_)) ∧
      ((m_rows t v6.toNatClampNeg) = v2 →
        vp_in v5 7 ∧
        (¬ (m_rows t v5.toNatClampNeg) = v3 →
          nd_X6_cramer_139 K L56 (fun v2 v3 v4 v5 v6 c t => nd_X6_cramer_68 K L56 n v2 v3 v4 v5 v6 c t) v2 v3 v4 v5 v6 (0 : Int64) (((7 : Int32) * v5) + v6) c t) ∧
        ((m_rows t v5.toNatClampNeg) = v3 →
          nd_X6_cramer_139 K L56 (fun v2 v3 v4 v5 v6 c t => nd_X6_cramer_68 K L56 n v2 v3 v4 v5 v6 c t) v2 v3 v4 v5 v6 (1 : Int64) (((7 : Int32) * v5) + v6) c t)))
set_option maxHeartbeats 4000000 in
set_option maxRecDepth 100000 in
theorem snd_X6_cramer_68 {l : Launch} (κ : XC l xTM cX6_cramer yX6_cramer.cls 7 (some .long) 1) (K : Int64 → CS → MT → Prop) (hQ : xRet κ (fun v ω' => ∃ (r : Int64) (c' : CS) (t' : MT), v = some (.long r) ∧ ω' = wM c' t' ∧ K r c' t')) (L56 : Int32 → Int32 → Int32 → Int32 → CS → MT → Prop) (hL56 : ∀ (v2 : Int32) (v3 : Int32) (v4 : Int32) (v5 : Int32) (c : CS) (t : MT), L56 v2 v3 v4 v5 c t → Wat κ 56 [(0, .ref 0), (2, .int v2), (3, .int v3), (4, .int v4), (5, .int v5)] [] (wM c t)) : ∀ (n : Nat) (v2 : Int32) (v3 : Int32) (v4 : Int32) (v5 : Int32) (v6 : Int32) (c : CS) (t : MT), nd_X6_cramer_68 K L56 n v2 v3 v4 v5 v6 c t → Wat κ 68 [(0, .ref 0), (2, .int v2), (3, .int v3), (4, .int v4), (5, .int v5), (6, .int v6)] [] (wM c t) := by
  intro n
  induction n with
  | zero => intro v2 v3 v4 v5 v6 c t h; exact h.elim
  | succ n ih =>
    intro v2 v3 v4 v5 v6 c t h
    unfold nd_X6_cramer_68 at h
    refine xr_iload (pc := 68) κ 5 (x := v6) dX6_cramer_68 rfl ?_
    refine xr_aload_n (pc := 70) κ 0 (x := 0) dX6_cramer_70 rfl rfl ?_
    refine xr_get (pc := 71) κ xc6 (k := 0) (f := 13) (v := .int (m_side t)) kw_3_36 (by decide) rfl (by decide) rfl dX6_cramer_71 ?_
    refine xr_icmp_ge (pc := 74) κ (tgt := 146) dX6_cramer_74 (by decide) (fun c4 => ?_) (fun c4 => ?_)
    · have h := h.1 c4
      refine xr_iinc (pc := 146) κ 4 [1, 2, 3, 4, 0, 5] (lv' := [(0, .ref 0), (2, .int v2), (3, .int v3), (4, .int v4), (5, .int (v5 + 1)), (6, .int v6)]) (x := v5) (v := v5 + 1) dX6_cramer_146 rfl rfl (by decide) rfl ?_
      refine xr_goto (pc := 149) κ (tgt := 56) dX6_cramer_149 (by decide) ?_
      refine xr_sub (pc := 56) κ [0, 1, 2, 3, 4] (lv' := [(0, .ref 0), (2, .int v2), (3, .int v3), (4, .int v4), (5, .int (v5 + 1))]) rfl ?_
      exact hL56 _ _ _ _ _ _ h
    · have h := h.2 c4
      refine xr_aload_n (pc := 77) κ 0 (x := 0) dX6_cramer_77 rfl rfl ?_
      refine xr_get (pc := 78) κ xc6 (k := 0) (f := 12) (v := .ref 8) kw_3_35 (by decide) rfl (by decide) rfl dX6_cramer_78 ?_
      refine xr_bipush (pc := 81) κ (v := 7) dX6_cramer_81 (by decide) ?_
      refine xr_iload (pc := 83) κ 4 (x := v5) dX6_cramer_83 rfl ?_
      refine xr_imul (pc := 85) κ dX6_cramer_85 ?_
      refine xr_iload (pc := 86) κ 5 (x := v6) dX6_cramer_86 rfl ?_
      refine xr_iadd (pc := 88) κ dX6_cramer_88 ?_
      refine xr_aload_n (pc := 89) κ 0 (x := 0) dX6_cramer_89 rfl rfl ?_
      refine xr_get (pc := 90) κ xc6 (k := 0) (f := 14) (v := .ref 9) kw_3_37 (by decide) rfl (by decide) rfl dX6_cramer_90 ?_
      refine xr_iload (pc := 93) κ 5 (x := v6) dX6_cramer_93 rfl ?_
      obtain ⟨i5, h⟩ := h
      refine xr_iald (pc := 95) κ (k := 9) (n := 7) (f := m_rows t) (by decide) rfl rfl i5 dX6_cramer_95 ?_
      refine xr_iload_n (pc := 96) κ 1 (x := v2) dX6_cramer_96 rfl rfl ?_
      refine xr_icmp_ne (pc := 97) κ (tgt := 119) dX6_cramer_97 (by decide) (fun c6 => ?_) (fun c6 => ?_)
      · have h := h.1 c6
        refine xr_aload_n (pc := 119) κ 0 (x := 0) dX6_cramer_119 rfl rfl ?_
        refine xr_aload_n (pc := 120) κ 0 (x := 0) dX6_cramer_120 rfl rfl ?_
        refine xr_get (pc := 121) κ xc6 (k := 0) (f := 14) (v := .ref 9) kw_3_37 (by decide) rfl (by decide) rfl dX6_cramer_121 ?_
        refine xr_iload (pc := 124) κ 4 (x := v5) dX6_cramer_124 rfl ?_
        obtain ⟨i7, h⟩ := h
        refine xr_iald (pc := 126) κ (k := 9) (n := 7) (f := m_rows t) (by decide) rfl rfl i7 dX6_cramer_126 ?_
        refine xr_aload_n (pc := 127) κ 0 (x := 0) dX6_cramer_127 rfl rfl ?_
        refine xr_get (pc := 128) κ xc6 (k := 0) (f := 14) (v := .ref 9) kw_3_37 (by decide) rfl (by decide) rfl dX6_cramer_128 ?_
        refine xr_iload (pc := 131) κ 5 (x := v6) dX6_cramer_131 rfl ?_
        obtain ⟨i8, h⟩ := h
        refine xr_iald (pc := 133) κ (k := 9) (n := 7) (f := m_rows t) (by decide) rfl rfl i8 dX6_cramer_133 ?_
        refine xr_iload (pc := 134) κ 3 (x := v4) dX6_cramer_134 rfl ?_
        refine xr_callV (pc := 136) κ [.int (m_rows t v5.toNatClampNeg), .int (m_rows t v6.toNatClampNeg), .int v4] kw_3_151 tg_X6_between (snd_X6_between _ _ _ _ _ _ h) rfl (by decide) (by decide) (by decide) rfl (ci := 6) rfl rfl (Nat.le_of_ble_eq_true rfl) dX6_cramer_136 (fun v9 ω9 hk9 => ?_)
        obtain ⟨r9, c9_, t9_, rfl, rfl, h⟩ := hk9
        skip
        show Wat κ 139 [(0, .ref 0), (2, .int v2), (3, .int v3), (4, .int v4), (5, .int v5), (6, .int v6)] [.long r9, .int (((7 : Int32) * v5) + v6), .ref 8] (wM c9_ t9_)
        exact snd_X6_cramer_139 κ K hQ _ _ hL56 ih _ _ _ _ _ _ _ _ _ h
      · have h := h.2 c6
        refine xr_aload_n (pc := 100) κ 0 (x := 0) dX6_cramer_100 rfl rfl ?_
        refine xr_get (pc := 101) κ xc6 (k := 0) (f := 14) (v := .ref 9) kw_3_37 (by decide) rfl (by decide) rfl dX6_cramer_101 ?_
        refine xr_iload (pc := 104) κ 4 (x := v5) dX6_cramer_104 rfl ?_
        obtain ⟨i11, h⟩ := h
        refine xr_iald (pc := 106) κ (k := 9) (n := 7) (f := m_rows t) (by decide) rfl rfl i11 dX6_cramer_106 ?_
        refine xr_iload_n (pc := 107) κ 2 (x := v3) dX6_cramer_107 rfl rfl ?_
        refine xr_icmp_ne (pc := 108) κ (tgt := 115) dX6_cramer_108 (by decide) (fun c12 => ?_) (fun c12 => ?_)
        · have h := h.1 c12
          refine xr_lconst (pc := 115) κ (v := 0) dX6_cramer_115 (by decide) ?_
          refine xr_goto (pc := 116) κ (tgt := 139) dX6_cramer_116 (by decide) ?_
          exact snd_X6_cramer_139 κ K hQ _ _ hL56 ih _ _ _ _ _ _ _ _ _ h
        · have h := h.2 c12
          refine xr_lconst (pc := 111) κ (v := 1) dX6_cramer_111 (by decide) ?_
          refine xr_goto (pc := 112) κ (tgt := 139) dX6_cramer_112 (by decide) ?_
          exact snd_X6_cramer_139 κ K hQ _ _ hL56 ih _ _ _ _ _ _ _ _ _ h
def nd_X6_cramer_56 (K : Int64 → CS → MT → Prop) : Nat → Int32 → Int32 → Int32 → Int32 → CS → MT → Prop
  | 0 => fun _ _ _ _ _ _ => False
  | n + 1 => fun v2 v3 v4 v5 c t =>
    ((m_side t) ≤ v5 →
      wp_X6_determinant c t (fun r3 c3_ t3_ =>
        K r3 c3_ t3_)) ∧
    (¬ (m_side t) ≤ v5 →
      ∃ n68 : Nat, nd_X6_cramer_68 K (fun v2 v3 v4 v5 c t => nd_X6_cramer_56 K n v2 v3 v4 v5 c t) n68 v2 v3 v4 v5 (0 : Int32) c t)
set_option maxHeartbeats 4000000 in
set_option maxRecDepth 100000 in
theorem snd_X6_cramer_56 {l : Launch} (κ : XC l xTM cX6_cramer yX6_cramer.cls 7 (some .long) 1) (K : Int64 → CS → MT → Prop) (hQ : xRet κ (fun v ω' => ∃ (r : Int64) (c' : CS) (t' : MT), v = some (.long r) ∧ ω' = wM c' t' ∧ K r c' t')) : ∀ (n : Nat) (v2 : Int32) (v3 : Int32) (v4 : Int32) (v5 : Int32) (c : CS) (t : MT), nd_X6_cramer_56 K n v2 v3 v4 v5 c t → Wat κ 56 [(0, .ref 0), (2, .int v2), (3, .int v3), (4, .int v4), (5, .int v5)] [] (wM c t) := by
  intro n
  induction n with
  | zero => intro v2 v3 v4 v5 c t h; exact h.elim
  | succ n ih =>
    intro v2 v3 v4 v5 c t h
    unfold nd_X6_cramer_56 at h
    refine xr_iload (pc := 56) κ 4 (x := v5) dX6_cramer_56 rfl ?_
    refine xr_aload_n (pc := 58) κ 0 (x := 0) dX6_cramer_58 rfl rfl ?_
    refine xr_get (pc := 59) κ xc6 (k := 0) (f := 13) (v := .int (m_side t)) kw_3_36 (by decide) rfl (by decide) rfl dX6_cramer_59 ?_
    refine xr_icmp_ge (pc := 62) κ (tgt := 152) dX6_cramer_62 (by decide) (fun c2 => ?_) (fun c2 => ?_)
    · have h := h.1 c2
      refine xr_aload_n (pc := 152) κ 0 (x := 0) dX6_cramer_152 rfl rfl ?_
      refine xr_callV (pc := 153) κ [] kw_3_155 tg_X6_determinant (snd_X6_determinant  _ _ _ h) rfl (by decide) (by decide) (by decide) rfl (ci := 6) rfl rfl (Nat.le_of_ble_eq_true rfl) dX6_cramer_153 (fun v9 ω9 hk9 => ?_)
      obtain ⟨r3, c3_, t3_, rfl, rfl, h⟩ := hk9
      skip
      show Wat κ 156 [(0, .ref 0), (2, .int v2), (3, .int v3), (4, .int v4), (5, .int v5)] [.long r3] (wM c3_ t3_)
      exact xr_lret (pc := 156) κ _ hQ dX6_cramer_156 ⟨_, _, _, rfl, rfl, h⟩
    · have h := h.2 c2
      refine xr_iconst (pc := 65) κ (v := 0) dX6_cramer_65 (by decide) ?_
      refine xr_istore (pc := 66) κ [1, 2, 3, 4, 5, 0] (lv' := [(0, .ref 0), (2, .int v2), (3, .int v3), (4, .int v4), (5, .int v5), (6, .int (0 : Int32))]) dX6_cramer_66 (by decide) rfl ?_
      obtain ⟨n0, h⟩ := h
      exact snd_X6_cramer_68 κ K hQ _ ih n0 _ _ _ _ _ _ _ h
def nd_X6_cramer_47 (K : Int64 → CS → MT → Prop) (L8 : Int32 → Int32 → Int32 → Int32 → Int32 → CS → MT → Prop) (v1 : Int32) (v2 : Int32) (v3 : Int32) (v4 : Int32) (v5 : Int32) (c : CS) (t : MT) : Prop :=
    L8 v1 v2 v3 v4 (v5 + 1) c t
set_option maxHeartbeats 4000000 in
set_option maxRecDepth 100000 in
theorem snd_X6_cramer_47 {l : Launch} (κ : XC l xTM cX6_cramer yX6_cramer.cls 7 (some .long) 1) (K : Int64 → CS → MT → Prop) (hQ : xRet κ (fun v ω' => ∃ (r : Int64) (c' : CS) (t' : MT), v = some (.long r) ∧ ω' = wM c' t' ∧ K r c' t')) (L8 : Int32 → Int32 → Int32 → Int32 → Int32 → CS → MT → Prop) (hL8 : ∀ (v1 : Int32) (v2 : Int32) (v3 : Int32) (v4 : Int32) (v5 : Int32) (c : CS) (t : MT), L8 v1 v2 v3 v4 v5 c t → Wat κ 8 [(0, .ref 0), (1, .int v1), (2, .int v2), (3, .int v3), (4, .int v4), (5, .int v5)] [] (wM c t)) (v1 : Int32) (v2 : Int32) (v3 : Int32) (v4 : Int32) (v5 : Int32) (c : CS) (t : MT) (h : nd_X6_cramer_47 K L8 v1 v2 v3 v4 v5 c t) : Wat κ 47 [(0, .ref 0), (1, .int v1), (2, .int v2), (3, .int v3), (4, .int v4), (5, .int v5)] [] (wM c t) := by
    unfold nd_X6_cramer_47 at h
    refine xr_iinc (pc := 47) κ 5 [1, 2, 3, 4, 5, 0] (lv' := [(0, .ref 0), (1, .int v1), (2, .int v2), (3, .int v3), (4, .int v4), (5, .int (v5 + 1))]) (x := v5) (v := v5 + 1) dX6_cramer_47 rfl rfl (by decide) rfl ?_
    refine xr_goto (pc := 50) κ (tgt := 8) dX6_cramer_50 (by decide) ?_
    exact hL8 _ _ _ _ _ _ _ h
def nd_X6_cramer_8 (K : Int64 → CS → MT → Prop) : Nat → Int32 → Int32 → Int32 → Int32 → Int32 → CS → MT → Prop
  | 0 => fun _ _ _ _ _ _ _ => False
  | n + 1 => fun v1 v2 v3 v4 v5 c t =>
    ((c_n c) ≤ v5 →
      ∃ n56 : Nat, nd_X6_cramer_56 K n56 v2 v3 v4 (0 : Int32) c t) ∧
    (¬ (c_n c) ≤ v5 →
      (¬ ((v1 >>> (v5 &&& 31)) &&& (1 : Int32)) = 0 →
        nd_X6_cramer_47 K (fun v1 v2 v3 v4 v5 c t => nd_X6_cramer_8 K n v1 v2 v3 v4 v5 c t) v1 v2 v3 v4 v5 c t) ∧
      (((v1 >>> (v5 &&& 31)) &&& (1 : Int32)) = 0 →
        vp_in (m_side t) 7 ∧
        nd_X6_cramer_47 K (fun v1 v2 v3 v4 v5 c t => nd_X6_cramer_8 K n v1 v2 v3 v4 v5 c t) v1 v2 v3 v4 v5 c (ms_side (ms_rows t (upd (m_rows t) (((m_side t)).toNatClampNeg) v5)) ((m_side t) + (1 : Int32)))))
set_option maxHeartbeats 4000000 in
set_option maxRecDepth 100000 in
theorem snd_X6_cramer_8 {l : Launch} (κ : XC l xTM cX6_cramer yX6_cramer.cls 7 (some .long) 1) (K : Int64 → CS → MT → Prop) (hQ : xRet κ (fun v ω' => ∃ (r : Int64) (c' : CS) (t' : MT), v = some (.long r) ∧ ω' = wM c' t' ∧ K r c' t')) : ∀ (n : Nat) (v1 : Int32) (v2 : Int32) (v3 : Int32) (v4 : Int32) (v5 : Int32) (c : CS) (t : MT), nd_X6_cramer_8 K n v1 v2 v3 v4 v5 c t → Wat κ 8 [(0, .ref 0), (1, .int v1), (2, .int v2), (3, .int v3), (4, .int v4), (5, .int v5)] [] (wM c t) := by
  intro n
  induction n with
  | zero => intro v1 v2 v3 v4 v5 c t h; exact h.elim
  | succ n ih =>
    intro v1 v2 v3 v4 v5 c t h
    unfold nd_X6_cramer_8 at h
    refine xr_iload (pc := 8) κ 5 (x := v5) dX6_cramer_8 rfl ?_
    refine xr_aload_n (pc := 10) κ 0 (x := 0) dX6_cramer_10 rfl rfl ?_
    refine xr_get (pc := 11) κ xc6 (k := 0) (f := 0) (v := .int (c_n c)) kw_3_23 (by decide) rfl (by decide) rfl dX6_cramer_11 ?_
    refine xr_icmp_ge (pc := 14) κ (tgt := 53) dX6_cramer_14 (by decide) (fun c1 => ?_) (fun c1 => ?_)
    · have h := h.1 c1
      refine xr_iconst (pc := 53) κ (v := 0) dX6_cramer_53 (by decide) ?_
      refine xr_istore (pc := 54) κ [1, 2, 3, 4, 5, 0] (lv' := [(0, .ref 0), (1, .int v1), (2, .int v2), (3, .int v3), (4, .int v4), (5, .int (0 : Int32))]) dX6_cramer_54 (by decide) rfl ?_
      refine xr_sub (pc := 56) κ [0, 2, 3, 4, 5] (lv' := [(0, .ref 0), (2, .int v2), (3, .int v3), (4, .int v4), (5, .int (0 : Int32))]) rfl ?_
      obtain ⟨n0, h⟩ := h
      exact snd_X6_cramer_56 κ K hQ n0 _ _ _ _ _ _ h
    · have h := h.2 c1
      refine xr_iload_n (pc := 17) κ 1 (x := v1) dX6_cramer_17 rfl rfl ?_
      refine xr_iload (pc := 18) κ 5 (x := v5) dX6_cramer_18 rfl ?_
      refine xr_ishr (pc := 20) κ dX6_cramer_20 ?_
      refine xr_iconst (pc := 21) κ (v := 1) dX6_cramer_21 (by decide) ?_
      refine xr_iand (pc := 22) κ dX6_cramer_22 ?_
      refine xr_if_ne (pc := 23) κ (tgt := 47) dX6_cramer_23 (by decide) (fun c13 => ?_) (fun c13 => ?_)
      · have h := h.1 c13
        exact snd_X6_cramer_47 κ K hQ _ ih _ _ _ _ _ _ _ h
      · have h := h.2 c13
        refine xr_aload_n (pc := 26) κ 0 (x := 0) dX6_cramer_26 rfl rfl ?_
        refine xr_get (pc := 27) κ xc6 (k := 0) (f := 14) (v := .ref 9) kw_3_37 (by decide) rfl (by decide) rfl dX6_cramer_27 ?_
        refine xr_aload_n (pc := 30) κ 0 (x := 0) dX6_cramer_30 rfl rfl ?_
        refine xr_get (pc := 31) κ xc6 (k := 0) (f := 13) (v := .int (m_side t)) kw_3_36 (by decide) rfl (by decide) rfl dX6_cramer_31 ?_
        refine xr_iload (pc := 34) κ 5 (x := v5) dX6_cramer_34 rfl ?_
        obtain ⟨i14, h⟩ := h
        refine xr_iast (pc := 36) κ (k := 9) (n := 7) (f := m_rows t) (ω' := wM c (ms_rows t (upd (m_rows t) (((m_side t)).toNatClampNeg) v5))) (by decide) rfl rfl i14 (wMa_rows _ _ _) dX6_cramer_36 ?_
        refine xr_aload_n (pc := 37) κ 0 (x := 0) dX6_cramer_37 rfl rfl ?_
        refine xr_dup (pc := 38) κ rfl dX6_cramer_38 ?_
        refine xr_get (pc := 39) κ xc6 (k := 0) (f := 13) (v := .int (m_side t)) kw_3_36 (by decide) rfl (by decide) rfl dX6_cramer_39 ?_
        refine xr_iconst (pc := 42) κ (v := 1) dX6_cramer_42 (by decide) ?_
        refine xr_iadd (pc := 43) κ dX6_cramer_43 ?_
        refine xr_put (pc := 44) κ xc6 (k := 0) (f := 13) (v := .int ((m_side t) + (1 : Int32))) (ω' := wM c (ms_side (ms_rows t (upd (m_rows t) (((m_side t)).toNatClampNeg) v5)) ((m_side t) + (1 : Int32)))) kw_3_36 (by decide) rfl (by decide) rfl (fun _ => rfl) (fun _ => rfl) (Nat.le_of_ble_eq_true rfl) (wMf_side _ _ _) dX6_cramer_44 ?_
        exact snd_X6_cramer_47 κ K hQ _ ih _ _ _ _ _ _ _ h
def wp_X6_cramer (pads : Int32) (a : Int32) (b : Int32) (but : Int32) (c : CS) (t : MT) (K : Int64 → CS → MT → Prop) : Prop :=
    ∃ n8 : Nat, nd_X6_cramer_8 K n8 pads a b but (0 : Int32) c (ms_side t (0 : Int32))
set_option maxHeartbeats 4000000 in
set_option maxRecDepth 100000 in
theorem snd_X6_cramer {l : Launch} (pads : Int32) (a : Int32) (b : Int32) (but : Int32) (c : CS) (t : MT) (K : Int64 → CS → MT → Prop) (h : wp_X6_cramer pads a b but c t K) : XM l xTM yX6_cramer cX6_cramer 7 (some .long) 1 [.ref 0, .int pads, .int a, .int b, .int but] (wM c t) (fun v ω' => ∃ (r : Int64) (c' : CS) (t' : MT), v = some (.long r) ∧ ω' = wM c' t' ∧ K r c' t') := by
    refine XM.of (by decide) (Nat.le_of_ble_eq_true rfl) (fun κ hQ => ?_)
    show Wat κ 0 [(0, .ref 0), (1, .int pads), (2, .int a), (3, .int b), (4, .int but)] [] (wM c t)
    unfold wp_X6_cramer at h
    refine xr_aload_n (pc := 0) κ 0 (x := 0) dX6_cramer_0 rfl rfl ?_
    refine xr_iconst (pc := 1) κ (v := 0) dX6_cramer_1 (by decide) ?_
    refine xr_put (pc := 2) κ xc6 (k := 0) (f := 13) (v := .int (0 : Int32)) (ω' := wM c (ms_side t (0 : Int32))) kw_3_36 (by decide) rfl (by decide) rfl (fun _ => rfl) (fun _ => rfl) (Nat.le_of_ble_eq_true rfl) (wMf_side _ _ _) dX6_cramer_2 ?_
    refine xr_iconst (pc := 5) κ (v := 0) dX6_cramer_5 (by decide) ?_
    refine xr_istore (pc := 6) κ [1, 2, 3, 4, 5, 0] (lv' := [(0, .ref 0), (1, .int pads), (2, .int a), (3, .int b), (4, .int but), (5, .int (0 : Int32))]) dX6_cramer_6 (by decide) rfl ?_
    obtain ⟨n0, h⟩ := h
    exact snd_X6_cramer_8 κ K hQ n0 _ _ _ _ _ _ _ h
-- ChipVoltsModel.findResist(II)V, level 2
def nd_X6_findResist_74 (K : CS → MT → Prop) (L14 : Int32 → Int32 → Int32 → CS → MT → Prop) (L25 : Int32 → Int32 → Int32 → Int32 → CS → MT → Prop) (v1 : Int32) (v2 : Int32) (v3 : Int32) (v4 : Int32) (s0 : Int64) (s1 : Int32) (c : CS) (t : MT) : Prop :=
    vp_in s1 49 ∧
    L25 v1 v2 v3 (v4 + 1) c (ms_resist t (vp_updL (m_resist t) s1.toNatClampNeg s0))
set_option maxHeartbeats 4000000 in
set_option maxRecDepth 100000 in
theorem snd_X6_findResist_74 {l : Launch} (κ : XC l xTM cX6_findResist yX6_findResist.cls 5 (none) 2) (K : CS → MT → Prop) (hQ : xRet κ (fun v ω' => ∃ (c' : CS) (t' : MT), v = none ∧ ω' = wM c' t' ∧ K c' t')) (L14 : Int32 → Int32 → Int32 → CS → MT → Prop) (L25 : Int32 → Int32 → Int32 → Int32 → CS → MT → Prop) (hL14 : ∀ (v1 : Int32) (v2 : Int32) (v3 : Int32) (c : CS) (t : MT), L14 v1 v2 v3 c t → Wat κ 14 [(0, .ref 0), (1, .int v1), (2, .int v2), (3, .int v3)] [] (wM c t)) (hL25 : ∀ (v1 : Int32) (v2 : Int32) (v3 : Int32) (v4 : Int32) (c : CS) (t : MT), L25 v1 v2 v3 v4 c t → Wat κ 25 [(0, .ref 0), (1, .int v1), (2, .int v2), (3, .int v3), (4, .int v4)] [] (wM c t)) (v1 : Int32) (v2 : Int32) (v3 : Int32) (v4 : Int32) (s0 : Int64) (s1 : Int32) (c : CS) (t : MT) (h : nd_X6_findResist_74 K L14 L25 v1 v2 v3 v4 s0 s1 c t) : Wat κ 74 [(0, .ref 0), (1, .int v1), (2, .int v2), (3, .int v3), (4, .int v4)] [.long s0, .int s1, .ref 11] (wM c t) := by
    unfold nd_X6_findResist_74 at h
    obtain ⟨i6, h⟩ := h
    refine xr_last (pc := 74) κ (k := 11) (n := 49) (f := m_resist t) (ω' := wM c (ms_resist t (vp_updL (m_resist t) s1.toNatClampNeg s0))) (by decide) rfl rfl i6 (wMa_resist _ _ _) dX6_findResist_74 ?_
    refine xr_iinc (pc := 75) κ 4 [1, 2, 3, 4, 0] (lv' := [(0, .ref 0), (1, .int v1), (2, .int v2), (3, .int v3), (4, .int (v4 + 1))]) (x := v4) (v := v4 + 1) dX6_findResist_75 rfl rfl (by decide) rfl ?_
    refine xr_goto (pc := 78) κ (tgt := 25) dX6_findResist_78 (by decide) ?_
    exact hL25 _ _ _ _ _ _ h
def nd_X6_findResist_25 (K : CS → MT → Prop) (L14 : Int32 → Int32 → Int32 → CS → MT → Prop) : Nat → Int32 → Int32 → Int32 → Int32 → CS → MT → Prop
  | 0 => fun _ _ _ _ _ _ => False
  | n + 1 => fun v1 v2 v3 v4 c t =>
    ((c_n c) ≤ v4 →
      L14 v1 v2 (v3 + 1) c t) ∧
    (¬ (c_n c) ≤ v4 →
      (¬ (((v1 >>> (v4 &&& 31)) &&& (1 : Int32)) ||| ((v1 >>> (v3 &&& 31)) &&& (1 : Int32))) = (1 : Int32) →
        wp_X6_cramer v1 v4 v3 v2 c t (fun r5 c5_ t5_ =>
          nd_X6_findResist_74 K L14 (fun v1 v2 v3 v4 c t => nd_X6_findResist_25 K L14 n v1 v2 v3 v4 c t) v1 v2 v3 v4 r5 (((7 : Int32) * v4) + v3) c5_ t5_)) ∧
      ((((v1 >>> (v4 &&& 31)) &&& (1 : Int32)) ||| ((v1 >>> (v3 &&& 31)) &&& (1 : Int32))) = (1 : Int32) →
        nd_X6_findResist_74 K L14 (fun v1 v2 v3 v4 c t => nd_X6_findResist_25 K L14 n v1 v2 v3 v4 c t) v1 v2 v3 v4 (0 : Int64) (((7 : Int32) * v4) + v3) c t))
set_option maxHeartbeats 4000000 in
set_option maxRecDepth 100000 in
theorem snd_X6_findResist_25 {l : Launch} (κ : XC l xTM cX6_findResist yX6_findResist.cls 5 (none) 2) (K : CS → MT → Prop) (hQ : xRet κ (fun v ω' => ∃ (c' : CS) (t' : MT), v = none ∧ ω' = wM c' t' ∧ K c' t')) (L14 : Int32 → Int32 → Int32 → CS → MT → Prop) (hL14 : ∀ (v1 : Int32) (v2 : Int32) (v3 : Int32) (c : CS) (t : MT), L14 v1 v2 v3 c t → Wat κ 14 [(0, .ref 0), (1, .int v1), (2, .int v2), (3, .int v3)] [] (wM c t)) : ∀ (n : Nat) (v1 : Int32) (v2 : Int32) (v3 : Int32) (v4 : Int32) (c : CS) (t : MT), nd_X6_findResist_25 K L14 n v1 v2 v3 v4 c t → Wat κ 25 [(0, .ref 0), (1, .int v1), (2, .int v2), (3, .int v3), (4, .int v4)] [] (wM c t) := by
  intro n
  induction n with
  | zero => intro v1 v2 v3 v4 c t h; exact h.elim
  | succ n ih =>
    intro v1 v2 v3 v4 c t h
    unfold nd_X6_findResist_25 at h
    refine xr_iload (pc := 25) κ 4 (x := v4) dX6_findResist_25 rfl ?_
    refine xr_aload_n (pc := 27) κ 0 (x := 0) dX6_findResist_27 rfl rfl ?_
    refine xr_get (pc := 28) κ xc6 (k := 0) (f := 0) (v := .int (c_n c)) kw_3_23 (by decide) rfl (by decide) rfl dX6_findResist_28 ?_
    refine xr_icmp_ge (pc := 31) κ (tgt := 81) dX6_findResist_31 (by decide) (fun c3 => ?_) (fun c3 => ?_)
    · have h := h.1 c3
      refine xr_iinc (pc := 81) κ 3 [1, 2, 3, 0, 4] (lv' := [(0, .ref 0), (1, .int v1), (2, .int v2), (3, .int (v3 + 1)), (4, .int v4)]) (x := v3) (v := v3 + 1) dX6_findResist_81 rfl rfl (by decide) rfl ?_
      refine xr_goto (pc := 84) κ (tgt := 14) dX6_findResist_84 (by decide) ?_
      refine xr_sub (pc := 14) κ [0, 1, 2, 3] (lv' := [(0, .ref 0), (1, .int v1), (2, .int v2), (3, .int (v3 + 1))]) rfl ?_
      exact hL14 _ _ _ _ _ h
    · have h := h.2 c3
      refine xr_aload_n (pc := 34) κ 0 (x := 0) dX6_findResist_34 rfl rfl ?_
      refine xr_get (pc := 35) κ xc6 (k := 0) (f := 16) (v := .ref 11) kw_3_39 (by decide) rfl (by decide) rfl dX6_findResist_35 ?_
      refine xr_bipush (pc := 38) κ (v := 7) dX6_findResist_38 (by decide) ?_
      refine xr_iload (pc := 40) κ 4 (x := v4) dX6_findResist_40 rfl ?_
      refine xr_imul (pc := 42) κ dX6_findResist_42 ?_
      refine xr_iload_n (pc := 43) κ 3 (x := v3) dX6_findResist_43 rfl rfl ?_
      refine xr_iadd (pc := 44) κ dX6_findResist_44 ?_
      refine xr_iload_n (pc := 45) κ 1 (x := v1) dX6_findResist_45 rfl rfl ?_
      refine xr_iload (pc := 46) κ 4 (x := v4) dX6_findResist_46 rfl ?_
      refine xr_ishr (pc := 48) κ dX6_findResist_48 ?_
      refine xr_iconst (pc := 49) κ (v := 1) dX6_findResist_49 (by decide) ?_
      refine xr_iand (pc := 50) κ dX6_findResist_50 ?_
      refine xr_iload_n (pc := 51) κ 1 (x := v1) dX6_findResist_51 rfl rfl ?_
      refine xr_iload_n (pc := 52) κ 3 (x := v3) dX6_findResist_52 rfl rfl ?_
      refine xr_ishr (pc := 53) κ dX6_findResist_53 ?_
      refine xr_iconst (pc := 54) κ (v := 1) dX6_findResist_54 (by decide) ?_
      refine xr_iand (pc := 55) κ dX6_findResist_55 ?_
      refine xr_ior (pc := 56) κ dX6_findResist_56 ?_
      refine xr_iconst (pc := 57) κ (v := 1) dX6_findResist_57 (by decide) ?_
      refine xr_icmp_ne (pc := 58) κ (tgt := 65) dX6_findResist_58 (by decide) (fun c4 => ?_) (fun c4 => ?_)
      · have h := h.1 c4
        refine xr_aload_n (pc := 65) κ 0 (x := 0) dX6_findResist_65 rfl rfl ?_
        refine xr_iload_n (pc := 66) κ 1 (x := v1) dX6_findResist_66 rfl rfl ?_
        refine xr_iload (pc := 67) κ 4 (x := v4) dX6_findResist_67 rfl ?_
        refine xr_iload_n (pc := 69) κ 3 (x := v3) dX6_findResist_69 rfl rfl ?_
        refine xr_iload_n (pc := 70) κ 2 (x := v2) dX6_findResist_70 rfl rfl ?_
        refine xr_callV (pc := 71) κ [.int v1, .int v4, .int v3, .int v2] kw_3_159 tg_X6_cramer (snd_X6_cramer _ _ _ _ _ _ _ h) rfl (by decide) (by decide) (by decide) rfl (ci := 6) rfl rfl (Nat.le_of_ble_eq_true rfl) dX6_findResist_71 (fun v9 ω9 hk9 => ?_)
        obtain ⟨r5, c5_, t5_, rfl, rfl, h⟩ := hk9
        skip
        show Wat κ 74 [(0, .ref 0), (1, .int v1), (2, .int v2), (3, .int v3), (4, .int v4)] [.long r5, .int (((7 : Int32) * v4) + v3), .ref 11] (wM c5_ t5_)
        exact snd_X6_findResist_74 κ K hQ _ _ hL14 ih _ _ _ _ _ _ _ _ h
      · have h := h.2 c4
        refine xr_lconst (pc := 61) κ (v := 0) dX6_findResist_61 (by decide) ?_
        refine xr_goto (pc := 62) κ (tgt := 74) dX6_findResist_62 (by decide) ?_
        exact snd_X6_findResist_74 κ K hQ _ _ hL14 ih _ _ _ _ _ _ _ _ h
def nd_X6_findResist_14 (K : CS → MT → Prop) : Nat → Int32 → Int32 → Int32 → CS → MT → Prop
  | 0 => fun _ _ _ _ _ => False
  | n + 1 => fun v1 v2 v3 c t =>
    ((c_n c) ≤ v3 →
      K c t) ∧
    (¬ (c_n c) ≤ v3 →
      ∃ n25 : Nat, nd_X6_findResist_25 K (fun v1 v2 v3 c t => nd_X6_findResist_14 K n v1 v2 v3 c t) n25 v1 v2 v3 (0 : Int32) c t)
set_option maxHeartbeats 4000000 in
set_option maxRecDepth 100000 in
theorem snd_X6_findResist_14 {l : Launch} (κ : XC l xTM cX6_findResist yX6_findResist.cls 5 (none) 2) (K : CS → MT → Prop) (hQ : xRet κ (fun v ω' => ∃ (c' : CS) (t' : MT), v = none ∧ ω' = wM c' t' ∧ K c' t')) : ∀ (n : Nat) (v1 : Int32) (v2 : Int32) (v3 : Int32) (c : CS) (t : MT), nd_X6_findResist_14 K n v1 v2 v3 c t → Wat κ 14 [(0, .ref 0), (1, .int v1), (2, .int v2), (3, .int v3)] [] (wM c t) := by
  intro n
  induction n with
  | zero => intro v1 v2 v3 c t h; exact h.elim
  | succ n ih =>
    intro v1 v2 v3 c t h
    unfold nd_X6_findResist_14 at h
    refine xr_iload_n (pc := 14) κ 3 (x := v3) dX6_findResist_14 rfl rfl ?_
    refine xr_aload_n (pc := 15) κ 0 (x := 0) dX6_findResist_15 rfl rfl ?_
    refine xr_get (pc := 16) κ xc6 (k := 0) (f := 0) (v := .int (c_n c)) kw_3_23 (by decide) rfl (by decide) rfl dX6_findResist_16 ?_
    refine xr_icmp_ge (pc := 19) κ (tgt := 87) dX6_findResist_19 (by decide) (fun c2 => ?_) (fun c2 => ?_)
    · have h := h.1 c2
      exact xr_vret (pc := 87) κ _ hQ dX6_findResist_87 ⟨_, _, rfl, rfl, h⟩
    · have h := h.2 c2
      refine xr_iconst (pc := 22) κ (v := 0) dX6_findResist_22 (by decide) ?_
      refine xr_istore (pc := 23) κ [1, 2, 3, 4, 0] (lv' := [(0, .ref 0), (1, .int v1), (2, .int v2), (3, .int v3), (4, .int (0 : Int32))]) dX6_findResist_23 (by decide) rfl ?_
      obtain ⟨n0, h⟩ := h
      exact snd_X6_findResist_25 κ K hQ _ ih n0 _ _ _ _ _ _ h
def wp_X6_findResist (pads : Int32) (but : Int32) (c : CS) (t : MT) (K : CS → MT → Prop) : Prop :=
    wp_X6_minor pads (-1 : Int32) (-1 : Int32) but c t (fun r1 c1_ t1_ =>
      ∃ n14 : Nat, nd_X6_findResist_14 K n14 pads but (0 : Int32) c1_ (ms_under t1_ r1))
set_option maxHeartbeats 4000000 in
set_option maxRecDepth 100000 in
theorem snd_X6_findResist {l : Launch} (pads : Int32) (but : Int32) (c : CS) (t : MT) (K : CS → MT → Prop) (h : wp_X6_findResist pads but c t K) : XM l xTM yX6_findResist cX6_findResist 5 (none) 2 [.ref 0, .int pads, .int but] (wM c t) (fun v ω' => ∃ (c' : CS) (t' : MT), v = none ∧ ω' = wM c' t' ∧ K c' t') := by
    refine XM.of (by decide) (Nat.le_of_ble_eq_true rfl) (fun κ hQ => ?_)
    show Wat κ 0 [(0, .ref 0), (1, .int pads), (2, .int but)] [] (wM c t)
    unfold wp_X6_findResist at h
    refine xr_aload_n (pc := 0) κ 0 (x := 0) dX6_findResist_0 rfl rfl ?_
    refine xr_aload_n (pc := 1) κ 0 (x := 0) dX6_findResist_1 rfl rfl ?_
    refine xr_iload_n (pc := 2) κ 1 (x := pads) dX6_findResist_2 rfl rfl ?_
    refine xr_iconst (pc := 3) κ (v := -1) dX6_findResist_3 (by decide) ?_
    refine xr_iconst (pc := 4) κ (v := -1) dX6_findResist_4 (by decide) ?_
    refine xr_iload_n (pc := 5) κ 2 (x := but) dX6_findResist_5 rfl rfl ?_
    refine xr_callV (pc := 6) κ [.int pads, .int (-1 : Int32), .int (-1 : Int32), .int but] kw_3_147 tg_X6_minor (snd_X6_minor _ _ _ _ _ _ _ h) rfl (by decide) (by decide) (by decide) rfl (ci := 6) rfl rfl (Nat.le_of_ble_eq_true rfl) dX6_findResist_6 (fun v9 ω9 hk9 => ?_)
    obtain ⟨r1, c1_, t1_, rfl, rfl, h⟩ := hk9
    skip
    show Wat κ 9 [(0, .ref 0), (1, .int pads), (2, .int but)] [.long r1, .ref 0] (wM c1_ t1_)
    refine xr_put (pc := 9) κ xc6 (k := 0) (f := 17) (v := .long r1) (ω' := wM c1_ (ms_under t1_ r1)) kw_3_40 (by decide) rfl (by decide) rfl (fun _ => rfl) (fun _ => rfl) (Nat.le_of_ble_eq_true rfl) (wMf_under _ _ _) dX6_findResist_9 ?_
    refine xr_iconst (pc := 12) κ (v := 0) dX6_findResist_12 (by decide) ?_
    refine xr_istore_n (pc := 13) κ [1, 2, 3, 0] (lv' := [(0, .ref 0), (1, .int pads), (2, .int but), (3, .int (0 : Int32))]) dX6_findResist_13 rfl (by decide) rfl ?_
    obtain ⟨n0, h⟩ := h
    exact snd_X6_findResist_14 κ K hQ n0 _ _ _ _ _ h
-- ChipVoltsModel.fallBy(I[I)J, level 0
def nd_X6_fallBy_5 (K : Int64 → CS → MT → Prop) : Nat → Int32 → Int64 → Int32 → CS → MT → Prop
  | 0 => fun _ _ _ _ _ => False
  | n + 1 => fun v1 v3 v5 c t =>
    ((c_n c) ≤ v5 →
      K v3 c t) ∧
    (¬ (c_n c) ≤ v5 →
      vp_in (((7 : Int32) * v1) + v5) 49 ∧
      vp_in v5 7 ∧
      nd_X6_fallBy_5 K n v1 (v3 + ((m_resist t (((((7 : Int32) * v1) + v5)).toNatClampNeg)) * (Int32.toInt64 (c_pulls c v5.toNatClampNeg)))) (v5 + 1) c t)
set_option maxHeartbeats 4000000 in
set_option maxRecDepth 100000 in
theorem snd_X6_fallBy_5 {l : Launch} (κ : XC l xTM cX6_fallBy yX6_fallBy.cls 6 (some .long) 0) (K : Int64 → CS → MT → Prop) (hQ : xRet κ (fun v ω' => ∃ (r : Int64) (c' : CS) (t' : MT), v = some (.long r) ∧ ω' = wM c' t' ∧ K r c' t')) : ∀ (n : Nat) (v1 : Int32) (v3 : Int64) (v5 : Int32) (c : CS) (t : MT), nd_X6_fallBy_5 K n v1 v3 v5 c t → Wat κ 5 [(0, .ref 0), (1, .int v1), (2, .ref 5), (3, .long v3), (5, .int v5)] [] (wM c t) := by
  intro n
  induction n with
  | zero => intro v1 v3 v5 c t h; exact h.elim
  | succ n ih =>
    intro v1 v3 v5 c t h
    unfold nd_X6_fallBy_5 at h
    refine xr_iload (pc := 5) κ 4 (x := v5) dX6_fallBy_5 rfl ?_
    refine xr_aload_n (pc := 7) κ 0 (x := 0) dX6_fallBy_7 rfl rfl ?_
    refine xr_get (pc := 8) κ xc6 (k := 0) (f := 0) (v := .int (c_n c)) kw_3_23 (by decide) rfl (by decide) rfl dX6_fallBy_8 ?_
    refine xr_icmp_ge (pc := 11) κ (tgt := 41) dX6_fallBy_11 (by decide) (fun c1 => ?_) (fun c1 => ?_)
    · have h := h.1 c1
      refine xr_lload_n (pc := 41) κ 3 (x := v3) dX6_fallBy_41 rfl rfl ?_
      exact xr_lret (pc := 42) κ _ hQ dX6_fallBy_42 ⟨_, _, _, rfl, rfl, h⟩
    · have h := h.2 c1
      refine xr_lload_n (pc := 14) κ 3 (x := v3) dX6_fallBy_14 rfl rfl ?_
      refine xr_aload_n (pc := 15) κ 0 (x := 0) dX6_fallBy_15 rfl rfl ?_
      refine xr_get (pc := 16) κ xc6 (k := 0) (f := 16) (v := .ref 11) kw_3_39 (by decide) rfl (by decide) rfl dX6_fallBy_16 ?_
      refine xr_bipush (pc := 19) κ (v := 7) dX6_fallBy_19 (by decide) ?_
      refine xr_iload_n (pc := 21) κ 1 (x := v1) dX6_fallBy_21 rfl rfl ?_
      refine xr_imul (pc := 22) κ dX6_fallBy_22 ?_
      refine xr_iload (pc := 23) κ 4 (x := v5) dX6_fallBy_23 rfl ?_
      refine xr_iadd (pc := 25) κ dX6_fallBy_25 ?_
      obtain ⟨i2, h⟩ := h
      refine xr_lald (pc := 26) κ (k := 11) (n := 49) (f := m_resist t) (by decide) rfl rfl i2 dX6_fallBy_26 ?_
      refine xr_aload_n (pc := 27) κ 2 (x := 5) dX6_fallBy_27 rfl rfl ?_
      refine xr_iload (pc := 28) κ 4 (x := v5) dX6_fallBy_28 rfl ?_
      obtain ⟨i3, h⟩ := h
      refine xr_iald (pc := 30) κ (k := 5) (n := 7) (f := c_pulls c) (by decide) rfl rfl i3 dX6_fallBy_30 ?_
      refine xr_i2l (pc := 31) κ dX6_fallBy_31 ?_
      refine xr_lmul (pc := 32) κ dX6_fallBy_32 ?_
      refine xr_ladd (pc := 33) κ dX6_fallBy_33 ?_
      refine xr_lstore_n (pc := 34) κ [1, 2, 3, 0, 4] (lv' := [(0, .ref 0), (1, .int v1), (2, .ref 5), (3, .long (v3 + ((m_resist t (((((7 : Int32) * v1) + v5)).toNatClampNeg)) * (Int32.toInt64 (c_pulls c v5.toNatClampNeg))))), (5, .int v5)]) dX6_fallBy_34 rfl (by decide) rfl ?_
      refine xr_iinc (pc := 35) κ 4 [1, 2, 3, 4, 0] (lv' := [(0, .ref 0), (1, .int v1), (2, .ref 5), (3, .long (v3 + ((m_resist t (((((7 : Int32) * v1) + v5)).toNatClampNeg)) * (Int32.toInt64 (c_pulls c v5.toNatClampNeg))))), (5, .int (v5 + 1))]) (x := v5) (v := v5 + 1) dX6_fallBy_35 rfl rfl (by decide) rfl ?_
      refine xr_goto (pc := 38) κ (tgt := 5) dX6_fallBy_38 (by decide) ?_
      exact ih _ _ _ _ _ h
def wp_X6_fallBy (k : Int32) (c : CS) (t : MT) (K : Int64 → CS → MT → Prop) : Prop :=
    ∃ n5 : Nat, nd_X6_fallBy_5 K n5 k (0 : Int64) (0 : Int32) c t
set_option maxHeartbeats 4000000 in
set_option maxRecDepth 100000 in
theorem snd_X6_fallBy {l : Launch} (k : Int32) (c : CS) (t : MT) (K : Int64 → CS → MT → Prop) (h : wp_X6_fallBy k c t K) : XM l xTM yX6_fallBy cX6_fallBy 6 (some .long) 0 [.ref 0, .int k, .ref 5] (wM c t) (fun v ω' => ∃ (r : Int64) (c' : CS) (t' : MT), v = some (.long r) ∧ ω' = wM c' t' ∧ K r c' t') := by
    refine XM.of (by decide) (Nat.le_of_ble_eq_true rfl) (fun κ hQ => ?_)
    show Wat κ 0 [(0, .ref 0), (1, .int k), (2, .ref 5)] [] (wM c t)
    unfold wp_X6_fallBy at h
    refine xr_lconst (pc := 0) κ (v := 0) dX6_fallBy_0 (by decide) ?_
    refine xr_lstore_n (pc := 1) κ [1, 2, 3, 0] (lv' := [(0, .ref 0), (1, .int k), (2, .ref 5), (3, .long (0 : Int64))]) dX6_fallBy_1 rfl (by decide) rfl ?_
    refine xr_iconst (pc := 2) κ (v := 0) dX6_fallBy_2 (by decide) ?_
    refine xr_istore (pc := 3) κ [1, 2, 3, 4, 0] (lv' := [(0, .ref 0), (1, .int k), (2, .ref 5), (3, .long (0 : Int64)), (5, .int (0 : Int32))]) dX6_fallBy_3 (by decide) rfl ?_
    obtain ⟨n0, h⟩ := h
    exact snd_X6_fallBy_5 κ K hQ n0 _ _ _ _ _ h
-- ChipVoltsModel.fallBy(I[I)J, level 0
def nd_X6_fallByN_5 (K : Int64 → CS → MT → Prop) : Nat → Int32 → Int64 → Int32 → CS → MT → Prop
  | 0 => fun _ _ _ _ _ => False
  | n + 1 => fun v1 v3 v5 c t =>
    ((c_n c) ≤ v5 →
      K v3 c t) ∧
    (¬ (c_n c) ≤ v5 →
      vp_in (((7 : Int32) * v1) + v5) 49 ∧
      vp_in v5 7 ∧
      nd_X6_fallByN_5 K n v1 (v3 + ((m_resist t (((((7 : Int32) * v1) + v5)).toNatClampNeg)) * (Int32.toInt64 (m_now t v5.toNatClampNeg)))) (v5 + 1) c t)
set_option maxHeartbeats 4000000 in
set_option maxRecDepth 100000 in
theorem snd_X6_fallByN_5 {l : Launch} (κ : XC l xTM cX6_fallBy yX6_fallBy.cls 6 (some .long) 0) (K : Int64 → CS → MT → Prop) (hQ : xRet κ (fun v ω' => ∃ (r : Int64) (c' : CS) (t' : MT), v = some (.long r) ∧ ω' = wM c' t' ∧ K r c' t')) : ∀ (n : Nat) (v1 : Int32) (v3 : Int64) (v5 : Int32) (c : CS) (t : MT), nd_X6_fallByN_5 K n v1 v3 v5 c t → Wat κ 5 [(0, .ref 0), (1, .int v1), (2, .ref 18), (3, .long v3), (5, .int v5)] [] (wM c t) := by
  intro n
  induction n with
  | zero => intro v1 v3 v5 c t h; exact h.elim
  | succ n ih =>
    intro v1 v3 v5 c t h
    unfold nd_X6_fallByN_5 at h
    refine xr_iload (pc := 5) κ 4 (x := v5) dX6_fallBy_5 rfl ?_
    refine xr_aload_n (pc := 7) κ 0 (x := 0) dX6_fallBy_7 rfl rfl ?_
    refine xr_get (pc := 8) κ xc6 (k := 0) (f := 0) (v := .int (c_n c)) kw_3_23 (by decide) rfl (by decide) rfl dX6_fallBy_8 ?_
    refine xr_icmp_ge (pc := 11) κ (tgt := 41) dX6_fallBy_11 (by decide) (fun c1 => ?_) (fun c1 => ?_)
    · have h := h.1 c1
      refine xr_lload_n (pc := 41) κ 3 (x := v3) dX6_fallBy_41 rfl rfl ?_
      exact xr_lret (pc := 42) κ _ hQ dX6_fallBy_42 ⟨_, _, _, rfl, rfl, h⟩
    · have h := h.2 c1
      refine xr_lload_n (pc := 14) κ 3 (x := v3) dX6_fallBy_14 rfl rfl ?_
      refine xr_aload_n (pc := 15) κ 0 (x := 0) dX6_fallBy_15 rfl rfl ?_
      refine xr_get (pc := 16) κ xc6 (k := 0) (f := 16) (v := .ref 11) kw_3_39 (by decide) rfl (by decide) rfl dX6_fallBy_16 ?_
      refine xr_bipush (pc := 19) κ (v := 7) dX6_fallBy_19 (by decide) ?_
      refine xr_iload_n (pc := 21) κ 1 (x := v1) dX6_fallBy_21 rfl rfl ?_
      refine xr_imul (pc := 22) κ dX6_fallBy_22 ?_
      refine xr_iload (pc := 23) κ 4 (x := v5) dX6_fallBy_23 rfl ?_
      refine xr_iadd (pc := 25) κ dX6_fallBy_25 ?_
      obtain ⟨i2, h⟩ := h
      refine xr_lald (pc := 26) κ (k := 11) (n := 49) (f := m_resist t) (by decide) rfl rfl i2 dX6_fallBy_26 ?_
      refine xr_aload_n (pc := 27) κ 2 (x := 18) dX6_fallBy_27 rfl rfl ?_
      refine xr_iload (pc := 28) κ 4 (x := v5) dX6_fallBy_28 rfl ?_
      obtain ⟨i3, h⟩ := h
      refine xr_iald (pc := 30) κ (k := 18) (n := 7) (f := m_now t) (by decide) rfl rfl i3 dX6_fallBy_30 ?_
      refine xr_i2l (pc := 31) κ dX6_fallBy_31 ?_
      refine xr_lmul (pc := 32) κ dX6_fallBy_32 ?_
      refine xr_ladd (pc := 33) κ dX6_fallBy_33 ?_
      refine xr_lstore_n (pc := 34) κ [1, 2, 3, 0, 4] (lv' := [(0, .ref 0), (1, .int v1), (2, .ref 18), (3, .long (v3 + ((m_resist t (((((7 : Int32) * v1) + v5)).toNatClampNeg)) * (Int32.toInt64 (m_now t v5.toNatClampNeg))))), (5, .int v5)]) dX6_fallBy_34 rfl (by decide) rfl ?_
      refine xr_iinc (pc := 35) κ 4 [1, 2, 3, 4, 0] (lv' := [(0, .ref 0), (1, .int v1), (2, .ref 18), (3, .long (v3 + ((m_resist t (((((7 : Int32) * v1) + v5)).toNatClampNeg)) * (Int32.toInt64 (m_now t v5.toNatClampNeg))))), (5, .int (v5 + 1))]) (x := v5) (v := v5 + 1) dX6_fallBy_35 rfl rfl (by decide) rfl ?_
      refine xr_goto (pc := 38) κ (tgt := 5) dX6_fallBy_38 (by decide) ?_
      exact ih _ _ _ _ _ h
def wp_X6_fallByN (k : Int32) (c : CS) (t : MT) (K : Int64 → CS → MT → Prop) : Prop :=
    ∃ n5 : Nat, nd_X6_fallByN_5 K n5 k (0 : Int64) (0 : Int32) c t
set_option maxHeartbeats 4000000 in
set_option maxRecDepth 100000 in
theorem snd_X6_fallByN {l : Launch} (k : Int32) (c : CS) (t : MT) (K : Int64 → CS → MT → Prop) (h : wp_X6_fallByN k c t K) : XM l xTM yX6_fallBy cX6_fallBy 6 (some .long) 0 [.ref 0, .int k, .ref 18] (wM c t) (fun v ω' => ∃ (r : Int64) (c' : CS) (t' : MT), v = some (.long r) ∧ ω' = wM c' t' ∧ K r c' t') := by
    refine XM.of (by decide) (Nat.le_of_ble_eq_true rfl) (fun κ hQ => ?_)
    show Wat κ 0 [(0, .ref 0), (1, .int k), (2, .ref 18)] [] (wM c t)
    unfold wp_X6_fallByN at h
    refine xr_lconst (pc := 0) κ (v := 0) dX6_fallBy_0 (by decide) ?_
    refine xr_lstore_n (pc := 1) κ [1, 2, 3, 0] (lv' := [(0, .ref 0), (1, .int k), (2, .ref 18), (3, .long (0 : Int64))]) dX6_fallBy_1 rfl (by decide) rfl ?_
    refine xr_iconst (pc := 2) κ (v := 0) dX6_fallBy_2 (by decide) ?_
    refine xr_istore (pc := 3) κ [1, 2, 3, 4, 0] (lv' := [(0, .ref 0), (1, .int k), (2, .ref 18), (3, .long (0 : Int64)), (5, .int (0 : Int32))]) dX6_fallBy_3 (by decide) rfl ?_
    obtain ⟨n0, h⟩ := h
    exact snd_X6_fallByN_5 κ K hQ n0 _ _ _ _ _ h
-- ChipVoltsModel.mostFall([I)J, level 1
def nd_X6_mostFall_36 (K : Int64 → CS → MT → Prop) (L5 : Int64 → Int32 → CS → MT → Prop) (v4 : Int32) (s0 : Int64) (c : CS) (t : MT) : Prop :=
    L5 s0 (v4 + 1) c t
set_option maxHeartbeats 4000000 in
set_option maxRecDepth 100000 in
theorem snd_X6_mostFall_36 {l : Launch} (κ : XC l xTM cX6_mostFall yX6_mostFall.cls 7 (some .long) 1) (K : Int64 → CS → MT → Prop) (hQ : xRet κ (fun v ω' => ∃ (r : Int64) (c' : CS) (t' : MT), v = some (.long r) ∧ ω' = wM c' t' ∧ K r c' t')) (L5 : Int64 → Int32 → CS → MT → Prop) (hL5 : ∀ (v2 : Int64) (v4 : Int32) (c : CS) (t : MT), L5 v2 v4 c t → Wat κ 5 [(0, .ref 0), (1, .ref 5), (2, .long v2), (4, .int v4)] [] (wM c t)) (v4 : Int32) (s0 : Int64) (c : CS) (t : MT) (h : nd_X6_mostFall_36 K L5 v4 s0 c t) : Wat κ 36 [(0, .ref 0), (1, .ref 5), (4, .int v4)] [.long s0] (wM c t) := by
    unfold nd_X6_mostFall_36 at h
    refine xr_lstore_n (pc := 36) κ [1, 2, 0, 3] (lv' := [(0, .ref 0), (1, .ref 5), (2, .long s0), (4, .int v4)]) dX6_mostFall_36 rfl (by decide) rfl ?_
    refine xr_iinc (pc := 37) κ 3 [1, 2, 3, 0] (lv' := [(0, .ref 0), (1, .ref 5), (2, .long s0), (4, .int (v4 + 1))]) (x := v4) (v := v4 + 1) dX6_mostFall_37 rfl rfl (by decide) rfl ?_
    refine xr_goto (pc := 40) κ (tgt := 5) dX6_mostFall_40 (by decide) ?_
    exact hL5 _ _ _ _ h
def nd_X6_mostFall_5 (K : Int64 → CS → MT → Prop) : Nat → Int64 → Int32 → CS → MT → Prop
  | 0 => fun _ _ _ _ => False
  | n + 1 => fun v2 v4 c t =>
    ((c_n c) ≤ v4 →
      K v2 c t) ∧
    (¬ (c_n c) ≤ v4 →
      wp_X6_fallBy v4 c t (fun r2 c2_ t2_ =>
        (r2 ≤ v2 →
          nd_X6_mostFall_36 K (fun v2 v4 c t => nd_X6_mostFall_5 K n v2 v4 c t) v4 v2 c2_ t2_) ∧
        (¬ r2 ≤ v2 →
          nd_X6_mostFall_36 K (fun v2 v4 c t => nd_X6_mostFall_5 K n v2 v4 c t) v4 r2 c2_ t2_)))
set_option maxHeartbeats 4000000 in
set_option maxRecDepth 100000 in
theorem snd_X6_mostFall_5 {l : Launch} (κ : XC l xTM cX6_mostFall yX6_mostFall.cls 7 (some .long) 1) (K : Int64 → CS → MT → Prop) (hQ : xRet κ (fun v ω' => ∃ (r : Int64) (c' : CS) (t' : MT), v = some (.long r) ∧ ω' = wM c' t' ∧ K r c' t')) : ∀ (n : Nat) (v2 : Int64) (v4 : Int32) (c : CS) (t : MT), nd_X6_mostFall_5 K n v2 v4 c t → Wat κ 5 [(0, .ref 0), (1, .ref 5), (2, .long v2), (4, .int v4)] [] (wM c t) := by
  intro n
  induction n with
  | zero => intro v2 v4 c t h; exact h.elim
  | succ n ih =>
    intro v2 v4 c t h
    unfold nd_X6_mostFall_5 at h
    refine xr_iload (pc := 5) κ 3 (x := v4) dX6_mostFall_5 rfl ?_
    refine xr_aload_n (pc := 7) κ 0 (x := 0) dX6_mostFall_7 rfl rfl ?_
    refine xr_get (pc := 8) κ xc6 (k := 0) (f := 0) (v := .int (c_n c)) kw_3_23 (by decide) rfl (by decide) rfl dX6_mostFall_8 ?_
    refine xr_icmp_ge (pc := 11) κ (tgt := 43) dX6_mostFall_11 (by decide) (fun c1 => ?_) (fun c1 => ?_)
    · have h := h.1 c1
      refine xr_lload_n (pc := 43) κ 2 (x := v2) dX6_mostFall_43 rfl rfl ?_
      exact xr_lret (pc := 44) κ _ hQ dX6_mostFall_44 ⟨_, _, _, rfl, rfl, h⟩
    · have h := h.2 c1
      refine xr_aload_n (pc := 14) κ 0 (x := 0) dX6_mostFall_14 rfl rfl ?_
      refine xr_iload (pc := 15) κ 3 (x := v4) dX6_mostFall_15 rfl ?_
      refine xr_aload_n (pc := 17) κ 1 (x := 5) dX6_mostFall_17 rfl rfl ?_
      refine xr_callV (pc := 18) κ [.int v4, .ref 5] kw_3_163 tg_X6_fallBy (snd_X6_fallBy _ _ _ _ h) rfl (by decide) (by decide) (by decide) rfl (ci := 6) rfl rfl (Nat.le_of_ble_eq_true rfl) dX6_mostFall_18 (fun v9 ω9 hk9 => ?_)
      obtain ⟨r2, c2_, t2_, rfl, rfl, h⟩ := hk9
      skip
      show Wat κ 21 [(0, .ref 0), (1, .ref 5), (2, .long v2), (4, .int v4)] [.long r2] (wM c2_ t2_)
      refine xr_lstore (pc := 21) κ [1, 2, 3, 4, 0] (lv' := [(0, .ref 0), (1, .ref 5), (2, .long v2), (4, .int v4), (5, .long r2)]) dX6_mostFall_21 (by decide) rfl ?_
      refine xr_lload (pc := 23) κ 4 (x := r2) dX6_mostFall_23 rfl ?_
      refine xr_lload_n (pc := 25) κ 2 (x := v2) dX6_mostFall_25 rfl rfl ?_
      refine xr_lcmp_le (pc := 26) κ (tgt := 35) dX6_mostFall_26 dX6_mostFall_27 (by decide) (fun c3 => ?_) (fun c3 => ?_)
      · have h := h.1 c3
        refine xr_lload_n (pc := 35) κ 2 (x := v2) dX6_mostFall_35 rfl rfl ?_
        refine xr_sub (pc := 36) κ [0, 1, 3] (lv' := [(0, .ref 0), (1, .ref 5), (4, .int v4)]) rfl ?_
        exact snd_X6_mostFall_36 κ K hQ _ ih _ _ _ _ h
      · have h := h.2 c3
        refine xr_lload (pc := 30) κ 4 (x := r2) dX6_mostFall_30 rfl ?_
        refine xr_goto (pc := 32) κ (tgt := 36) dX6_mostFall_32 (by decide) ?_
        refine xr_sub (pc := 36) κ [0, 1, 3] (lv' := [(0, .ref 0), (1, .ref 5), (4, .int v4)]) rfl ?_
        exact snd_X6_mostFall_36 κ K hQ _ ih _ _ _ _ h
def wp_X6_mostFall (c : CS) (t : MT) (K : Int64 → CS → MT → Prop) : Prop :=
    ∃ n5 : Nat, nd_X6_mostFall_5 K n5 (0 : Int64) (0 : Int32) c t
set_option maxHeartbeats 4000000 in
set_option maxRecDepth 100000 in
theorem snd_X6_mostFall {l : Launch} (c : CS) (t : MT) (K : Int64 → CS → MT → Prop) (h : wp_X6_mostFall  c t K) : XM l xTM yX6_mostFall cX6_mostFall 7 (some .long) 1 [.ref 0, .ref 5] (wM c t) (fun v ω' => ∃ (r : Int64) (c' : CS) (t' : MT), v = some (.long r) ∧ ω' = wM c' t' ∧ K r c' t') := by
    refine XM.of (by decide) (Nat.le_of_ble_eq_true rfl) (fun κ hQ => ?_)
    show Wat κ 0 [(0, .ref 0), (1, .ref 5)] [] (wM c t)
    unfold wp_X6_mostFall at h
    refine xr_lconst (pc := 0) κ (v := 0) dX6_mostFall_0 (by decide) ?_
    refine xr_lstore_n (pc := 1) κ [1, 2, 0] (lv' := [(0, .ref 0), (1, .ref 5), (2, .long (0 : Int64))]) dX6_mostFall_1 rfl (by decide) rfl ?_
    refine xr_iconst (pc := 2) κ (v := 0) dX6_mostFall_2 (by decide) ?_
    refine xr_istore (pc := 3) κ [1, 2, 3, 0] (lv' := [(0, .ref 0), (1, .ref 5), (2, .long (0 : Int64)), (4, .int (0 : Int32))]) dX6_mostFall_3 (by decide) rfl ?_
    obtain ⟨n0, h⟩ := h
    exact snd_X6_mostFall_5 κ K hQ n0 _ _ _ _ h
-- ChipVoltsModel.mostFall([I)J, level 1
def nd_X6_mostFallN_36 (K : Int64 → CS → MT → Prop) (L5 : Int64 → Int32 → CS → MT → Prop) (v4 : Int32) (s0 : Int64) (c : CS) (t : MT) : Prop :=
    L5 s0 (v4 + 1) c t
set_option maxHeartbeats 4000000 in
set_option maxRecDepth 100000 in
theorem snd_X6_mostFallN_36 {l : Launch} (κ : XC l xTM cX6_mostFall yX6_mostFall.cls 7 (some .long) 1) (K : Int64 → CS → MT → Prop) (hQ : xRet κ (fun v ω' => ∃ (r : Int64) (c' : CS) (t' : MT), v = some (.long r) ∧ ω' = wM c' t' ∧ K r c' t')) (L5 : Int64 → Int32 → CS → MT → Prop) (hL5 : ∀ (v2 : Int64) (v4 : Int32) (c : CS) (t : MT), L5 v2 v4 c t → Wat κ 5 [(0, .ref 0), (1, .ref 18), (2, .long v2), (4, .int v4)] [] (wM c t)) (v4 : Int32) (s0 : Int64) (c : CS) (t : MT) (h : nd_X6_mostFallN_36 K L5 v4 s0 c t) : Wat κ 36 [(0, .ref 0), (1, .ref 18), (4, .int v4)] [.long s0] (wM c t) := by
    unfold nd_X6_mostFallN_36 at h
    refine xr_lstore_n (pc := 36) κ [1, 2, 0, 3] (lv' := [(0, .ref 0), (1, .ref 18), (2, .long s0), (4, .int v4)]) dX6_mostFall_36 rfl (by decide) rfl ?_
    refine xr_iinc (pc := 37) κ 3 [1, 2, 3, 0] (lv' := [(0, .ref 0), (1, .ref 18), (2, .long s0), (4, .int (v4 + 1))]) (x := v4) (v := v4 + 1) dX6_mostFall_37 rfl rfl (by decide) rfl ?_
    refine xr_goto (pc := 40) κ (tgt := 5) dX6_mostFall_40 (by decide) ?_
    exact hL5 _ _ _ _ h
def nd_X6_mostFallN_5 (K : Int64 → CS → MT → Prop) : Nat → Int64 → Int32 → CS → MT → Prop
  | 0 => fun _ _ _ _ => False
  | n + 1 => fun v2 v4 c t =>
    ((c_n c) ≤ v4 →
      K v2 c t) ∧
    (¬ (c_n c) ≤ v4 →
      wp_X6_fallByN v4 c t (fun r2 c2_ t2_ =>
        (r2 ≤ v2 →
          nd_X6_mostFallN_36 K (fun v2 v4 c t => nd_X6_mostFallN_5 K n v2 v4 c t) v4 v2 c2_ t2_) ∧
        (¬ r2 ≤ v2 →
          nd_X6_mostFallN_36 K (fun v2 v4 c t => nd_X6_mostFallN_5 K n v2 v4 c t) v4 r2 c2_ t2_)))
set_option maxHeartbeats 4000000 in
set_option maxRecDepth 100000 in
theorem snd_X6_mostFallN_5 {l : Launch} (κ : XC l xTM cX6_mostFall yX6_mostFall.cls 7 (some .long) 1) (K : Int64 → CS → MT → Prop) (hQ : xRet κ (fun v ω' => ∃ (r : Int64) (c' : CS) (t' : MT), v = some (.long r) ∧ ω' = wM c' t' ∧ K r c' t')) : ∀ (n : Nat) (v2 : Int64) (v4 : Int32) (c : CS) (t : MT), nd_X6_mostFallN_5 K n v2 v4 c t → Wat κ 5 [(0, .ref 0), (1, .ref 18), (2, .long v2), (4, .int v4)] [] (wM c t) := by
  intro n
  induction n with
  | zero => intro v2 v4 c t h; exact h.elim
  | succ n ih =>
    intro v2 v4 c t h
    unfold nd_X6_mostFallN_5 at h
    refine xr_iload (pc := 5) κ 3 (x := v4) dX6_mostFall_5 rfl ?_
    refine xr_aload_n (pc := 7) κ 0 (x := 0) dX6_mostFall_7 rfl rfl ?_
    refine xr_get (pc := 8) κ xc6 (k := 0) (f := 0) (v := .int (c_n c)) kw_3_23 (by decide) rfl (by decide) rfl dX6_mostFall_8 ?_
    refine xr_icmp_ge (pc := 11) κ (tgt := 43) dX6_mostFall_11 (by decide) (fun c1 => ?_) (fun c1 => ?_)
    · have h := h.1 c1
      refine xr_lload_n (pc := 43) κ 2 (x := v2) dX6_mostFall_43 rfl rfl ?_
      exact xr_lret (pc := 44) κ _ hQ dX6_mostFall_44 ⟨_, _, _, rfl, rfl, h⟩
    · have h := h.2 c1
      refine xr_aload_n (pc := 14) κ 0 (x := 0) dX6_mostFall_14 rfl rfl ?_
      refine xr_iload (pc := 15) κ 3 (x := v4) dX6_mostFall_15 rfl ?_
      refine xr_aload_n (pc := 17) κ 1 (x := 18) dX6_mostFall_17 rfl rfl ?_
      refine xr_callV (pc := 18) κ [.int v4, .ref 18] kw_3_163 tg_X6_fallBy (snd_X6_fallByN _ _ _ _ h) rfl (by decide) (by decide) (by decide) rfl (ci := 6) rfl rfl (Nat.le_of_ble_eq_true rfl) dX6_mostFall_18 (fun v9 ω9 hk9 => ?_)
      obtain ⟨r2, c2_, t2_, rfl, rfl, h⟩ := hk9
      skip
      show Wat κ 21 [(0, .ref 0), (1, .ref 18), (2, .long v2), (4, .int v4)] [.long r2] (wM c2_ t2_)
      refine xr_lstore (pc := 21) κ [1, 2, 3, 4, 0] (lv' := [(0, .ref 0), (1, .ref 18), (2, .long v2), (4, .int v4), (5, .long r2)]) dX6_mostFall_21 (by decide) rfl ?_
      refine xr_lload (pc := 23) κ 4 (x := r2) dX6_mostFall_23 rfl ?_
      refine xr_lload_n (pc := 25) κ 2 (x := v2) dX6_mostFall_25 rfl rfl ?_
      refine xr_lcmp_le (pc := 26) κ (tgt := 35) dX6_mostFall_26 dX6_mostFall_27 (by decide) (fun c3 => ?_) (fun c3 => ?_)
      · have h := h.1 c3
        refine xr_lload_n (pc := 35) κ 2 (x := v2) dX6_mostFall_35 rfl rfl ?_
        refine xr_sub (pc := 36) κ [0, 1, 3] (lv' := [(0, .ref 0), (1, .ref 18), (4, .int v4)]) rfl ?_
        exact snd_X6_mostFallN_36 κ K hQ _ ih _ _ _ _ h
      · have h := h.2 c3
        refine xr_lload (pc := 30) κ 4 (x := r2) dX6_mostFall_30 rfl ?_
        refine xr_goto (pc := 32) κ (tgt := 36) dX6_mostFall_32 (by decide) ?_
        refine xr_sub (pc := 36) κ [0, 1, 3] (lv' := [(0, .ref 0), (1, .ref 18), (4, .int v4)]) rfl ?_
        exact snd_X6_mostFallN_36 κ K hQ _ ih _ _ _ _ h
def wp_X6_mostFallN (c : CS) (t : MT) (K : Int64 → CS → MT → Prop) : Prop :=
    ∃ n5 : Nat, nd_X6_mostFallN_5 K n5 (0 : Int64) (0 : Int32) c t
set_option maxHeartbeats 4000000 in
set_option maxRecDepth 100000 in
theorem snd_X6_mostFallN {l : Launch} (c : CS) (t : MT) (K : Int64 → CS → MT → Prop) (h : wp_X6_mostFallN  c t K) : XM l xTM yX6_mostFall cX6_mostFall 7 (some .long) 1 [.ref 0, .ref 18] (wM c t) (fun v ω' => ∃ (r : Int64) (c' : CS) (t' : MT), v = some (.long r) ∧ ω' = wM c' t' ∧ K r c' t') := by
    refine XM.of (by decide) (Nat.le_of_ble_eq_true rfl) (fun κ hQ => ?_)
    show Wat κ 0 [(0, .ref 0), (1, .ref 18)] [] (wM c t)
    unfold wp_X6_mostFallN at h
    refine xr_lconst (pc := 0) κ (v := 0) dX6_mostFall_0 (by decide) ?_
    refine xr_lstore_n (pc := 1) κ [1, 2, 0] (lv' := [(0, .ref 0), (1, .ref 18), (2, .long (0 : Int64))]) dX6_mostFall_1 rfl (by decide) rfl ?_
    refine xr_iconst (pc := 2) κ (v := 0) dX6_mostFall_2 (by decide) ?_
    refine xr_istore (pc := 3) κ [1, 2, 3, 0] (lv' := [(0, .ref 0), (1, .ref 18), (2, .long (0 : Int64)), (4, .int (0 : Int32))]) dX6_mostFall_3 (by decide) rfl ?_
    obtain ⟨n0, h⟩ := h
    exact snd_X6_mostFallN_5 κ K hQ n0 _ _ _ _ h
-- ChipVoltsModel.fall(II)J, level 3
def wp_X6_fall (k : Int32) (what : Int32) (c : CS) (t : MT) (K : Int64 → CS → MT → Prop) : Prop :=
    wp_X6_isKnot k c t (fun r1 c1_ t1_ =>
      (r1 = 0 →
        K (-2 : Int64) c1_ t1_) ∧
      (¬ r1 = 0 →
        wp_X6_in what (0 : Int32) (1 : Int32) (fun r3 =>
          (¬ r3 = 0 →
            wp_X6_isFed c1_ t1_ (fun r5 c5_ t5_ =>
              (¬ r5 = 0 →
                wp_X6_findResist (c_pads c5_) (-1 : Int32) c5_ t5_ (fun c7_ t7_ =>
                  wp_X6_fallBy k c7_ t7_ (fun r8 c8_ t8_ =>
                    wp_X6_lowest r8 (m_under t8_) what (fun r9 =>
                      K r9 c8_ t8_)))) ∧
              (r5 = 0 →
                K (-3 : Int64) c5_ t5_))) ∧
          (r3 = 0 →
            K (-2 : Int64) c1_ t1_))))
set_option maxHeartbeats 4000000 in
set_option maxRecDepth 100000 in
theorem snd_X6_fall {l : Launch} (k : Int32) (what : Int32) (c : CS) (t : MT) (K : Int64 → CS → MT → Prop) (h : wp_X6_fall k what c t K) : XM l xTM yX6_fall cX6_fall 3 (some .long) 3 [.ref 0, .int k, .int what] (wM c t) (fun v ω' => ∃ (r : Int64) (c' : CS) (t' : MT), v = some (.long r) ∧ ω' = wM c' t' ∧ K r c' t') := by
    refine XM.of (by decide) (Nat.le_of_ble_eq_true rfl) (fun κ hQ => ?_)
    show Wat κ 0 [(0, .ref 0), (1, .int k), (2, .int what)] [] (wM c t)
    unfold wp_X6_fall at h
    refine xr_aload_n (pc := 0) κ 0 (x := 0) dX6_fall_0 rfl rfl ?_
    refine xr_iload_n (pc := 1) κ 1 (x := k) dX6_fall_1 rfl rfl ?_
    refine xr_callV (pc := 2) κ [.int k] kw_3_113 tg_X6_isKnot (snd_X6_isKnot _ _ _ _ h) rfl (by decide) (by decide) (by decide) rfl (ci := 6) rfl rfl (Nat.le_of_ble_eq_true rfl) dX6_fall_2 (fun v9 ω9 hk9 => ?_)
    obtain ⟨r1, c1_, t1_, rfl, rfl, h⟩ := hk9
    skip
    show Wat κ 5 [(0, .ref 0), (1, .int k), (2, .int what)] [.int r1] (wM c1_ t1_)
    refine xr_if_eq (pc := 5) κ (tgt := 17) dX6_fall_5 (by decide) (fun c2 => ?_) (fun c2 => ?_)
    · have h := h.1 c2
      refine xr_ldc2 (pc := 17) κ (v := -2) kw_3_133 dX6_fall_17 ?_
      exact xr_lret (pc := 20) κ _ hQ dX6_fall_20 ⟨_, _, _, rfl, rfl, h⟩
    · have h := h.2 c2
      refine xr_iload_n (pc := 8) κ 2 (x := what) dX6_fall_8 rfl rfl ?_
      refine xr_iconst (pc := 9) κ (v := 0) dX6_fall_9 (by decide) ?_
      refine xr_iconst (pc := 10) κ (v := 1) dX6_fall_10 (by decide) ?_
      refine xr_callS (pc := 11) κ [.int what, .int (0 : Int32), .int (1 : Int32)] kw_3_106 tg_X6_in (snd_X6_in _ _ _ _ h) rfl (by decide) (by decide) (Nat.le_of_ble_eq_true rfl) dX6_fall_11 (fun v9 ω9 hk9 => ?_)
      obtain ⟨r3, rfl, e9, h⟩ := hk9
      rw [e9]
      show Wat κ 14 [(0, .ref 0), (1, .int k), (2, .int what)] [.int r3] (wM c1_ t1_)
      refine xr_if_ne (pc := 14) κ (tgt := 21) dX6_fall_14 (by decide) (fun c4 => ?_) (fun c4 => ?_)
      · have h := h.1 c4
        refine xr_aload_n (pc := 21) κ 0 (x := 0) dX6_fall_21 rfl rfl ?_
        refine xr_callV (pc := 22) κ [] kw_3_134 tg_X6_isFed (snd_X6_isFed  _ _ _ h) rfl (by decide) (by decide) (by decide) rfl (ci := 6) rfl rfl (Nat.le_of_ble_eq_true rfl) dX6_fall_22 (fun v9 ω9 hk9 => ?_)
        obtain ⟨r5, c5_, t5_, rfl, rfl, h⟩ := hk9
        skip
        show Wat κ 25 [(0, .ref 0), (1, .int k), (2, .int what)] [.int r5] (wM c5_ t5_)
        refine xr_if_ne (pc := 25) κ (tgt := 32) dX6_fall_25 (by decide) (fun c6 => ?_) (fun c6 => ?_)
        · have h := h.1 c6
          refine xr_aload_n (pc := 32) κ 0 (x := 0) dX6_fall_32 rfl rfl ?_
          refine xr_aload_n (pc := 33) κ 0 (x := 0) dX6_fall_33 rfl rfl ?_
          refine xr_get (pc := 34) κ xc6 (k := 0) (f := 6) (v := .int (c_pads c5_)) kw_3_29 (by decide) rfl (by decide) rfl dX6_fall_34 ?_
          refine xr_iconst (pc := 37) κ (v := -1) dX6_fall_37 (by decide) ?_
          refine xr_callV (pc := 38) κ [.int (c_pads c5_), .int (-1 : Int32)] kw_3_143 tg_X6_findResist (snd_X6_findResist _ _ _ _ _ h) rfl (by decide) (by decide) (by decide) rfl (ci := 6) rfl rfl (Nat.le_of_ble_eq_true rfl) dX6_fall_38 (fun v9 ω9 hk9 => ?_)
          obtain ⟨c7_, t7_, rfl, rfl, h⟩ := hk9
          skip
          show Wat κ 41 [(0, .ref 0), (1, .int k), (2, .int what)] [] (wM c7_ t7_)
          refine xr_aload_n (pc := 41) κ 0 (x := 0) dX6_fall_41 rfl rfl ?_
          refine xr_iload_n (pc := 42) κ 1 (x := k) dX6_fall_42 rfl rfl ?_
          refine xr_aload_n (pc := 43) κ 0 (x := 0) dX6_fall_43 rfl rfl ?_
          refine xr_get (pc := 44) κ xc6 (k := 0) (f := 7) (v := .ref 5) kw_3_30 (by decide) rfl (by decide) rfl dX6_fall_44 ?_
          refine xr_callV (pc := 47) κ [.int k, .ref 5] kw_3_163 tg_X6_fallBy (snd_X6_fallBy _ _ _ _ h) rfl (by decide) (by decide) (by decide) rfl (ci := 6) rfl rfl (Nat.le_of_ble_eq_true rfl) dX6_fall_47 (fun v9 ω9 hk9 => ?_)
          obtain ⟨r8, c8_, t8_, rfl, rfl, h⟩ := hk9
          skip
          show Wat κ 50 [(0, .ref 0), (1, .int k), (2, .int what)] [.long r8] (wM c8_ t8_)
          refine xr_aload_n (pc := 50) κ 0 (x := 0) dX6_fall_50 rfl rfl ?_
          refine xr_get (pc := 51) κ xc6 (k := 0) (f := 17) (v := .long (m_under t8_)) kw_3_40 (by decide) rfl (by decide) rfl dX6_fall_51 ?_
          refine xr_iload_n (pc := 54) κ 2 (x := what) dX6_fall_54 rfl rfl ?_
          refine xr_callS (pc := 55) κ [.long r8, .long (m_under t8_), .int what] kw_3_167 tg_X6_lowest (snd_X6_lowest _ _ _ _ h) rfl (by decide) (by decide) (Nat.le_of_ble_eq_true rfl) dX6_fall_55 (fun v9 ω9 hk9 => ?_)
          obtain ⟨r9, rfl, e9, h⟩ := hk9
          rw [e9]
          show Wat κ 58 [(0, .ref 0), (1, .int k), (2, .int what)] [.long r9] (wM c8_ t8_)
          exact xr_lret (pc := 58) κ _ hQ dX6_fall_58 ⟨_, _, _, rfl, rfl, h⟩
        · have h := h.2 c6
          refine xr_ldc2 (pc := 28) κ (v := -3) kw_3_142 dX6_fall_28 ?_
          exact xr_lret (pc := 31) κ _ hQ dX6_fall_31 ⟨_, _, _, rfl, rfl, h⟩
      · have h := h.2 c4
        refine xr_ldc2 (pc := 17) κ (v := -2) kw_3_133 dX6_fall_17 ?_
        exact xr_lret (pc := 20) κ _ hQ dX6_fall_20 ⟨_, _, _, rfl, rfl, h⟩
-- ChipVoltsModel.greatest()I, level 3
def nd_X6_greatest_58 (K : Int32 → CS → MT → Prop) (L23 : Int32 → Int32 → CS → MT → Prop) (v2 : Int32) (s0 : Int32) (c : CS) (t : MT) : Prop :=
    L23 s0 (v2 + 1) c t
set_option maxHeartbeats 4000000 in
set_option maxRecDepth 100000 in
theorem snd_X6_greatest_58 {l : Launch} (κ : XC l xTM cX6_greatest yX6_greatest.cls 3 (some .int) 3) (K : Int32 → CS → MT → Prop) (hQ : xRet κ (fun v ω' => ∃ (r : Int32) (c' : CS) (t' : MT), v = some (.int r) ∧ ω' = wM c' t' ∧ K r c' t')) (L23 : Int32 → Int32 → CS → MT → Prop) (hL23 : ∀ (v1 : Int32) (v2 : Int32) (c : CS) (t : MT), L23 v1 v2 c t → Wat κ 23 [(0, .ref 0), (1, .int v1), (2, .int v2)] [] (wM c t)) (v2 : Int32) (s0 : Int32) (c : CS) (t : MT) (h : nd_X6_greatest_58 K L23 v2 s0 c t) : Wat κ 58 [(0, .ref 0), (2, .int v2)] [.int s0] (wM c t) := by
    unfold nd_X6_greatest_58 at h
    refine xr_istore_n (pc := 58) κ [1, 0, 2] (lv' := [(0, .ref 0), (1, .int s0), (2, .int v2)]) dX6_greatest_58 rfl (by decide) rfl ?_
    refine xr_iinc (pc := 59) κ 2 [1, 2, 0] (lv' := [(0, .ref 0), (1, .int s0), (2, .int (v2 + 1))]) (x := v2) (v := v2 + 1) dX6_greatest_59 rfl rfl (by decide) rfl ?_
    refine xr_goto (pc := 62) κ (tgt := 23) dX6_greatest_62 (by decide) ?_
    exact hL23 _ _ _ _ h
def nd_X6_greatest_23 (K : Int32 → CS → MT → Prop) : Nat → Int32 → Int32 → CS → MT → Prop
  | 0 => fun _ _ _ _ => False
  | n + 1 => fun v1 v2 c t =>
    ((c_n c) ≤ v2 →
      K v1 c t) ∧
    (¬ (c_n c) ≤ v2 →
      wp_X6_fallBy v2 c t (fun r5 c5_ t5_ =>
        wp_X6_fallBy v1 c5_ t5_ (fun r6 c6_ t6_ =>
          (r5 ≤ r6 →
            nd_X6_greatest_58 K (fun v1 v2 c t => nd_X6_greatest_23 K n v1 v2 c t) v2 v1 c6_ t6_) ∧
          (¬ r5 ≤ r6 →
            nd_X6_greatest_58 K (fun v1 v2 c t => nd_X6_greatest_23 K n v1 v2 c t) v2 v2 c6_ t6_))))
set_option maxHeartbeats 4000000 in
set_option maxRecDepth 100000 in
theorem snd_X6_greatest_23 {l : Launch} (κ : XC l xTM cX6_greatest yX6_greatest.cls 3 (some .int) 3) (K : Int32 → CS → MT → Prop) (hQ : xRet κ (fun v ω' => ∃ (r : Int32) (c' : CS) (t' : MT), v = some (.int r) ∧ ω' = wM c' t' ∧ K r c' t')) : ∀ (n : Nat) (v1 : Int32) (v2 : Int32) (c : CS) (t : MT), nd_X6_greatest_23 K n v1 v2 c t → Wat κ 23 [(0, .ref 0), (1, .int v1), (2, .int v2)] [] (wM c t) := by
  intro n
  induction n with
  | zero => intro v1 v2 c t h; exact h.elim
  | succ n ih =>
    intro v1 v2 c t h
    unfold nd_X6_greatest_23 at h
    refine xr_iload_n (pc := 23) κ 2 (x := v2) dX6_greatest_23 rfl rfl ?_
    refine xr_aload_n (pc := 24) κ 0 (x := 0) dX6_greatest_24 rfl rfl ?_
    refine xr_get (pc := 25) κ xc6 (k := 0) (f := 0) (v := .int (c_n c)) kw_3_23 (by decide) rfl (by decide) rfl dX6_greatest_25 ?_
    refine xr_icmp_ge (pc := 28) κ (tgt := 65) dX6_greatest_28 (by decide) (fun c4 => ?_) (fun c4 => ?_)
    · have h := h.1 c4
      refine xr_iload_n (pc := 65) κ 1 (x := v1) dX6_greatest_65 rfl rfl ?_
      exact xr_iret (pc := 66) κ _ hQ dX6_greatest_66 ⟨_, _, _, rfl, rfl, h⟩
    · have h := h.2 c4
      refine xr_aload_n (pc := 31) κ 0 (x := 0) dX6_greatest_31 rfl rfl ?_
      refine xr_iload_n (pc := 32) κ 2 (x := v2) dX6_greatest_32 rfl rfl ?_
      refine xr_aload_n (pc := 33) κ 0 (x := 0) dX6_greatest_33 rfl rfl ?_
      refine xr_get (pc := 34) κ xc6 (k := 0) (f := 7) (v := .ref 5) kw_3_30 (by decide) rfl (by decide) rfl dX6_greatest_34 ?_
      refine xr_callV (pc := 37) κ [.int v2, .ref 5] kw_3_163 tg_X6_fallBy (snd_X6_fallBy _ _ _ _ h) rfl (by decide) (by decide) (by decide) rfl (ci := 6) rfl rfl (Nat.le_of_ble_eq_true rfl) dX6_greatest_37 (fun v9 ω9 hk9 => ?_)
      obtain ⟨r5, c5_, t5_, rfl, rfl, h⟩ := hk9
      skip
      show Wat κ 40 [(0, .ref 0), (1, .int v1), (2, .int v2)] [.long r5] (wM c5_ t5_)
      refine xr_aload_n (pc := 40) κ 0 (x := 0) dX6_greatest_40 rfl rfl ?_
      refine xr_iload_n (pc := 41) κ 1 (x := v1) dX6_greatest_41 rfl rfl ?_
      refine xr_aload_n (pc := 42) κ 0 (x := 0) dX6_greatest_42 rfl rfl ?_
      refine xr_get (pc := 43) κ xc6 (k := 0) (f := 7) (v := .ref 5) kw_3_30 (by decide) rfl (by decide) rfl dX6_greatest_43 ?_
      refine xr_callV (pc := 46) κ [.int v1, .ref 5] kw_3_163 tg_X6_fallBy (snd_X6_fallBy _ _ _ _ h) rfl (by decide) (by decide) (by decide) rfl (ci := 6) rfl rfl (Nat.le_of_ble_eq_true rfl) dX6_greatest_46 (fun v9 ω9 hk9 => ?_)
      obtain ⟨r6, c6_, t6_, rfl, rfl, h⟩ := hk9
      skip
      show Wat κ 49 [(0, .ref 0), (1, .int v1), (2, .int v2)] [.long r6, .long r5] (wM c6_ t6_)
      refine xr_lcmp_le (pc := 49) κ (tgt := 57) dX6_greatest_49 dX6_greatest_50 (by decide) (fun c7 => ?_) (fun c7 => ?_)
      · have h := h.1 c7
        refine xr_iload_n (pc := 57) κ 1 (x := v1) dX6_greatest_57 rfl rfl ?_
        refine xr_sub (pc := 58) κ [0, 2] (lv' := [(0, .ref 0), (2, .int v2)]) rfl ?_
        exact snd_X6_greatest_58 κ K hQ _ ih _ _ _ _ h
      · have h := h.2 c7
        refine xr_iload_n (pc := 53) κ 2 (x := v2) dX6_greatest_53 rfl rfl ?_
        refine xr_goto (pc := 54) κ (tgt := 58) dX6_greatest_54 (by decide) ?_
        refine xr_sub (pc := 58) κ [0, 2] (lv' := [(0, .ref 0), (2, .int v2)]) rfl ?_
        exact snd_X6_greatest_58 κ K hQ _ ih _ _ _ _ h
def wp_X6_greatest (c : CS) (t : MT) (K : Int32 → CS → MT → Prop) : Prop :=
    wp_X6_isFed c t (fun r1 c1_ t1_ =>
      (¬ r1 = 0 →
        wp_X6_findResist (c_pads c1_) (-1 : Int32) c1_ t1_ (fun c3_ t3_ =>
          ∃ n23 : Nat, nd_X6_greatest_23 K n23 (0 : Int32) (1 : Int32) c3_ t3_)) ∧
      (r1 = 0 →
        K (-3 : Int32) c1_ t1_))
set_option maxHeartbeats 4000000 in
set_option maxRecDepth 100000 in
theorem snd_X6_greatest {l : Launch} (c : CS) (t : MT) (K : Int32 → CS → MT → Prop) (h : wp_X6_greatest  c t K) : XM l xTM yX6_greatest cX6_greatest 3 (some .int) 3 [.ref 0] (wM c t) (fun v ω' => ∃ (r : Int32) (c' : CS) (t' : MT), v = some (.int r) ∧ ω' = wM c' t' ∧ K r c' t') := by
    refine XM.of (by decide) (Nat.le_of_ble_eq_true rfl) (fun κ hQ => ?_)
    show Wat κ 0 [(0, .ref 0)] [] (wM c t)
    unfold wp_X6_greatest at h
    refine xr_aload_n (pc := 0) κ 0 (x := 0) dX6_greatest_0 rfl rfl ?_
    refine xr_callV (pc := 1) κ [] kw_3_134 tg_X6_isFed (snd_X6_isFed  _ _ _ h) rfl (by decide) (by decide) (by decide) rfl (ci := 6) rfl rfl (Nat.le_of_ble_eq_true rfl) dX6_greatest_1 (fun v9 ω9 hk9 => ?_)
    obtain ⟨r1, c1_, t1_, rfl, rfl, h⟩ := hk9
    skip
    show Wat κ 4 [(0, .ref 0)] [.int r1] (wM c1_ t1_)
    refine xr_if_ne (pc := 4) κ (tgt := 10) dX6_greatest_4 (by decide) (fun c2 => ?_) (fun c2 => ?_)
    · have h := h.1 c2
      refine xr_aload_n (pc := 10) κ 0 (x := 0) dX6_greatest_10 rfl rfl ?_
      refine xr_aload_n (pc := 11) κ 0 (x := 0) dX6_greatest_11 rfl rfl ?_
      refine xr_get (pc := 12) κ xc6 (k := 0) (f := 6) (v := .int (c_pads c1_)) kw_3_29 (by decide) rfl (by decide) rfl dX6_greatest_12 ?_
      refine xr_iconst (pc := 15) κ (v := -1) dX6_greatest_15 (by decide) ?_
      refine xr_callV (pc := 16) κ [.int (c_pads c1_), .int (-1 : Int32)] kw_3_143 tg_X6_findResist (snd_X6_findResist _ _ _ _ _ h) rfl (by decide) (by decide) (by decide) rfl (ci := 6) rfl rfl (Nat.le_of_ble_eq_true rfl) dX6_greatest_16 (fun v9 ω9 hk9 => ?_)
      obtain ⟨c3_, t3_, rfl, rfl, h⟩ := hk9
      skip
      show Wat κ 19 [(0, .ref 0)] [] (wM c3_ t3_)
      refine xr_iconst (pc := 19) κ (v := 0) dX6_greatest_19 (by decide) ?_
      refine xr_istore_n (pc := 20) κ [1, 0] (lv' := [(0, .ref 0), (1, .int (0 : Int32))]) dX6_greatest_20 rfl (by decide) rfl ?_
      refine xr_iconst (pc := 21) κ (v := 1) dX6_greatest_21 (by decide) ?_
      refine xr_istore_n (pc := 22) κ [1, 2, 0] (lv' := [(0, .ref 0), (1, .int (0 : Int32)), (2, .int (1 : Int32))]) dX6_greatest_22 rfl (by decide) rfl ?_
      obtain ⟨n0, h⟩ := h
      exact snd_X6_greatest_23 κ K hQ n0 _ _ _ _ h
    · have h := h.2 c2
      refine xr_bipush (pc := 7) κ (v := -3) dX6_greatest_7 (by decide) ?_
      exact xr_iret (pc := 9) κ _ hQ dX6_greatest_9 ⟨_, _, _, rfl, rfl, h⟩
-- ChipVoltsModel.flow(II)J, level 3
def wp_X6_flow (w : Int32) (what : Int32) (c : CS) (t : MT) (K : Int64 → CS → MT → Prop) : Prop :=
    wp_X6_in w (0 : Int32) ((c_wires c) - (1 : Int32)) (fun r1 =>
      (r1 = 0 →
        K (-1000000000000 : Int64) c t) ∧
      (¬ r1 = 0 →
        wp_X6_in what (0 : Int32) (1 : Int32) (fun r3 =>
          (¬ r3 = 0 →
            wp_X6_isFed c t (fun r5 c5_ t5_ =>
              (¬ r5 = 0 →
                wp_X6_findResist (c_pads c5_) (-1 : Int32) c5_ t5_ (fun c7_ t7_ =>
                  vp_in w 12 ∧
                  vp_in w 12 ∧
                  wp_X6_fallBy (c_from c7_ w.toNatClampNeg) c7_ t7_ (fun r10 c10_ t10_ =>
                    vp_in w 12 ∧
                    wp_X6_fallBy (c_to c10_ w.toNatClampNeg) c10_ t10_ (fun r12 c12_ t12_ =>
                      wp_X6_lowest ((Int32.toInt64 (c_wide c7_ w.toNatClampNeg)) * (r10 - r12)) (m_under t12_) what (fun r13 =>
                        K r13 c12_ t12_))))) ∧
              (r5 = 0 →
                K (-2000000000000 : Int64) c5_ t5_))) ∧
          (r3 = 0 →
            K (-1000000000000 : Int64) c t))))
set_option maxHeartbeats 4000000 in
set_option maxRecDepth 100000 in
theorem snd_X6_flow {l : Launch} (w : Int32) (what : Int32) (c : CS) (t : MT) (K : Int64 → CS → MT → Prop) (h : wp_X6_flow w what c t K) : XM l xTM yX6_flow cX6_flow 3 (some .long) 3 [.ref 0, .int w, .int what] (wM c t) (fun v ω' => ∃ (r : Int64) (c' : CS) (t' : MT), v = some (.long r) ∧ ω' = wM c' t' ∧ K r c' t') := by
    refine XM.of (by decide) (Nat.le_of_ble_eq_true rfl) (fun κ hQ => ?_)
    show Wat κ 0 [(0, .ref 0), (1, .int w), (2, .int what)] [] (wM c t)
    unfold wp_X6_flow at h
    refine xr_iload_n (pc := 0) κ 1 (x := w) dX6_flow_0 rfl rfl ?_
    refine xr_iconst (pc := 1) κ (v := 0) dX6_flow_1 (by decide) ?_
    refine xr_aload_n (pc := 2) κ 0 (x := 0) dX6_flow_2 rfl rfl ?_
    refine xr_get (pc := 3) κ xc6 (k := 0) (f := 1) (v := .int (c_wires c)) kw_3_24 (by decide) rfl (by decide) rfl dX6_flow_3 ?_
    refine xr_iconst (pc := 6) κ (v := 1) dX6_flow_6 (by decide) ?_
    refine xr_isub (pc := 7) κ dX6_flow_7 ?_
    refine xr_callS (pc := 8) κ [.int w, .int (0 : Int32), .int ((c_wires c) - (1 : Int32))] kw_3_106 tg_X6_in (snd_X6_in _ _ _ _ h) rfl (by decide) (by decide) (Nat.le_of_ble_eq_true rfl) dX6_flow_8 (fun v9 ω9 hk9 => ?_)
    obtain ⟨r1, rfl, e9, h⟩ := hk9
    rw [e9]
    show Wat κ 11 [(0, .ref 0), (1, .int w), (2, .int what)] [.int r1] (wM c t)
    refine xr_if_eq (pc := 11) κ (tgt := 23) dX6_flow_11 (by decide) (fun c2 => ?_) (fun c2 => ?_)
    · have h := h.1 c2
      refine xr_ldc2 (pc := 23) κ (v := -1000000000000) kw_3_181 dX6_flow_23 ?_
      exact xr_lret (pc := 26) κ _ hQ dX6_flow_26 ⟨_, _, _, rfl, rfl, h⟩
    · have h := h.2 c2
      refine xr_iload_n (pc := 14) κ 2 (x := what) dX6_flow_14 rfl rfl ?_
      refine xr_iconst (pc := 15) κ (v := 0) dX6_flow_15 (by decide) ?_
      refine xr_iconst (pc := 16) κ (v := 1) dX6_flow_16 (by decide) ?_
      refine xr_callS (pc := 17) κ [.int what, .int (0 : Int32), .int (1 : Int32)] kw_3_106 tg_X6_in (snd_X6_in _ _ _ _ h) rfl (by decide) (by decide) (Nat.le_of_ble_eq_true rfl) dX6_flow_17 (fun v9 ω9 hk9 => ?_)
      obtain ⟨r3, rfl, e9, h⟩ := hk9
      rw [e9]
      show Wat κ 20 [(0, .ref 0), (1, .int w), (2, .int what)] [.int r3] (wM c t)
      refine xr_if_ne (pc := 20) κ (tgt := 27) dX6_flow_20 (by decide) (fun c4 => ?_) (fun c4 => ?_)
      · have h := h.1 c4
        refine xr_aload_n (pc := 27) κ 0 (x := 0) dX6_flow_27 rfl rfl ?_
        refine xr_callV (pc := 28) κ [] kw_3_134 tg_X6_isFed (snd_X6_isFed  _ _ _ h) rfl (by decide) (by decide) (by decide) rfl (ci := 6) rfl rfl (Nat.le_of_ble_eq_true rfl) dX6_flow_28 (fun v9 ω9 hk9 => ?_)
        obtain ⟨r5, c5_, t5_, rfl, rfl, h⟩ := hk9
        skip
        show Wat κ 31 [(0, .ref 0), (1, .int w), (2, .int what)] [.int r5] (wM c5_ t5_)
        refine xr_if_ne (pc := 31) κ (tgt := 38) dX6_flow_31 (by decide) (fun c6 => ?_) (fun c6 => ?_)
        · have h := h.1 c6
          refine xr_aload_n (pc := 38) κ 0 (x := 0) dX6_flow_38 rfl rfl ?_
          refine xr_aload_n (pc := 39) κ 0 (x := 0) dX6_flow_39 rfl rfl ?_
          refine xr_get (pc := 40) κ xc6 (k := 0) (f := 6) (v := .int (c_pads c5_)) kw_3_29 (by decide) rfl (by decide) rfl dX6_flow_40 ?_
          refine xr_iconst (pc := 43) κ (v := -1) dX6_flow_43 (by decide) ?_
          refine xr_callV (pc := 44) κ [.int (c_pads c5_), .int (-1 : Int32)] kw_3_143 tg_X6_findResist (snd_X6_findResist _ _ _ _ _ h) rfl (by decide) (by decide) (by decide) rfl (ci := 6) rfl rfl (Nat.le_of_ble_eq_true rfl) dX6_flow_44 (fun v9 ω9 hk9 => ?_)
          obtain ⟨c7_, t7_, rfl, rfl, h⟩ := hk9
          skip
          show Wat κ 47 [(0, .ref 0), (1, .int w), (2, .int what)] [] (wM c7_ t7_)
          refine xr_aload_n (pc := 47) κ 0 (x := 0) dX6_flow_47 rfl rfl ?_
          refine xr_get (pc := 48) κ xc6 (k := 0) (f := 4) (v := .ref 3) kw_3_27 (by decide) rfl (by decide) rfl dX6_flow_48 ?_
          refine xr_iload_n (pc := 51) κ 1 (x := w) dX6_flow_51 rfl rfl ?_
          obtain ⟨i8, h⟩ := h
          refine xr_iald (pc := 52) κ (k := 3) (n := 12) (f := c_wide c7_) (by decide) rfl rfl i8 dX6_flow_52 ?_
          refine xr_i2l (pc := 53) κ dX6_flow_53 ?_
          refine xr_aload_n (pc := 54) κ 0 (x := 0) dX6_flow_54 rfl rfl ?_
          refine xr_aload_n (pc := 55) κ 0 (x := 0) dX6_flow_55 rfl rfl ?_
          refine xr_get (pc := 56) κ xc6 (k := 0) (f := 2) (v := .ref 1) kw_3_25 (by decide) rfl (by decide) rfl dX6_flow_56 ?_
          refine xr_iload_n (pc := 59) κ 1 (x := w) dX6_flow_59 rfl rfl ?_
          obtain ⟨i9, h⟩ := h
          refine xr_iald (pc := 60) κ (k := 1) (n := 12) (f := c_from c7_) (by decide) rfl rfl i9 dX6_flow_60 ?_
          refine xr_aload_n (pc := 61) κ 0 (x := 0) dX6_flow_61 rfl rfl ?_
          refine xr_get (pc := 62) κ xc6 (k := 0) (f := 7) (v := .ref 5) kw_3_30 (by decide) rfl (by decide) rfl dX6_flow_62 ?_
          refine xr_callV (pc := 65) κ [.int (c_from c7_ w.toNatClampNeg), .ref 5] kw_3_163 tg_X6_fallBy (snd_X6_fallBy _ _ _ _ h) rfl (by decide) (by decide) (by decide) rfl (ci := 6) rfl rfl (Nat.le_of_ble_eq_true rfl) dX6_flow_65 (fun v9 ω9 hk9 => ?_)
          obtain ⟨r10, c10_, t10_, rfl, rfl, h⟩ := hk9
          skip
          show Wat κ 68 [(0, .ref 0), (1, .int w), (2, .int what)] [.long r10, .long (Int32.toInt64 (c_wide c7_ w.toNatClampNeg))] (wM c10_ t10_)
          refine xr_aload_n (pc := 68) κ 0 (x := 0) dX6_flow_68 rfl rfl ?_
          refine xr_aload_n (pc := 69) κ 0 (x := 0) dX6_flow_69 rfl rfl ?_
          refine xr_get (pc := 70) κ xc6 (k := 0) (f := 3) (v := .ref 2) kw_3_26 (by decide) rfl (by decide) rfl dX6_flow_70 ?_
          refine xr_iload_n (pc := 73) κ 1 (x := w) dX6_flow_73 rfl rfl ?_
          obtain ⟨i11, h⟩ := h
          refine xr_iald (pc := 74) κ (k := 2) (n := 12) (f := c_to c10_) (by decide) rfl rfl i11 dX6_flow_74 ?_
          refine xr_aload_n (pc := 75) κ 0 (x := 0) dX6_flow_75 rfl rfl ?_
          refine xr_get (pc := 76) κ xc6 (k := 0) (f := 7) (v := .ref 5) kw_3_30 (by decide) rfl (by decide) rfl dX6_flow_76 ?_
          refine xr_callV (pc := 79) κ [.int (c_to c10_ w.toNatClampNeg), .ref 5] kw_3_163 tg_X6_fallBy (snd_X6_fallBy _ _ _ _ h) rfl (by decide) (by decide) (by decide) rfl (ci := 6) rfl rfl (Nat.le_of_ble_eq_true rfl) dX6_flow_79 (fun v9 ω9 hk9 => ?_)
          obtain ⟨r12, c12_, t12_, rfl, rfl, h⟩ := hk9
          skip
          show Wat κ 82 [(0, .ref 0), (1, .int w), (2, .int what)] [.long r12, .long r10, .long (Int32.toInt64 (c_wide c7_ w.toNatClampNeg))] (wM c12_ t12_)
          refine xr_lsub (pc := 82) κ dX6_flow_82 ?_
          refine xr_lmul (pc := 83) κ dX6_flow_83 ?_
          refine xr_aload_n (pc := 84) κ 0 (x := 0) dX6_flow_84 rfl rfl ?_
          refine xr_get (pc := 85) κ xc6 (k := 0) (f := 17) (v := .long (m_under t12_)) kw_3_40 (by decide) rfl (by decide) rfl dX6_flow_85 ?_
          refine xr_iload_n (pc := 88) κ 2 (x := what) dX6_flow_88 rfl rfl ?_
          refine xr_callS (pc := 89) κ [.long ((Int32.toInt64 (c_wide c7_ w.toNatClampNeg)) * (r10 - r12)), .long (m_under t12_), .int what] kw_3_167 tg_X6_lowest (snd_X6_lowest _ _ _ _ h) rfl (by decide) (by decide) (Nat.le_of_ble_eq_true rfl) dX6_flow_89 (fun v9 ω9 hk9 => ?_)
          obtain ⟨r13, rfl, e9, h⟩ := hk9
          rw [e9]
          show Wat κ 92 [(0, .ref 0), (1, .int w), (2, .int what)] [.long r13] (wM c12_ t12_)
          exact xr_lret (pc := 92) κ _ hQ dX6_flow_92 ⟨_, _, _, rfl, rfl, h⟩
        · have h := h.2 c6
          refine xr_ldc2 (pc := 34) κ (v := -2000000000000) kw_3_182 dX6_flow_34 ?_
          exact xr_lret (pc := 37) κ _ hQ dX6_flow_37 ⟨_, _, _, rfl, rfl, h⟩
      · have h := h.2 c4
        refine xr_ldc2 (pc := 23) κ (v := -1000000000000) kw_3_181 dX6_flow_23 ?_
        exact xr_lret (pc := 26) κ _ hQ dX6_flow_26 ⟨_, _, _, rfl, rfl, h⟩
-- ChipVoltsModel.resist(III)J, level 3
def wp_X6_resist (a : Int32) (b : Int32) (what : Int32) (c : CS) (t : MT) (K : Int64 → CS → MT → Prop) : Prop :=
    wp_X6_isKnot a c t (fun r1 c1_ t1_ =>
      (r1 = 0 →
        K (-2 : Int64) c1_ t1_) ∧
      (¬ r1 = 0 →
        wp_X6_isKnot b c1_ t1_ (fun r3 c3_ t3_ =>
          (r3 = 0 →
            K (-2 : Int64) c3_ t3_) ∧
          (¬ r3 = 0 →
            wp_X6_in what (0 : Int32) (1 : Int32) (fun r5 =>
              (¬ r5 = 0 →
                wp_X6_isFed c3_ t3_ (fun r7 c7_ t7_ =>
                  (¬ r7 = 0 →
                    wp_X6_findResist (c_pads c7_) (-1 : Int32) c7_ t7_ (fun c9_ t9_ =>
                      vp_in (((7 : Int32) * a) + b) 49 ∧
                      wp_X6_lowest (m_resist t9_ (((((7 : Int32) * a) + b)).toNatClampNeg)) (m_under t9_) what (fun r11 =>
                        K r11 c9_ t9_))) ∧
                  (r7 = 0 →
                    K (-3 : Int64) c7_ t7_))) ∧
              (r5 = 0 →
                K (-2 : Int64) c3_ t3_))))))
set_option maxHeartbeats 4000000 in
set_option maxRecDepth 100000 in
theorem snd_X6_resist {l : Launch} (a : Int32) (b : Int32) (what : Int32) (c : CS) (t : MT) (K : Int64 → CS → MT → Prop) (h : wp_X6_resist a b what c t K) : XM l xTM yX6_resist cX6_resist 4 (some .long) 3 [.ref 0, .int a, .int b, .int what] (wM c t) (fun v ω' => ∃ (r : Int64) (c' : CS) (t' : MT), v = some (.long r) ∧ ω' = wM c' t' ∧ K r c' t') := by
    refine XM.of (by decide) (Nat.le_of_ble_eq_true rfl) (fun κ hQ => ?_)
    show Wat κ 0 [(0, .ref 0), (1, .int a), (2, .int b), (3, .int what)] [] (wM c t)
    unfold wp_X6_resist at h
    refine xr_aload_n (pc := 0) κ 0 (x := 0) dX6_resist_0 rfl rfl ?_
    refine xr_iload_n (pc := 1) κ 1 (x := a) dX6_resist_1 rfl rfl ?_
    refine xr_callV (pc := 2) κ [.int a] kw_3_113 tg_X6_isKnot (snd_X6_isKnot _ _ _ _ h) rfl (by decide) (by decide) (by decide) rfl (ci := 6) rfl rfl (Nat.le_of_ble_eq_true rfl) dX6_resist_2 (fun v9 ω9 hk9 => ?_)
    obtain ⟨r1, c1_, t1_, rfl, rfl, h⟩ := hk9
    skip
    show Wat κ 5 [(0, .ref 0), (1, .int a), (2, .int b), (3, .int what)] [.int r1] (wM c1_ t1_)
    refine xr_if_eq (pc := 5) κ (tgt := 25) dX6_resist_5 (by decide) (fun c2 => ?_) (fun c2 => ?_)
    · have h := h.1 c2
      refine xr_ldc2 (pc := 25) κ (v := -2) kw_3_133 dX6_resist_25 ?_
      exact xr_lret (pc := 28) κ _ hQ dX6_resist_28 ⟨_, _, _, rfl, rfl, h⟩
    · have h := h.2 c2
      refine xr_aload_n (pc := 8) κ 0 (x := 0) dX6_resist_8 rfl rfl ?_
      refine xr_iload_n (pc := 9) κ 2 (x := b) dX6_resist_9 rfl rfl ?_
      refine xr_callV (pc := 10) κ [.int b] kw_3_113 tg_X6_isKnot (snd_X6_isKnot _ _ _ _ h) rfl (by decide) (by decide) (by decide) rfl (ci := 6) rfl rfl (Nat.le_of_ble_eq_true rfl) dX6_resist_10 (fun v9 ω9 hk9 => ?_)
      obtain ⟨r3, c3_, t3_, rfl, rfl, h⟩ := hk9
      skip
      show Wat κ 13 [(0, .ref 0), (1, .int a), (2, .int b), (3, .int what)] [.int r3] (wM c3_ t3_)
      refine xr_if_eq (pc := 13) κ (tgt := 25) dX6_resist_13 (by decide) (fun c4 => ?_) (fun c4 => ?_)
      · have h := h.1 c4
        refine xr_ldc2 (pc := 25) κ (v := -2) kw_3_133 dX6_resist_25 ?_
        exact xr_lret (pc := 28) κ _ hQ dX6_resist_28 ⟨_, _, _, rfl, rfl, h⟩
      · have h := h.2 c4
        refine xr_iload_n (pc := 16) κ 3 (x := what) dX6_resist_16 rfl rfl ?_
        refine xr_iconst (pc := 17) κ (v := 0) dX6_resist_17 (by decide) ?_
        refine xr_iconst (pc := 18) κ (v := 1) dX6_resist_18 (by decide) ?_
        refine xr_callS (pc := 19) κ [.int what, .int (0 : Int32), .int (1 : Int32)] kw_3_106 tg_X6_in (snd_X6_in _ _ _ _ h) rfl (by decide) (by decide) (Nat.le_of_ble_eq_true rfl) dX6_resist_19 (fun v9 ω9 hk9 => ?_)
        obtain ⟨r5, rfl, e9, h⟩ := hk9
        rw [e9]
        show Wat κ 22 [(0, .ref 0), (1, .int a), (2, .int b), (3, .int what)] [.int r5] (wM c3_ t3_)
        refine xr_if_ne (pc := 22) κ (tgt := 29) dX6_resist_22 (by decide) (fun c6 => ?_) (fun c6 => ?_)
        · have h := h.1 c6
          refine xr_aload_n (pc := 29) κ 0 (x := 0) dX6_resist_29 rfl rfl ?_
          refine xr_callV (pc := 30) κ [] kw_3_134 tg_X6_isFed (snd_X6_isFed  _ _ _ h) rfl (by decide) (by decide) (by decide) rfl (ci := 6) rfl rfl (Nat.le_of_ble_eq_true rfl) dX6_resist_30 (fun v9 ω9 hk9 => ?_)
          obtain ⟨r7, c7_, t7_, rfl, rfl, h⟩ := hk9
          skip
          show Wat κ 33 [(0, .ref 0), (1, .int a), (2, .int b), (3, .int what)] [.int r7] (wM c7_ t7_)
          refine xr_if_ne (pc := 33) κ (tgt := 40) dX6_resist_33 (by decide) (fun c8 => ?_) (fun c8 => ?_)
          · have h := h.1 c8
            refine xr_aload_n (pc := 40) κ 0 (x := 0) dX6_resist_40 rfl rfl ?_
            refine xr_aload_n (pc := 41) κ 0 (x := 0) dX6_resist_41 rfl rfl ?_
            refine xr_get (pc := 42) κ xc6 (k := 0) (f := 6) (v := .int (c_pads c7_)) kw_3_29 (by decide) rfl (by decide) rfl dX6_resist_42 ?_
            refine xr_iconst (pc := 45) κ (v := -1) dX6_resist_45 (by decide) ?_
            refine xr_callV (pc := 46) κ [.int (c_pads c7_), .int (-1 : Int32)] kw_3_143 tg_X6_findResist (snd_X6_findResist _ _ _ _ _ h) rfl (by decide) (by decide) (by decide) rfl (ci := 6) rfl rfl (Nat.le_of_ble_eq_true rfl) dX6_resist_46 (fun v9 ω9 hk9 => ?_)
            obtain ⟨c9_, t9_, rfl, rfl, h⟩ := hk9
            skip
            show Wat κ 49 [(0, .ref 0), (1, .int a), (2, .int b), (3, .int what)] [] (wM c9_ t9_)
            refine xr_aload_n (pc := 49) κ 0 (x := 0) dX6_resist_49 rfl rfl ?_
            refine xr_get (pc := 50) κ xc6 (k := 0) (f := 16) (v := .ref 11) kw_3_39 (by decide) rfl (by decide) rfl dX6_resist_50 ?_
            refine xr_bipush (pc := 53) κ (v := 7) dX6_resist_53 (by decide) ?_
            refine xr_iload_n (pc := 55) κ 1 (x := a) dX6_resist_55 rfl rfl ?_
            refine xr_imul (pc := 56) κ dX6_resist_56 ?_
            refine xr_iload_n (pc := 57) κ 2 (x := b) dX6_resist_57 rfl rfl ?_
            refine xr_iadd (pc := 58) κ dX6_resist_58 ?_
            obtain ⟨i10, h⟩ := h
            refine xr_lald (pc := 59) κ (k := 11) (n := 49) (f := m_resist t9_) (by decide) rfl rfl i10 dX6_resist_59 ?_
            refine xr_aload_n (pc := 60) κ 0 (x := 0) dX6_resist_60 rfl rfl ?_
            refine xr_get (pc := 61) κ xc6 (k := 0) (f := 17) (v := .long (m_under t9_)) kw_3_40 (by decide) rfl (by decide) rfl dX6_resist_61 ?_
            refine xr_iload_n (pc := 64) κ 3 (x := what) dX6_resist_64 rfl rfl ?_
            refine xr_callS (pc := 65) κ [.long (m_resist t9_ (((((7 : Int32) * a) + b)).toNatClampNeg)), .long (m_under t9_), .int what] kw_3_167 tg_X6_lowest (snd_X6_lowest _ _ _ _ h) rfl (by decide) (by decide) (Nat.le_of_ble_eq_true rfl) dX6_resist_65 (fun v9 ω9 hk9 => ?_)
            obtain ⟨r11, rfl, e9, h⟩ := hk9
            rw [e9]
            show Wat κ 68 [(0, .ref 0), (1, .int a), (2, .int b), (3, .int what)] [.long r11] (wM c9_ t9_)
            exact xr_lret (pc := 68) κ _ hQ dX6_resist_68 ⟨_, _, _, rfl, rfl, h⟩
          · have h := h.2 c8
            refine xr_ldc2 (pc := 36) κ (v := -3) kw_3_142 dX6_resist_36 ?_
            exact xr_lret (pc := 39) κ _ hQ dX6_resist_39 ⟨_, _, _, rfl, rfl, h⟩
        · have h := h.2 c6
          refine xr_ldc2 (pc := 25) κ (v := -2) kw_3_133 dX6_resist_25 ?_
          exact xr_lret (pc := 28) κ _ hQ dX6_resist_28 ⟨_, _, _, rfl, rfl, h⟩
-- ChipVoltsModel.block(II)I, level 2
def wp_X6_block (k : Int32) (mo : Int32) (c : CS) (t : MT) (K : Int32 → CS → MT → Prop) : Prop :=
    wp_X6_isKnot k c t (fun r1 c1_ t1_ =>
      (r1 = 0 →
        K (-2 : Int32) c1_ t1_) ∧
      (¬ r1 = 0 →
        wp_X6_in mo (1 : Int32) (20 : Int32) (fun r3 =>
          (¬ r3 = 0 →
            (¬ (c_nb c1_) = (6 : Int32) →
              vp_in (c_nb c1_) 6 ∧
              vp_in (c_nb c1_) 6 ∧
              K (((c_nb c1_) + (1 : Int32)) - (1 : Int32)) (cs_nb (cs_most (cs_sits c1_ (upd (c_sits c1_) (((c_nb c1_)).toNatClampNeg) k)) (upd (c_most c1_) (((c_nb c1_)).toNatClampNeg) mo)) ((c_nb c1_) + (1 : Int32))) t1_) ∧
            ((c_nb c1_) = (6 : Int32) →
              K (-4 : Int32) c1_ t1_)) ∧
          (r3 = 0 →
            K (-2 : Int32) c1_ t1_))))
set_option maxHeartbeats 4000000 in
set_option maxRecDepth 100000 in
theorem snd_X6_block {l : Launch} (k : Int32) (mo : Int32) (c : CS) (t : MT) (K : Int32 → CS → MT → Prop) (h : wp_X6_block k mo c t K) : XM l xTM yX6_block cX6_block 3 (some .int) 2 [.ref 0, .int k, .int mo] (wM c t) (fun v ω' => ∃ (r : Int32) (c' : CS) (t' : MT), v = some (.int r) ∧ ω' = wM c' t' ∧ K r c' t') := by
    refine XM.of (by decide) (Nat.le_of_ble_eq_true rfl) (fun κ hQ => ?_)
    show Wat κ 0 [(0, .ref 0), (1, .int k), (2, .int mo)] [] (wM c t)
    unfold wp_X6_block at h
    refine xr_aload_n (pc := 0) κ 0 (x := 0) dX6_block_0 rfl rfl ?_
    refine xr_iload_n (pc := 1) κ 1 (x := k) dX6_block_1 rfl rfl ?_
    refine xr_callV (pc := 2) κ [.int k] kw_3_113 tg_X6_isKnot (snd_X6_isKnot _ _ _ _ h) rfl (by decide) (by decide) (by decide) rfl (ci := 6) rfl rfl (Nat.le_of_ble_eq_true rfl) dX6_block_2 (fun v9 ω9 hk9 => ?_)
    obtain ⟨r1, c1_, t1_, rfl, rfl, h⟩ := hk9
    skip
    show Wat κ 5 [(0, .ref 0), (1, .int k), (2, .int mo)] [.int r1] (wM c1_ t1_)
    refine xr_if_eq (pc := 5) κ (tgt := 18) dX6_block_5 (by decide) (fun c2 => ?_) (fun c2 => ?_)
    · have h := h.1 c2
      refine xr_bipush (pc := 18) κ (v := -2) dX6_block_18 (by decide) ?_
      exact xr_iret (pc := 20) κ _ hQ dX6_block_20 ⟨_, _, _, rfl, rfl, h⟩
    · have h := h.2 c2
      refine xr_iload_n (pc := 8) κ 2 (x := mo) dX6_block_8 rfl rfl ?_
      refine xr_iconst (pc := 9) κ (v := 1) dX6_block_9 (by decide) ?_
      refine xr_bipush (pc := 10) κ (v := 20) dX6_block_10 (by decide) ?_
      refine xr_callS (pc := 12) κ [.int mo, .int (1 : Int32), .int (20 : Int32)] kw_3_106 tg_X6_in (snd_X6_in _ _ _ _ h) rfl (by decide) (by decide) (Nat.le_of_ble_eq_true rfl) dX6_block_12 (fun v9 ω9 hk9 => ?_)
      obtain ⟨r3, rfl, e9, h⟩ := hk9
      rw [e9]
      show Wat κ 15 [(0, .ref 0), (1, .int k), (2, .int mo)] [.int r3] (wM c1_ t1_)
      refine xr_if_ne (pc := 15) κ (tgt := 21) dX6_block_15 (by decide) (fun c4 => ?_) (fun c4 => ?_)
      · have h := h.1 c4
        refine xr_aload_n (pc := 21) κ 0 (x := 0) dX6_block_21 rfl rfl ?_
        refine xr_get (pc := 22) κ xc6 (k := 0) (f := 8) (v := .int (c_nb c1_)) kw_3_31 (by decide) rfl (by decide) rfl dX6_block_22 ?_
        refine xr_bipush (pc := 25) κ (v := 6) dX6_block_25 (by decide) ?_
        refine xr_icmp_ne (pc := 27) κ (tgt := 33) dX6_block_27 (by decide) (fun c5 => ?_) (fun c5 => ?_)
        · have h := h.1 c5
          refine xr_aload_n (pc := 33) κ 0 (x := 0) dX6_block_33 rfl rfl ?_
          refine xr_get (pc := 34) κ xc6 (k := 0) (f := 9) (v := .ref 6) kw_3_32 (by decide) rfl (by decide) rfl dX6_block_34 ?_
          refine xr_aload_n (pc := 37) κ 0 (x := 0) dX6_block_37 rfl rfl ?_
          refine xr_get (pc := 38) κ xc6 (k := 0) (f := 8) (v := .int (c_nb c1_)) kw_3_31 (by decide) rfl (by decide) rfl dX6_block_38 ?_
          refine xr_iload_n (pc := 41) κ 1 (x := k) dX6_block_41 rfl rfl ?_
          obtain ⟨i6, h⟩ := h
          refine xr_iast (pc := 42) κ (k := 6) (n := 6) (f := c_sits c1_) (ω' := wM (cs_sits c1_ (upd (c_sits c1_) (((c_nb c1_)).toNatClampNeg) k)) t1_) (by decide) rfl rfl i6 (wMa_sits _ _ _) dX6_block_42 ?_
          refine xr_aload_n (pc := 43) κ 0 (x := 0) dX6_block_43 rfl rfl ?_
          refine xr_get (pc := 44) κ xc6 (k := 0) (f := 10) (v := .ref 7) kw_3_33 (by decide) rfl (by decide) rfl dX6_block_44 ?_
          refine xr_aload_n (pc := 47) κ 0 (x := 0) dX6_block_47 rfl rfl ?_
          refine xr_get (pc := 48) κ xc6 (k := 0) (f := 8) (v := .int (c_nb c1_)) kw_3_31 (by decide) rfl (by decide) rfl dX6_block_48 ?_
          refine xr_iload_n (pc := 51) κ 2 (x := mo) dX6_block_51 rfl rfl ?_
          obtain ⟨i7, h⟩ := h
          refine xr_iast (pc := 52) κ (k := 7) (n := 6) (f := c_most c1_) (ω' := wM (cs_most (cs_sits c1_ (upd (c_sits c1_) (((c_nb c1_)).toNatClampNeg) k)) (upd (c_most c1_) (((c_nb c1_)).toNatClampNeg) mo)) t1_) (by decide) rfl rfl i7 (wMa_most _ _ _) dX6_block_52 ?_
          refine xr_aload_n (pc := 53) κ 0 (x := 0) dX6_block_53 rfl rfl ?_
          refine xr_dup (pc := 54) κ rfl dX6_block_54 ?_
          refine xr_get (pc := 55) κ xc6 (k := 0) (f := 8) (v := .int (c_nb c1_)) kw_3_31 (by decide) rfl (by decide) rfl dX6_block_55 ?_
          refine xr_iconst (pc := 58) κ (v := 1) dX6_block_58 (by decide) ?_
          refine xr_iadd (pc := 59) κ dX6_block_59 ?_
          refine xr_put (pc := 60) κ xc6 (k := 0) (f := 8) (v := .int ((c_nb c1_) + (1 : Int32))) (ω' := wM (cs_nb (cs_most (cs_sits c1_ (upd (c_sits c1_) (((c_nb c1_)).toNatClampNeg) k)) (upd (c_most c1_) (((c_nb c1_)).toNatClampNeg) mo)) ((c_nb c1_) + (1 : Int32))) t1_) kw_3_31 (by decide) rfl (by decide) rfl (fun _ => rfl) (fun _ => rfl) (Nat.le_of_ble_eq_true rfl) (wMf_nb _ _ _) dX6_block_60 ?_
          refine xr_aload_n (pc := 63) κ 0 (x := 0) dX6_block_63 rfl rfl ?_
          refine xr_get (pc := 64) κ xc6 (k := 0) (f := 8) (v := .int ((c_nb c1_) + (1 : Int32))) kw_3_31 (by decide) rfl (by decide) rfl dX6_block_64 ?_
          refine xr_iconst (pc := 67) κ (v := 1) dX6_block_67 (by decide) ?_
          refine xr_isub (pc := 68) κ dX6_block_68 ?_
          exact xr_iret (pc := 69) κ _ hQ dX6_block_69 ⟨_, _, _, rfl, rfl, h⟩
        · have h := h.2 c5
          refine xr_bipush (pc := 30) κ (v := -4) dX6_block_30 (by decide) ?_
          exact xr_iret (pc := 32) κ _ hQ dX6_block_32 ⟨_, _, _, rfl, rfl, h⟩
      · have h := h.2 c4
        refine xr_bipush (pc := 18) κ (v := -2) dX6_block_18 (by decide) ?_
        exact xr_iret (pc := 20) κ _ hQ dX6_block_20 ⟨_, _, _, rfl, rfl, h⟩
