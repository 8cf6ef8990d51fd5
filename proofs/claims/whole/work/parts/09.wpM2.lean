-- ChipVoltsModel.budget(I)I, level 1
def wp_X6_budget (v : Int32) (c : CS) (t : MT) (K : Int32 → CS → MT → Prop) : Prop :=
    wp_X6_in v (0 : Int32) (100 : Int32) (fun r1 =>
      (¬ r1 = 0 →
        K (c_budget c) (cs_budget c v) t) ∧
      (r1 = 0 →
        K (-2 : Int32) c t))
set_option maxHeartbeats 4000000 in
set_option maxRecDepth 100000 in
theorem snd_X6_budget {l : Launch} (v : Int32) (c : CS) (t : MT) (K : Int32 → CS → MT → Prop) (h : wp_X6_budget v c t K) : XM l xTM yX6_budget cX6_budget 3 (some .int) 1 [.ref 0, .int v] (wM c t) (fun v ω' => ∃ (r : Int32) (c' : CS) (t' : MT), v = some (.int r) ∧ ω' = wM c' t' ∧ K r c' t') := by
    refine XM.of (by decide) (Nat.le_of_ble_eq_true rfl) (fun κ hQ => ?_)
    show Wat κ 0 [(0, .ref 0), (1, .int v)] [] (wM c t)
    unfold wp_X6_budget at h
    refine xr_iload_n (pc := 0) κ 1 (x := v) dX6_budget_0 rfl rfl ?_
    refine xr_iconst (pc := 1) κ (v := 0) dX6_budget_1 (by decide) ?_
    refine xr_bipush (pc := 2) κ (v := 100) dX6_budget_2 (by decide) ?_
    refine xr_callS (pc := 4) κ [.int v, .int (0 : Int32), .int (100 : Int32)] kw_3_106 tg_X6_in (snd_X6_in _ _ _ _ h) rfl (by decide) (by decide) (Nat.le_of_ble_eq_true rfl) dX6_budget_4 (fun v9 ω9 hk9 => ?_)
    obtain ⟨r1, rfl, e9, h⟩ := hk9
    rw [e9]
    show Wat κ 7 [(0, .ref 0), (1, .int v)] [.int r1] (wM c t)
    refine xr_if_ne (pc := 7) κ (tgt := 13) dX6_budget_7 (by decide) (fun c2 => ?_) (fun c2 => ?_)
    · have h := h.1 c2
      refine xr_aload_n (pc := 13) κ 0 (x := 0) dX6_budget_13 rfl rfl ?_
      refine xr_get (pc := 14) κ xc6 (k := 0) (f := 11) (v := .int (c_budget c)) kw_3_34 (by decide) rfl (by decide) rfl dX6_budget_14 ?_
      refine xr_istore_n (pc := 17) κ [1, 2, 0] (lv' := [(0, .ref 0), (1, .int v), (2, .int (c_budget c))]) dX6_budget_17 rfl (by decide) rfl ?_
      refine xr_aload_n (pc := 18) κ 0 (x := 0) dX6_budget_18 rfl rfl ?_
      refine xr_iload_n (pc := 19) κ 1 (x := v) dX6_budget_19 rfl rfl ?_
      refine xr_put (pc := 20) κ xc6 (k := 0) (f := 11) (v := .int v) (ω' := wM (cs_budget c v) t) kw_3_34 (by decide) rfl (by decide) rfl (fun _ => rfl) (fun _ => rfl) (Nat.le_of_ble_eq_true rfl) (wMf_budget _ _ _) dX6_budget_20 ?_
      refine xr_iload_n (pc := 23) κ 2 (x := (c_budget c)) dX6_budget_23 rfl rfl ?_
      exact xr_iret (pc := 24) κ _ hQ dX6_budget_24 ⟨_, _, _, rfl, rfl, h⟩
    · have h := h.2 c2
      refine xr_bipush (pc := 10) κ (v := -2) dX6_budget_10 (by decide) ?_
      exact xr_iret (pc := 12) κ _ hQ dX6_budget_12 ⟨_, _, _, rfl, rfl, h⟩
-- ChipVoltsModel.findWorst(I)J, level 0
def nd_X6_findWorst_153 (K : Int64 → CS → MT → Prop) (L36 : Int32 → Int32 → Int64 → Int32 → CS → MT → Prop) (v1 : Int32) (v2 : Int32) (v3 : Int64) (v5 : Int32) (v6 : Int32) (s0 : Int32) (s1 : Int32) (c : CS) (t : MT) : Prop :=
    vp_in s1 6 ∧
    vp_in v6 6 ∧
    vp_in v6 6 ∧
    vp_in v6 6 ∧
    vp_in (((7 : Int32) * v1) + (c_sits c v6.toNatClampNeg)) 49 ∧
    L36 v1 (v2 - (upd (m_gets t) s1.toNatClampNeg s0 v6.toNatClampNeg)) (v3 + ((Int32.toInt64 (upd (m_gets t) s1.toNatClampNeg s0 v6.toNatClampNeg)) * (m_resist t (((((7 : Int32) * v1) + (c_sits c v6.toNatClampNeg))).toNatClampNeg)))) (v5 + 1) c (ms_gets t (upd (m_gets t) s1.toNatClampNeg s0))
set_option maxHeartbeats 4000000 in
set_option maxRecDepth 100000 in
theorem snd_X6_findWorst_153 {l : Launch} (κ : XC l xTM cX6_findWorst yX6_findWorst.cls 8 (some .long) 0) (K : Int64 → CS → MT → Prop) (hQ : xRet κ (fun v ω' => ∃ (r : Int64) (c' : CS) (t' : MT), v = some (.long r) ∧ ω' = wM c' t' ∧ K r c' t')) (L36 : Int32 → Int32 → Int64 → Int32 → CS → MT → Prop) (hL36 : ∀ (v1 : Int32) (v2 : Int32) (v3 : Int64) (v5 : Int32) (c : CS) (t : MT), L36 v1 v2 v3 v5 c t → Wat κ 36 [(0, .ref 0), (1, .int v1), (2, .int v2), (3, .long v3), (5, .int v5)] [] (wM c t)) (v1 : Int32) (v2 : Int32) (v3 : Int64) (v5 : Int32) (v6 : Int32) (s0 : Int32) (s1 : Int32) (c : CS) (t : MT) (h : nd_X6_findWorst_153 K L36 v1 v2 v3 v5 v6 s0 s1 c t) : Wat κ 153 [(0, .ref 0), (1, .int v1), (2, .int v2), (3, .long v3), (5, .int v5), (6, .int v6)] [.int s0, .int s1, .ref 12] (wM c t) := by
    unfold nd_X6_findWorst_153 at h
    obtain ⟨i6, h⟩ := h
    refine xr_iast (pc := 153) κ (k := 12) (n := 6) (f := m_gets t) (ω' := wM c (ms_gets t (upd (m_gets t) s1.toNatClampNeg s0))) (by decide) rfl rfl i6 (wMa_gets _ _ _) dX6_findWorst_153 ?_
    refine xr_iload_n (pc := 154) κ 2 (x := v2) dX6_findWorst_154 rfl rfl ?_
    refine xr_aload_n (pc := 155) κ 0 (x := 0) dX6_findWorst_155 rfl rfl ?_
    refine xr_get (pc := 156) κ xc6 (k := 0) (f := 18) (v := .ref 12) kw_3_41 (by decide) rfl (by decide) rfl dX6_findWorst_156 ?_
    refine xr_iload (pc := 159) κ 5 (x := v6) dX6_findWorst_159 rfl ?_
    obtain ⟨i7, h⟩ := h
    refine xr_iald (pc := 161) κ (k := 12) (n := 6) (f := upd (m_gets t) s1.toNatClampNeg s0) (by decide) rfl rfl i7 dX6_findWorst_161 ?_
    refine xr_isub (pc := 162) κ dX6_findWorst_162 ?_
    refine xr_istore_n (pc := 163) κ [1, 2, 0, 3, 4, 5] (lv' := [(0, .ref 0), (1, .int v1), (2, .int (v2 - (upd (m_gets t) s1.toNatClampNeg s0 v6.toNatClampNeg))), (3, .long v3), (5, .int v5), (6, .int v6)]) dX6_findWorst_163 rfl (by decide) rfl ?_
    refine xr_lload_n (pc := 164) κ 3 (x := v3) dX6_findWorst_164 rfl rfl ?_
    refine xr_aload_n (pc := 165) κ 0 (x := 0) dX6_findWorst_165 rfl rfl ?_
    refine xr_get (pc := 166) κ xc6 (k := 0) (f := 18) (v := .ref 12) kw_3_41 (by decide) rfl (by decide) rfl dX6_findWorst_166 ?_
    refine xr_iload (pc := 169) κ 5 (x := v6) dX6_findWorst_169 rfl ?_
    obtain ⟨i8, h⟩ := h
    refine xr_iald (pc := 171) κ (k := 12) (n := 6) (f := upd (m_gets t) s1.toNatClampNeg s0) (by decide) rfl rfl i8 dX6_findWorst_171 ?_
    refine xr_i2l (pc := 172) κ dX6_findWorst_172 ?_
    refine xr_aload_n (pc := 173) κ 0 (x := 0) dX6_findWorst_173 rfl rfl ?_
    refine xr_get (pc := 174) κ xc6 (k := 0) (f := 16) (v := .ref 11) kw_3_39 (by decide) rfl (by decide) rfl dX6_findWorst_174 ?_
    refine xr_bipush (pc := 177) κ (v := 7) dX6_findWorst_177 (by decide) ?_
    refine xr_iload_n (pc := 179) κ 1 (x := v1) dX6_findWorst_179 rfl rfl ?_
    refine xr_imul (pc := 180) κ dX6_findWorst_180 ?_
    refine xr_aload_n (pc := 181) κ 0 (x := 0) dX6_findWorst_181 rfl rfl ?_
    refine xr_get (pc := 182) κ xc6 (k := 0) (f := 9) (v := .ref 6) kw_3_32 (by decide) rfl (by decide) rfl dX6_findWorst_182 ?_
    refine xr_iload (pc := 185) κ 5 (x := v6) dX6_findWorst_185 rfl ?_
    obtain ⟨i9, h⟩ := h
    refine xr_iald (pc := 187) κ (k := 6) (n := 6) (f := c_sits c) (by decide) rfl rfl i9 dX6_findWorst_187 ?_
    refine xr_iadd (pc := 188) κ dX6_findWorst_188 ?_
    obtain ⟨i10, h⟩ := h
    refine xr_lald (pc := 189) κ (k := 11) (n := 49) (f := m_resist t) (by decide) rfl rfl i10 dX6_findWorst_189 ?_
    refine xr_lmul (pc := 190) κ dX6_findWorst_190 ?_
    refine xr_ladd (pc := 191) κ dX6_findWorst_191 ?_
    refine xr_lstore_n (pc := 192) κ [1, 2, 3, 0, 4, 5] (lv' := [(0, .ref 0), (1, .int v1), (2, .int (v2 - (upd (m_gets t) s1.toNatClampNeg s0 v6.toNatClampNeg))), (3, .long (v3 + ((Int32.toInt64 (upd (m_gets t) s1.toNatClampNeg s0 v6.toNatClampNeg)) * (m_resist t (((((7 : Int32) * v1) + (c_sits c v6.toNatClampNeg))).toNatClampNeg))))), (5, .int v5), (6, .int v6)]) dX6_findWorst_192 rfl (by decide) rfl ?_
    refine xr_iinc (pc := 193) κ 4 [1, 2, 3, 4, 0, 5] (lv' := [(0, .ref 0), (1, .int v1), (2, .int (v2 - (upd (m_gets t) s1.toNatClampNeg s0 v6.toNatClampNeg))), (3, .long (v3 + ((Int32.toInt64 (upd (m_gets t) s1.toNatClampNeg s0 v6.toNatClampNeg)) * (m_resist t (((((7 : Int32) * v1) + (c_sits c v6.toNatClampNeg))).toNatClampNeg))))), (5, .int (v5 + 1)), (6, .int v6)]) (x := v5) (v := v5 + 1) dX6_findWorst_193 rfl rfl (by decide) rfl ?_
    refine xr_goto (pc := 196) κ (tgt := 36) dX6_findWorst_196 (by decide) ?_
    refine xr_sub (pc := 36) κ [0, 1, 2, 3, 4] (lv' := [(0, .ref 0), (1, .int v1), (2, .int (v2 - (upd (m_gets t) s1.toNatClampNeg s0 v6.toNatClampNeg))), (3, .long (v3 + ((Int32.toInt64 (upd (m_gets t) s1.toNatClampNeg s0 v6.toNatClampNeg)) * (m_resist t (((((7 : Int32) * v1) + (c_sits c v6.toNatClampNeg))).toNatClampNeg))))), (5, .int (v5 + 1))]) rfl ?_
    exact hL36 _ _ _ _ _ _ h
def nd_X6_findWorst_119 (K : Int64 → CS → MT → Prop) (L36 : Int32 → Int32 → Int64 → Int32 → CS → MT → Prop) (L51 : Int32 → Int32 → Int64 → Int32 → Int32 → Int32 → CS → MT → Prop) (v1 : Int32) (v2 : Int32) (v3 : Int64) (v5 : Int32) (v6 : Int32) (v7 : Int32) (c : CS) (t : MT) : Prop :=
    L51 v1 v2 v3 v5 v6 (v7 + 1) c t
set_option maxHeartbeats 4000000 in
set_option maxRecDepth 100000 in
theorem snd_X6_findWorst_119 {l : Launch} (κ : XC l xTM cX6_findWorst yX6_findWorst.cls 8 (some .long) 0) (K : Int64 → CS → MT → Prop) (hQ : xRet κ (fun v ω' => ∃ (r : Int64) (c' : CS) (t' : MT), v = some (.long r) ∧ ω' = wM c' t' ∧ K r c' t')) (L36 : Int32 → Int32 → Int64 → Int32 → CS → MT → Prop) (L51 : Int32 → Int32 → Int64 → Int32 → Int32 → Int32 → CS → MT → Prop) (hL36 : ∀ (v1 : Int32) (v2 : Int32) (v3 : Int64) (v5 : Int32) (c : CS) (t : MT), L36 v1 v2 v3 v5 c t → Wat κ 36 [(0, .ref 0), (1, .int v1), (2, .int v2), (3, .long v3), (5, .int v5)] [] (wM c t)) (hL51 : ∀ (v1 : Int32) (v2 : Int32) (v3 : Int64) (v5 : Int32) (v6 : Int32) (v7 : Int32) (c : CS) (t : MT), L51 v1 v2 v3 v5 v6 v7 c t → Wat κ 51 [(0, .ref 0), (1, .int v1), (2, .int v2), (3, .long v3), (5, .int v5), (6, .int v6), (7, .int v7)] [] (wM c t)) (v1 : Int32) (v2 : Int32) (v3 : Int64) (v5 : Int32) (v6 : Int32) (v7 : Int32) (c : CS) (t : MT) (h : nd_X6_findWorst_119 K L36 L51 v1 v2 v3 v5 v6 v7 c t) : Wat κ 119 [(0, .ref 0), (1, .int v1), (2, .int v2), (3, .long v3), (5, .int v5), (6, .int v6), (7, .int v7)] [] (wM c t) := by
    unfold nd_X6_findWorst_119 at h
    refine xr_iinc (pc := 119) κ 6 [1, 2, 3, 4, 5, 6, 0] (lv' := [(0, .ref 0), (1, .int v1), (2, .int v2), (3, .long v3), (5, .int v5), (6, .int v6), (7, .int (v7 + 1))]) (x := v7) (v := v7 + 1) dX6_findWorst_119 rfl rfl (by decide) rfl ?_
    refine xr_goto (pc := 122) κ (tgt := 51) dX6_findWorst_122 (by decide) ?_
    exact hL51 _ _ _ _ _ _ _ _ h
def nd_X6_findWorst_115 (K : Int64 → CS → MT → Prop) (L36 : Int32 → Int32 → Int64 → Int32 → CS → MT → Prop) (L51 : Int32 → Int32 → Int64 → Int32 → Int32 → Int32 → CS → MT → Prop) (v1 : Int32) (v2 : Int32) (v3 : Int64) (v5 : Int32) (v7 : Int32) (c : CS) (t : MT) : Prop :=
    nd_X6_findWorst_119 K L36 L51 v1 v2 v3 v5 v7 v7 c t
set_option maxHeartbeats 4000000 in
set_option maxRecDepth 100000 in
theorem snd_X6_findWorst_115 {l : Launch} (κ : XC l xTM cX6_findWorst yX6_findWorst.cls 8 (some .long) 0) (K : Int64 → CS → MT → Prop) (hQ : xRet κ (fun v ω' => ∃ (r : Int64) (c' : CS) (t' : MT), v = some (.long r) ∧ ω' = wM c' t' ∧ K r c' t')) (L36 : Int32 → Int32 → Int64 → Int32 → CS → MT → Prop) (L51 : Int32 → Int32 → Int64 → Int32 → Int32 → Int32 → CS → MT → Prop) (hL36 : ∀ (v1 : Int32) (v2 : Int32) (v3 : Int64) (v5 : Int32) (c : CS) (t : MT), L36 v1 v2 v3 v5 c t → Wat κ 36 [(0, .ref 0), (1, .int v1), (2, .int v2), (3, .long v3), (5, .int v5)] [] (wM c t)) (hL51 : ∀ (v1 : Int32) (v2 : Int32) (v3 : Int64) (v5 : Int32) (v6 : Int32) (v7 : Int32) (c : CS) (t : MT), L51 v1 v2 v3 v5 v6 v7 c t → Wat κ 51 [(0, .ref 0), (1, .int v1), (2, .int v2), (3, .long v3), (5, .int v5), (6, .int v6), (7, .int v7)] [] (wM c t)) (v1 : Int32) (v2 : Int32) (v3 : Int64) (v5 : Int32) (v7 : Int32) (c : CS) (t : MT) (h : nd_X6_findWorst_115 K L36 L51 v1 v2 v3 v5 v7 c t) : Wat κ 115 [(0, .ref 0), (1, .int v1), (2, .int v2), (3, .long v3), (5, .int v5), (7, .int v7)] [] (wM c t) := by
    unfold nd_X6_findWorst_115 at h
    refine xr_iload (pc := 115) κ 5 (x := v7) dX6_findWorst_115 rfl ?_
    refine xr_istore (pc := 117) κ [1, 2, 3, 4, 5, 0, 6] (lv' := [(0, .ref 0), (1, .int v1), (2, .int v2), (3, .long v3), (5, .int v5), (6, .int v7), (7, .int v7)]) dX6_findWorst_117 (by decide) rfl ?_
    exact snd_X6_findWorst_119 κ K hQ _ _ hL36 hL51 _ _ _ _ _ _ _ _ h
def nd_X6_findWorst_51 (K : Int64 → CS → MT → Prop) (L36 : Int32 → Int32 → Int64 → Int32 → CS → MT → Prop) : Nat → Int32 → Int32 → Int64 → Int32 → Int32 → Int32 → CS → MT → Prop
  | 0 => fun _ _ _ _ _ _ _ _ => False
  | n + 1 => fun v1 v2 v3 v5 v6 v7 c t =>
    ((c_nb c) ≤ v7 →
      vp_in v6 6 ∧
      (v2 ≤ (c_most c v6.toNatClampNeg) →
        nd_X6_findWorst_153 K L36 v1 v2 v3 v5 v6 v2 v6 c t) ∧
      (¬ v2 ≤ (c_most c v6.toNatClampNeg) →
        vp_in v6 6 ∧
        nd_X6_findWorst_153 K L36 v1 v2 v3 v5 v6 (c_most c v6.toNatClampNeg) v6 c t)) ∧
    (¬ (c_nb c) ≤ v7 →
      vp_in v7 6 ∧
      (¬ (m_gets t v7.toNatClampNeg) = (-1 : Int32) →
        nd_X6_findWorst_119 K L36 (fun v1 v2 v3 v5 v6 v7 c t => nd_X6_findWorst_51 K L36 n v1 v2 v3 v5 v6 v7 c t) v1 v2 v3 v5 v6 v7 c t) ∧
      ((m_gets t v7.toNatClampNeg) = (-1 : Int32) →
        (v6 = (-1 : Int32) →
          nd_X6_findWorst_115 K L36 (fun v1 v2 v3 v5 v6 v7 c t => nd_X6_findWorst_51 K L36 n v1 v2 v3 v5 v6 v7 c t) v1 v2 v3 v5 v7 c t) ∧
        (¬ v6 = (-1 : Int32) →
          vp_in v7 6 ∧
          vp_in (((7 : Int32) * v1) + (c_sits c v7.toNatClampNeg)) 49 ∧
          vp_in v6 6 ∧
          vp_in (((7 : Int32) * v1) + (c_sits c v6.toNatClampNeg)) 49 ∧
          ((m_resist t (((((7 : Int32) * v1) + (c_sits c v7.toNatClampNeg))).toNatClampNeg)) ≤ (m_resist t (((((7 : Int32) * v1) + (c_sits c v6.toNatClampNeg))).toNatClampNeg)) →
            nd_X6_findWorst_119 K L36 (fun v1 v2 v3 v5 v6 v7 c t => nd_X6_findWorst_51 K L36 n v1 v2 v3 v5 v6 v7 c t) v1 v2 v3 v5 v6 v7 c t) ∧
          (¬ (m_resist t (((((7 : Int32) * v1) + (c_sits c v7.toNatClampNeg))).toNatClampNeg)) ≤ (m_resist t (((((7 : Int32) * v1) + (c_sits c v6.toNatClampNeg))).toNatClampNeg)) →
            nd_X6_findWorst_115 K L36 (fun v1 v2 v3 v5 v6 v7 c t => nd_X6_findWorst_51 K L36 n v1 v2 v3 v5 v6 v7 c t) v1 v2 v3 v5 v7 c t))))
set_option maxHeartbeats 4000000 in
set_option maxRecDepth 100000 in
theorem snd_X6_findWorst_51 {l : Launch} (κ : XC l xTM cX6_findWorst yX6_findWorst.cls 8 (some .long) 0) (K : Int64 → CS → MT → Prop) (hQ : xRet κ (fun v ω' => ∃ (r : Int64) (c' : CS) (t' : MT), v = some (.long r) ∧ ω' = wM c' t' ∧ K r c' t')) (L36 : Int32 → Int32 → Int64 → Int32 → CS → MT → Prop) (hL36 : ∀ (v1 : Int32) (v2 : Int32) (v3 : Int64) (v5 : Int32) (c : CS) (t : MT), L36 v1 v2 v3 v5 c t → Wat κ 36 [(0, .ref 0), (1, .int v1), (2, .int v2), (3, .long v3), (5, .int v5)] [] (wM c t)) : ∀ (n : Nat) (v1 : Int32) (v2 : Int32) (v3 : Int64) (v5 : Int32) (v6 : Int32) (v7 : Int32) (c : CS) (t : MT), nd_X6_findWorst_51 K L36 n v1 v2 v3 v5 v6 v7 c t → Wat κ 51 [(0, .ref 0), (1, .int v1), (2, .int v2), (3, .long v3), (5, .int v5), (6, .int v6), (7, .int v7)] [] (wM c t) := by
  intro n
  induction n with
  | zero => intro v1 v2 v3 v5 v6 v7 c t h; exact h.elim
  | succ n ih =>
    intro v1 v2 v3 v5 v6 v7 c t h
    unfold nd_X6_findWorst_51 at h
    refine xr_iload (pc := 51) κ 6 (x := v7) dX6_findWorst_51 rfl ?_
    refine xr_aload_n (pc := 53) κ 0 (x := 0) dX6_findWorst_53 rfl rfl ?_
    refine xr_get (pc := 54) κ xc6 (k := 0) (f := 8) (v := .int (c_nb c)) kw_3_31 (by decide) rfl (by decide) rfl dX6_findWorst_54 ?_
    refine xr_icmp_ge (pc := 57) κ (tgt := 125) dX6_findWorst_57 (by decide) (fun c3 => ?_) (fun c3 => ?_)
    · have h := h.1 c3
      refine xr_aload_n (pc := 125) κ 0 (x := 0) dX6_findWorst_125 rfl rfl ?_
      refine xr_get (pc := 126) κ xc6 (k := 0) (f := 18) (v := .ref 12) kw_3_41 (by decide) rfl (by decide) rfl dX6_findWorst_126 ?_
      refine xr_iload (pc := 129) κ 5 (x := v6) dX6_findWorst_129 rfl ?_
      refine xr_aload_n (pc := 131) κ 0 (x := 0) dX6_findWorst_131 rfl rfl ?_
      refine xr_get (pc := 132) κ xc6 (k := 0) (f := 10) (v := .ref 7) kw_3_33 (by decide) rfl (by decide) rfl dX6_findWorst_132 ?_
      refine xr_iload (pc := 135) κ 5 (x := v6) dX6_findWorst_135 rfl ?_
      obtain ⟨i4, h⟩ := h
      refine xr_iald (pc := 137) κ (k := 7) (n := 6) (f := c_most c) (by decide) rfl rfl i4 dX6_findWorst_137 ?_
      refine xr_iload_n (pc := 138) κ 2 (x := v2) dX6_findWorst_138 rfl rfl ?_
      refine xr_icmp_ge (pc := 139) κ (tgt := 152) dX6_findWorst_139 (by decide) (fun c5 => ?_) (fun c5 => ?_)
      · have h := h.1 c5
        refine xr_iload_n (pc := 152) κ 2 (x := v2) dX6_findWorst_152 rfl rfl ?_
        refine xr_sub (pc := 153) κ [0, 1, 2, 3, 4, 5] (lv' := [(0, .ref 0), (1, .int v1), (2, .int v2), (3, .long v3), (5, .int v5), (6, .int v6)]) rfl ?_
        exact snd_X6_findWorst_153 κ K hQ _ hL36 _ _ _ _ _ _ _ _ _ h
      · have h := h.2 c5
        refine xr_aload_n (pc := 142) κ 0 (x := 0) dX6_findWorst_142 rfl rfl ?_
        refine xr_get (pc := 143) κ xc6 (k := 0) (f := 10) (v := .ref 7) kw_3_33 (by decide) rfl (by decide) rfl dX6_findWorst_143 ?_
        refine xr_iload (pc := 146) κ 5 (x := v6) dX6_findWorst_146 rfl ?_
        obtain ⟨i11, h⟩ := h
        refine xr_iald (pc := 148) κ (k := 7) (n := 6) (f := c_most c) (by decide) rfl rfl i11 dX6_findWorst_148 ?_
        refine xr_goto (pc := 149) κ (tgt := 153) dX6_findWorst_149 (by decide) ?_
        refine xr_sub (pc := 153) κ [0, 1, 2, 3, 4, 5] (lv' := [(0, .ref 0), (1, .int v1), (2, .int v2), (3, .long v3), (5, .int v5), (6, .int v6)]) rfl ?_
        exact snd_X6_findWorst_153 κ K hQ _ hL36 _ _ _ _ _ _ _ _ _ h
    · have h := h.2 c3
      refine xr_aload_n (pc := 60) κ 0 (x := 0) dX6_findWorst_60 rfl rfl ?_
      refine xr_get (pc := 61) κ xc6 (k := 0) (f := 18) (v := .ref 12) kw_3_41 (by decide) rfl (by decide) rfl dX6_findWorst_61 ?_
      refine xr_iload (pc := 64) κ 6 (x := v7) dX6_findWorst_64 rfl ?_
      obtain ⟨i12, h⟩ := h
      refine xr_iald (pc := 66) κ (k := 12) (n := 6) (f := m_gets t) (by decide) rfl rfl i12 dX6_findWorst_66 ?_
      refine xr_iconst (pc := 67) κ (v := -1) dX6_findWorst_67 (by decide) ?_
      refine xr_icmp_ne (pc := 68) κ (tgt := 119) dX6_findWorst_68 (by decide) (fun c13 => ?_) (fun c13 => ?_)
      · have h := h.1 c13
        exact snd_X6_findWorst_119 κ K hQ _ _ hL36 ih _ _ _ _ _ _ _ _ h
      · have h := h.2 c13
        refine xr_iload (pc := 71) κ 5 (x := v6) dX6_findWorst_71 rfl ?_
        refine xr_iconst (pc := 73) κ (v := -1) dX6_findWorst_73 (by decide) ?_
        refine xr_icmp_eq (pc := 74) κ (tgt := 115) dX6_findWorst_74 (by decide) (fun c14 => ?_) (fun c14 => ?_)
        · have h := h.1 c14
          refine xr_sub (pc := 115) κ [0, 1, 2, 3, 4, 6] (lv' := [(0, .ref 0), (1, .int v1), (2, .int v2), (3, .long v3), (5, .int v5), (7, .int v7)]) rfl ?_
          exact snd_X6_findWorst_115 κ K hQ _ _ hL36 ih _ _ _ _ _ _ _ h
        · have h := h.2 c14
          refine xr_aload_n (pc := 77) κ 0 (x := 0) dX6_findWorst_77 rfl rfl ?_
          refine xr_get (pc := 78) κ xc6 (k := 0) (f := 16) (v := .ref 11) kw_3_39 (by decide) rfl (by decide) rfl dX6_findWorst_78 ?_
          refine xr_bipush (pc := 81) κ (v := 7) dX6_findWorst_81 (by decide) ?_
          refine xr_iload_n (pc := 83) κ 1 (x := v1) dX6_findWorst_83 rfl rfl ?_
          refine xr_imul (pc := 84) κ dX6_findWorst_84 ?_
          refine xr_aload_n (pc := 85) κ 0 (x := 0) dX6_findWorst_85 rfl rfl ?_
          refine xr_get (pc := 86) κ xc6 (k := 0) (f := 9) (v := .ref 6) kw_3_32 (by decide) rfl (by decide) rfl dX6_findWorst_86 ?_
          refine xr_iload (pc := 89) κ 6 (x := v7) dX6_findWorst_89 rfl ?_
          obtain ⟨i15, h⟩ := h
          refine xr_iald (pc := 91) κ (k := 6) (n := 6) (f := c_sits c) (by decide) rfl rfl i15 dX6_findWorst_91 ?_
          refine xr_iadd (pc := 92) κ dX6_findWorst_92 ?_
          obtain ⟨i16, h⟩ := h
          refine xr_lald (pc := 93) κ (k := 11) (n := 49) (f := m_resist t) (by decide) rfl rfl i16 dX6_findWorst_93 ?_
          refine xr_aload_n (pc := 94) κ 0 (x := 0) dX6_findWorst_94 rfl rfl ?_
          refine xr_get (pc := 95) κ xc6 (k := 0) (f := 16) (v := .ref 11) kw_3_39 (by decide) rfl (by decide) rfl dX6_findWorst_95 ?_
          refine xr_bipush (pc := 98) κ (v := 7) dX6_findWorst_98 (by decide) ?_
          refine xr_iload_n (pc := 100) κ 1 (x := v1) dX6_findWorst_100 rfl rfl ?_
          refine xr_imul (pc := 101) κ dX6_findWorst_101 ?_
          refine xr_aload_n (pc := 102) κ 0 (x := 0) dX6_findWorst_102 rfl rfl ?_
          refine xr_get (pc := 103) κ xc6 (k := 0) (f := 9) (v := .ref 6) kw_3_32 (by decide) rfl (by decide) rfl dX6_findWorst_103 ?_
          refine xr_iload (pc := 106) κ 5 (x := v6) dX6_findWorst_106 rfl ?_
          obtain ⟨i17, h⟩ := h
          refine xr_iald (pc := 108) κ (k := 6) (n := 6) (f := c_sits c) (by decide) rfl rfl i17 dX6_findWorst_108 ?_
          refine xr_iadd (pc := 109) κ dX6_findWorst_109 ?_
          obtain ⟨i18, h⟩ := h
          refine xr_lald (pc := 110) κ (k := 11) (n := 49) (f := m_resist t) (by decide) rfl rfl i18 dX6_findWorst_110 ?_
          refine xr_lcmp_le (pc := 111) κ (tgt := 119) dX6_findWorst_111 dX6_findWorst_112 (by decide) (fun c19 => ?_) (fun c19 => ?_)
          · have h := h.1 c19
            exact snd_X6_findWorst_119 κ K hQ _ _ hL36 ih _ _ _ _ _ _ _ _ h
          · have h := h.2 c19
            refine xr_sub (pc := 115) κ [0, 1, 2, 3, 4, 6] (lv' := [(0, .ref 0), (1, .int v1), (2, .int v2), (3, .long v3), (5, .int v5), (7, .int v7)]) rfl ?_
            exact snd_X6_findWorst_115 κ K hQ _ _ hL36 ih _ _ _ _ _ _ _ h
def nd_X6_findWorst_36 (K : Int64 → CS → MT → Prop) : Nat → Int32 → Int32 → Int64 → Int32 → CS → MT → Prop
  | 0 => fun _ _ _ _ _ _ => False
  | n + 1 => fun v1 v2 v3 v5 c t =>
    ((c_nb c) ≤ v5 →
      K v3 c t) ∧
    (¬ (c_nb c) ≤ v5 →
      ∃ n51 : Nat, nd_X6_findWorst_51 K (fun v1 v2 v3 v5 c t => nd_X6_findWorst_36 K n v1 v2 v3 v5 c t) n51 v1 v2 v3 v5 (-1 : Int32) (0 : Int32) c t)
set_option maxHeartbeats 4000000 in
set_option maxRecDepth 100000 in
theorem snd_X6_findWorst_36 {l : Launch} (κ : XC l xTM cX6_findWorst yX6_findWorst.cls 8 (some .long) 0) (K : Int64 → CS → MT → Prop) (hQ : xRet κ (fun v ω' => ∃ (r : Int64) (c' : CS) (t' : MT), v = some (.long r) ∧ ω' = wM c' t' ∧ K r c' t')) : ∀ (n : Nat) (v1 : Int32) (v2 : Int32) (v3 : Int64) (v5 : Int32) (c : CS) (t : MT), nd_X6_findWorst_36 K n v1 v2 v3 v5 c t → Wat κ 36 [(0, .ref 0), (1, .int v1), (2, .int v2), (3, .long v3), (5, .int v5)] [] (wM c t) := by
  intro n
  induction n with
  | zero => intro v1 v2 v3 v5 c t h; exact h.elim
  | succ n ih =>
    intro v1 v2 v3 v5 c t h
    unfold nd_X6_findWorst_36 at h
    refine xr_iload (pc := 36) κ 4 (x := v5) dX6_findWorst_36 rfl ?_
    refine xr_aload_n (pc := 38) κ 0 (x := 0) dX6_findWorst_38 rfl rfl ?_
    refine xr_get (pc := 39) κ xc6 (k := 0) (f := 8) (v := .int (c_nb c)) kw_3_31 (by decide) rfl (by decide) rfl dX6_findWorst_39 ?_
    refine xr_icmp_ge (pc := 42) κ (tgt := 199) dX6_findWorst_42 (by decide) (fun c2 => ?_) (fun c2 => ?_)
    · have h := h.1 c2
      refine xr_lload_n (pc := 199) κ 3 (x := v3) dX6_findWorst_199 rfl rfl ?_
      exact xr_lret (pc := 200) κ _ hQ dX6_findWorst_200 ⟨_, _, _, rfl, rfl, h⟩
    · have h := h.2 c2
      refine xr_iconst (pc := 45) κ (v := -1) dX6_findWorst_45 (by decide) ?_
      refine xr_istore (pc := 46) κ [1, 2, 3, 4, 5, 0] (lv' := [(0, .ref 0), (1, .int v1), (2, .int v2), (3, .long v3), (5, .int v5), (6, .int (-1 : Int32))]) dX6_findWorst_46 (by decide) rfl ?_
      refine xr_iconst (pc := 48) κ (v := 0) dX6_findWorst_48 (by decide) ?_
      refine xr_istore (pc := 49) κ [1, 2, 3, 4, 5, 6, 0] (lv' := [(0, .ref 0), (1, .int v1), (2, .int v2), (3, .long v3), (5, .int v5), (6, .int (-1 : Int32)), (7, .int (0 : Int32))]) dX6_findWorst_49 (by decide) rfl ?_
      obtain ⟨n0, h⟩ := h
      exact snd_X6_findWorst_51 κ K hQ _ ih n0 _ _ _ _ _ _ _ _ h
def nd_X6_findWorst_10 (K : Int64 → CS → MT → Prop) : Nat → Int32 → Int32 → Int64 → Int32 → CS → MT → Prop
  | 0 => fun _ _ _ _ _ _ => False
  | n + 1 => fun v1 v2 v3 v5 c t =>
    ((c_nb c) ≤ v5 →
      ∃ n36 : Nat, nd_X6_findWorst_36 K n36 v1 v2 v3 (0 : Int32) c t) ∧
    (¬ (c_nb c) ≤ v5 →
      vp_in v5 6 ∧
      nd_X6_findWorst_10 K n v1 v2 v3 (v5 + 1) c (ms_gets t (upd (m_gets t) v5.toNatClampNeg (-1 : Int32))))
set_option maxHeartbeats 4000000 in
set_option maxRecDepth 100000 in
theorem snd_X6_findWorst_10 {l : Launch} (κ : XC l xTM cX6_findWorst yX6_findWorst.cls 8 (some .long) 0) (K : Int64 → CS → MT → Prop) (hQ : xRet κ (fun v ω' => ∃ (r : Int64) (c' : CS) (t' : MT), v = some (.long r) ∧ ω' = wM c' t' ∧ K r c' t')) : ∀ (n : Nat) (v1 : Int32) (v2 : Int32) (v3 : Int64) (v5 : Int32) (c : CS) (t : MT), nd_X6_findWorst_10 K n v1 v2 v3 v5 c t → Wat κ 10 [(0, .ref 0), (1, .int v1), (2, .int v2), (3, .long v3), (5, .int v5)] [] (wM c t) := by
  intro n
  induction n with
  | zero => intro v1 v2 v3 v5 c t h; exact h.elim
  | succ n ih =>
    intro v1 v2 v3 v5 c t h
    unfold nd_X6_findWorst_10 at h
    refine xr_iload (pc := 10) κ 4 (x := v5) dX6_findWorst_10 rfl ?_
    refine xr_aload_n (pc := 12) κ 0 (x := 0) dX6_findWorst_12 rfl rfl ?_
    refine xr_get (pc := 13) κ xc6 (k := 0) (f := 8) (v := .int (c_nb c)) kw_3_31 (by decide) rfl (by decide) rfl dX6_findWorst_13 ?_
    refine xr_icmp_ge (pc := 16) κ (tgt := 33) dX6_findWorst_16 (by decide) (fun c1 => ?_) (fun c1 => ?_)
    · have h := h.1 c1
      refine xr_iconst (pc := 33) κ (v := 0) dX6_findWorst_33 (by decide) ?_
      refine xr_istore (pc := 34) κ [1, 2, 3, 4, 0] (lv' := [(0, .ref 0), (1, .int v1), (2, .int v2), (3, .long v3), (5, .int (0 : Int32))]) dX6_findWorst_34 (by decide) rfl ?_
      obtain ⟨n0, h⟩ := h
      exact snd_X6_findWorst_36 κ K hQ n0 _ _ _ _ _ _ h
    · have h := h.2 c1
      refine xr_aload_n (pc := 19) κ 0 (x := 0) dX6_findWorst_19 rfl rfl ?_
      refine xr_get (pc := 20) κ xc6 (k := 0) (f := 18) (v := .ref 12) kw_3_41 (by decide) rfl (by decide) rfl dX6_findWorst_20 ?_
      refine xr_iload (pc := 23) κ 4 (x := v5) dX6_findWorst_23 rfl ?_
      refine xr_iconst (pc := 25) κ (v := -1) dX6_findWorst_25 (by decide) ?_
      obtain ⟨i20, h⟩ := h
      refine xr_iast (pc := 26) κ (k := 12) (n := 6) (f := m_gets t) (ω' := wM c (ms_gets t (upd (m_gets t) v5.toNatClampNeg (-1 : Int32)))) (by decide) rfl rfl i20 (wMa_gets _ _ _) dX6_findWorst_26 ?_
      refine xr_iinc (pc := 27) κ 4 [1, 2, 3, 4, 0] (lv' := [(0, .ref 0), (1, .int v1), (2, .int v2), (3, .long v3), (5, .int (v5 + 1))]) (x := v5) (v := v5 + 1) dX6_findWorst_27 rfl rfl (by decide) rfl ?_
      refine xr_goto (pc := 30) κ (tgt := 10) dX6_findWorst_30 (by decide) ?_
      exact ih _ _ _ _ _ _ h
def wp_X6_findWorst (k : Int32) (c : CS) (t : MT) (K : Int64 → CS → MT → Prop) : Prop :=
    ∃ n10 : Nat, nd_X6_findWorst_10 K n10 k (c_budget c) (0 : Int64) (0 : Int32) c t
set_option maxHeartbeats 4000000 in
set_option maxRecDepth 100000 in
theorem snd_X6_findWorst {l : Launch} (k : Int32) (c : CS) (t : MT) (K : Int64 → CS → MT → Prop) (h : wp_X6_findWorst k c t K) : XM l xTM yX6_findWorst cX6_findWorst 8 (some .long) 0 [.ref 0, .int k] (wM c t) (fun v ω' => ∃ (r : Int64) (c' : CS) (t' : MT), v = some (.long r) ∧ ω' = wM c' t' ∧ K r c' t') := by
    refine XM.of (by decide) (Nat.le_of_ble_eq_true rfl) (fun κ hQ => ?_)
    show Wat κ 0 [(0, .ref 0), (1, .int k)] [] (wM c t)
    unfold wp_X6_findWorst at h
    refine xr_aload_n (pc := 0) κ 0 (x := 0) dX6_findWorst_0 rfl rfl ?_
    refine xr_get (pc := 1) κ xc6 (k := 0) (f := 11) (v := .int (c_budget c)) kw_3_34 (by decide) rfl (by decide) rfl dX6_findWorst_1 ?_
    refine xr_istore_n (pc := 4) κ [1, 2, 0] (lv' := [(0, .ref 0), (1, .int k), (2, .int (c_budget c))]) dX6_findWorst_4 rfl (by decide) rfl ?_
    refine xr_lconst (pc := 5) κ (v := 0) dX6_findWorst_5 (by decide) ?_
    refine xr_lstore_n (pc := 6) κ [1, 2, 3, 0] (lv' := [(0, .ref 0), (1, .int k), (2, .int (c_budget c)), (3, .long (0 : Int64))]) dX6_findWorst_6 rfl (by decide) rfl ?_
    refine xr_iconst (pc := 7) κ (v := 0) dX6_findWorst_7 (by decide) ?_
    refine xr_istore (pc := 8) κ [1, 2, 3, 4, 0] (lv' := [(0, .ref 0), (1, .int k), (2, .int (c_budget c)), (3, .long (0 : Int64)), (5, .int (0 : Int32))]) dX6_findWorst_8 (by decide) rfl ?_
    obtain ⟨n0, h⟩ := h
    exact snd_X6_findWorst_10 κ K hQ n0 _ _ _ _ _ _ h
-- ChipVoltsModel.worst(II)I, level 3
def wp_X6_worst (k : Int32) (bl : Int32) (c : CS) (t : MT) (K : Int32 → CS → MT → Prop) : Prop :=
    wp_X6_isKnot k c t (fun r1 c1_ t1_ =>
      (r1 = 0 →
        K (-2 : Int32) c1_ t1_) ∧
      (¬ r1 = 0 →
        wp_X6_in bl (0 : Int32) ((c_nb c1_) - (1 : Int32)) (fun r3 =>
          (¬ r3 = 0 →
            wp_X6_isFed c1_ t1_ (fun r5 c5_ t5_ =>
              (¬ r5 = 0 →
                wp_X6_findResist (c_pads c5_) (-1 : Int32) c5_ t5_ (fun c7_ t7_ =>
                  wp_X6_findWorst k c7_ t7_ (fun r8 c8_ t8_ =>
                    vp_in bl 6 ∧
                    K (m_gets t8_ bl.toNatClampNeg) c8_ t8_))) ∧
              (r5 = 0 →
                K (-3 : Int32) c5_ t5_))) ∧
          (r3 = 0 →
            K (-2 : Int32) c1_ t1_))))
set_option maxHeartbeats 4000000 in
set_option maxRecDepth 100000 in
theorem snd_X6_worst {l : Launch} (k : Int32) (bl : Int32) (c : CS) (t : MT) (K : Int32 → CS → MT → Prop) (h : wp_X6_worst k bl c t K) : XM l xTM yX6_worst cX6_worst 5 (some .int) 3 [.ref 0, .int k, .int bl] (wM c t) (fun v ω' => ∃ (r : Int32) (c' : CS) (t' : MT), v = some (.int r) ∧ ω' = wM c' t' ∧ K r c' t') := by
    refine XM.of (by decide) (Nat.le_of_ble_eq_true rfl) (fun κ hQ => ?_)
    show Wat κ 0 [(0, .ref 0), (1, .int k), (2, .int bl)] [] (wM c t)
    unfold wp_X6_worst at h
    refine xr_aload_n (pc := 0) κ 0 (x := 0) dX6_worst_0 rfl rfl ?_
    refine xr_iload_n (pc := 1) κ 1 (x := k) dX6_worst_1 rfl rfl ?_
    refine xr_callV (pc := 2) κ [.int k] kw_3_113 tg_X6_isKnot (snd_X6_isKnot _ _ _ _ h) rfl (by decide) (by decide) (by decide) rfl (ci := 6) rfl rfl (Nat.le_of_ble_eq_true rfl) dX6_worst_2 (fun v9 ω9 hk9 => ?_)
    obtain ⟨r1, c1_, t1_, rfl, rfl, h⟩ := hk9
    skip
    show Wat κ 5 [(0, .ref 0), (1, .int k), (2, .int bl)] [.int r1] (wM c1_ t1_)
    refine xr_if_eq (pc := 5) κ (tgt := 22) dX6_worst_5 (by decide) (fun c2 => ?_) (fun c2 => ?_)
    · have h := h.1 c2
      refine xr_bipush (pc := 22) κ (v := -2) dX6_worst_22 (by decide) ?_
      exact xr_iret (pc := 24) κ _ hQ dX6_worst_24 ⟨_, _, _, rfl, rfl, h⟩
    · have h := h.2 c2
      refine xr_iload_n (pc := 8) κ 2 (x := bl) dX6_worst_8 rfl rfl ?_
      refine xr_iconst (pc := 9) κ (v := 0) dX6_worst_9 (by decide) ?_
      refine xr_aload_n (pc := 10) κ 0 (x := 0) dX6_worst_10 rfl rfl ?_
      refine xr_get (pc := 11) κ xc6 (k := 0) (f := 8) (v := .int (c_nb c1_)) kw_3_31 (by decide) rfl (by decide) rfl dX6_worst_11 ?_
      refine xr_iconst (pc := 14) κ (v := 1) dX6_worst_14 (by decide) ?_
      refine xr_isub (pc := 15) κ dX6_worst_15 ?_
      refine xr_callS (pc := 16) κ [.int bl, .int (0 : Int32), .int ((c_nb c1_) - (1 : Int32))] kw_3_106 tg_X6_in (snd_X6_in _ _ _ _ h) rfl (by decide) (by decide) (Nat.le_of_ble_eq_true rfl) dX6_worst_16 (fun v9 ω9 hk9 => ?_)
      obtain ⟨r3, rfl, e9, h⟩ := hk9
      rw [e9]
      show Wat κ 19 [(0, .ref 0), (1, .int k), (2, .int bl)] [.int r3] (wM c1_ t1_)
      refine xr_if_ne (pc := 19) κ (tgt := 25) dX6_worst_19 (by decide) (fun c4 => ?_) (fun c4 => ?_)
      · have h := h.1 c4
        refine xr_aload_n (pc := 25) κ 0 (x := 0) dX6_worst_25 rfl rfl ?_
        refine xr_callV (pc := 26) κ [] kw_3_134 tg_X6_isFed (snd_X6_isFed  _ _ _ h) rfl (by decide) (by decide) (by decide) rfl (ci := 6) rfl rfl (Nat.le_of_ble_eq_true rfl) dX6_worst_26 (fun v9 ω9 hk9 => ?_)
        obtain ⟨r5, c5_, t5_, rfl, rfl, h⟩ := hk9
        skip
        show Wat κ 29 [(0, .ref 0), (1, .int k), (2, .int bl)] [.int r5] (wM c5_ t5_)
        refine xr_if_ne (pc := 29) κ (tgt := 35) dX6_worst_29 (by decide) (fun c6 => ?_) (fun c6 => ?_)
        · have h := h.1 c6
          refine xr_aload_n (pc := 35) κ 0 (x := 0) dX6_worst_35 rfl rfl ?_
          refine xr_aload_n (pc := 36) κ 0 (x := 0) dX6_worst_36 rfl rfl ?_
          refine xr_get (pc := 37) κ xc6 (k := 0) (f := 6) (v := .int (c_pads c5_)) kw_3_29 (by decide) rfl (by decide) rfl dX6_worst_37 ?_
          refine xr_iconst (pc := 40) κ (v := -1) dX6_worst_40 (by decide) ?_
          refine xr_callV (pc := 41) κ [.int (c_pads c5_), .int (-1 : Int32)] kw_3_143 tg_X6_findResist (snd_X6_findResist _ _ _ _ _ h) rfl (by decide) (by decide) (by decide) rfl (ci := 6) rfl rfl (Nat.le_of_ble_eq_true rfl) dX6_worst_41 (fun v9 ω9 hk9 => ?_)
          obtain ⟨c7_, t7_, rfl, rfl, h⟩ := hk9
          skip
          show Wat κ 44 [(0, .ref 0), (1, .int k), (2, .int bl)] [] (wM c7_ t7_)
          refine xr_aload_n (pc := 44) κ 0 (x := 0) dX6_worst_44 rfl rfl ?_
          refine xr_iload_n (pc := 45) κ 1 (x := k) dX6_worst_45 rfl rfl ?_
          refine xr_callV (pc := 46) κ [.int k] kw_3_199 tg_X6_findWorst (snd_X6_findWorst _ _ _ _ h) rfl (by decide) (by decide) (by decide) rfl (ci := 6) rfl rfl (Nat.le_of_ble_eq_true rfl) dX6_worst_46 (fun v9 ω9 hk9 => ?_)
          obtain ⟨r8, c8_, t8_, rfl, rfl, h⟩ := hk9
          skip
          show Wat κ 49 [(0, .ref 0), (1, .int k), (2, .int bl)] [.long r8] (wM c8_ t8_)
          refine xr_lstore_n (pc := 49) κ [1, 2, 3, 0] (lv' := [(0, .ref 0), (1, .int k), (2, .int bl), (3, .long r8)]) dX6_worst_49 rfl (by decide) rfl ?_
          refine xr_aload_n (pc := 50) κ 0 (x := 0) dX6_worst_50 rfl rfl ?_
          refine xr_get (pc := 51) κ xc6 (k := 0) (f := 18) (v := .ref 12) kw_3_41 (by decide) rfl (by decide) rfl dX6_worst_51 ?_
          refine xr_iload_n (pc := 54) κ 2 (x := bl) dX6_worst_54 rfl rfl ?_
          obtain ⟨i9, h⟩ := h
          refine xr_iald (pc := 55) κ (k := 12) (n := 6) (f := m_gets t8_) (by decide) rfl rfl i9 dX6_worst_55 ?_
          exact xr_iret (pc := 56) κ _ hQ dX6_worst_56 ⟨_, _, _, rfl, rfl, h⟩
        · have h := h.2 c6
          refine xr_bipush (pc := 32) κ (v := -3) dX6_worst_32 (by decide) ?_
          exact xr_iret (pc := 34) κ _ hQ dX6_worst_34 ⟨_, _, _, rfl, rfl, h⟩
      · have h := h.2 c4
        refine xr_bipush (pc := 22) κ (v := -2) dX6_worst_22 (by decide) ?_
        exact xr_iret (pc := 24) κ _ hQ dX6_worst_24 ⟨_, _, _, rfl, rfl, h⟩
-- ChipVoltsModel.worstFall(II)J, level 3
def wp_X6_worstFall (k : Int32) (what : Int32) (c : CS) (t : MT) (K : Int64 → CS → MT → Prop) : Prop :=
    wp_X6_isKnot k c t (fun r1 c1_ t1_ =>
      (r1 = 0 →
        K (-2 : Int64) c1_ t1_) ∧
      (¬ r1 = 0 →
        wp_X6_in what (0 : Int32) (1 : Int32) (fun r3 =>
          (¬ r3 = 0 →
            wp_X6_isFed c1_ t1_ (fun r5 c5_ t5_ =>
              (¬ r5 = 0 →
                wp_X6_findResist (c_pads c5_) (-1 : Int32) c5_ t5_ (fun c7_ t7_ =>
                  wp_X6_findWorst k c7_ t7_ (fun r8 c8_ t8_ =>
                    wp_X6_lowest r8 (m_under t8_) what (fun r9 =>
                      K r9 c8_ t8_)))) ∧
              (r5 = 0 →
                K (-3 : Int64) c5_ t5_))) ∧
          (r3 = 0 →
            K (-2 : Int64) c1_ t1_))))
set_option maxHeartbeats 4000000 in
set_option maxRecDepth 100000 in
theorem snd_X6_worstFall {l : Launch} (k : Int32) (what : Int32) (c : CS) (t : MT) (K : Int64 → CS → MT → Prop) (h : wp_X6_worstFall k what c t K) : XM l xTM yX6_worstFall cX6_worstFall 3 (some .long) 3 [.ref 0, .int k, .int what] (wM c t) (fun v ω' => ∃ (r : Int64) (c' : CS) (t' : MT), v = some (.long r) ∧ ω' = wM c' t' ∧ K r c' t') := by
    refine XM.of (by decide) (Nat.le_of_ble_eq_true rfl) (fun κ hQ => ?_)
    show Wat κ 0 [(0, .ref 0), (1, .int k), (2, .int what)] [] (wM c t)
    unfold wp_X6_worstFall at h
    refine xr_aload_n (pc := 0) κ 0 (x := 0) dX6_worstFall_0 rfl rfl ?_
    refine xr_iload_n (pc := 1) κ 1 (x := k) dX6_worstFall_1 rfl rfl ?_
    refine xr_callV (pc := 2) κ [.int k] kw_3_113 tg_X6_isKnot (snd_X6_isKnot _ _ _ _ h) rfl (by decide) (by decide) (by decide) rfl (ci := 6) rfl rfl (Nat.le_of_ble_eq_true rfl) dX6_worstFall_2 (fun v9 ω9 hk9 => ?_)
    obtain ⟨r1, c1_, t1_, rfl, rfl, h⟩ := hk9
    skip
    show Wat κ 5 [(0, .ref 0), (1, .int k), (2, .int what)] [.int r1] (wM c1_ t1_)
    refine xr_if_eq (pc := 5) κ (tgt := 17) dX6_worstFall_5 (by decide) (fun c2 => ?_) (fun c2 => ?_)
    · have h := h.1 c2
      refine xr_ldc2 (pc := 17) κ (v := -2) kw_3_133 dX6_worstFall_17 ?_
      exact xr_lret (pc := 20) κ _ hQ dX6_worstFall_20 ⟨_, _, _, rfl, rfl, h⟩
    · have h := h.2 c2
      refine xr_iload_n (pc := 8) κ 2 (x := what) dX6_worstFall_8 rfl rfl ?_
      refine xr_iconst (pc := 9) κ (v := 0) dX6_worstFall_9 (by decide) ?_
      refine xr_iconst (pc := 10) κ (v := 1) dX6_worstFall_10 (by decide) ?_
      refine xr_callS (pc := 11) κ [.int what, .int (0 : Int32), .int (1 : Int32)] kw_3_106 tg_X6_in (snd_X6_in _ _ _ _ h) rfl (by decide) (by decide) (Nat.le_of_ble_eq_true rfl) dX6_worstFall_11 (fun v9 ω9 hk9 => ?_)
      obtain ⟨r3, rfl, e9, h⟩ := hk9
      rw [e9]
      show Wat κ 14 [(0, .ref 0), (1, .int k), (2, .int what)] [.int r3] (wM c1_ t1_)
      refine xr_if_ne (pc := 14) κ (tgt := 21) dX6_worstFall_14 (by decide) (fun c4 => ?_) (fun c4 => ?_)
      · have h := h.1 c4
        refine xr_aload_n (pc := 21) κ 0 (x := 0) dX6_worstFall_21 rfl rfl ?_
        refine xr_callV (pc := 22) κ [] kw_3_134 tg_X6_isFed (snd_X6_isFed  _ _ _ h) rfl (by decide) (by decide) (by decide) rfl (ci := 6) rfl rfl (Nat.le_of_ble_eq_true rfl) dX6_worstFall_22 (fun v9 ω9 hk9 => ?_)
        obtain ⟨r5, c5_, t5_, rfl, rfl, h⟩ := hk9
        skip
        show Wat κ 25 [(0, .ref 0), (1, .int k), (2, .int what)] [.int r5] (wM c5_ t5_)
        refine xr_if_ne (pc := 25) κ (tgt := 32) dX6_worstFall_25 (by decide) (fun c6 => ?_) (fun c6 => ?_)
        · have h := h.1 c6
          refine xr_aload_n (pc := 32) κ 0 (x := 0) dX6_worstFall_32 rfl rfl ?_
          refine xr_aload_n (pc := 33) κ 0 (x := 0) dX6_worstFall_33 rfl rfl ?_
          refine xr_get (pc := 34) κ xc6 (k := 0) (f := 6) (v := .int (c_pads c5_)) kw_3_29 (by decide) rfl (by decide) rfl dX6_worstFall_34 ?_
          refine xr_iconst (pc := 37) κ (v := -1) dX6_worstFall_37 (by decide) ?_
          refine xr_callV (pc := 38) κ [.int (c_pads c5_), .int (-1 : Int32)] kw_3_143 tg_X6_findResist (snd_X6_findResist _ _ _ _ _ h) rfl (by decide) (by decide) (by decide) rfl (ci := 6) rfl rfl (Nat.le_of_ble_eq_true rfl) dX6_worstFall_38 (fun v9 ω9 hk9 => ?_)
          obtain ⟨c7_, t7_, rfl, rfl, h⟩ := hk9
          skip
          show Wat κ 41 [(0, .ref 0), (1, .int k), (2, .int what)] [] (wM c7_ t7_)
          refine xr_aload_n (pc := 41) κ 0 (x := 0) dX6_worstFall_41 rfl rfl ?_
          refine xr_iload_n (pc := 42) κ 1 (x := k) dX6_worstFall_42 rfl rfl ?_
          refine xr_callV (pc := 43) κ [.int k] kw_3_199 tg_X6_findWorst (snd_X6_findWorst _ _ _ _ h) rfl (by decide) (by decide) (by decide) rfl (ci := 6) rfl rfl (Nat.le_of_ble_eq_true rfl) dX6_worstFall_43 (fun v9 ω9 hk9 => ?_)
          obtain ⟨r8, c8_, t8_, rfl, rfl, h⟩ := hk9
          skip
          show Wat κ 46 [(0, .ref 0), (1, .int k), (2, .int what)] [.long r8] (wM c8_ t8_)
          refine xr_aload_n (pc := 46) κ 0 (x := 0) dX6_worstFall_46 rfl rfl ?_
          refine xr_get (pc := 47) κ xc6 (k := 0) (f := 17) (v := .long (m_under t8_)) kw_3_40 (by decide) rfl (by decide) rfl dX6_worstFall_47 ?_
          refine xr_iload_n (pc := 50) κ 2 (x := what) dX6_worstFall_50 rfl rfl ?_
          refine xr_callS (pc := 51) κ [.long r8, .long (m_under t8_), .int what] kw_3_167 tg_X6_lowest (snd_X6_lowest _ _ _ _ h) rfl (by decide) (by decide) (Nat.le_of_ble_eq_true rfl) dX6_worstFall_51 (fun v9 ω9 hk9 => ?_)
          obtain ⟨r9, rfl, e9, h⟩ := hk9
          rw [e9]
          show Wat κ 54 [(0, .ref 0), (1, .int k), (2, .int what)] [.long r9] (wM c8_ t8_)
          exact xr_lret (pc := 54) κ _ hQ dX6_worstFall_54 ⟨_, _, _, rfl, rfl, h⟩
        · have h := h.2 c6
          refine xr_ldc2 (pc := 28) κ (v := -3) kw_3_142 dX6_worstFall_28 ?_
          exact xr_lret (pc := 31) κ _ hQ dX6_worstFall_31 ⟨_, _, _, rfl, rfl, h⟩
      · have h := h.2 c4
        refine xr_ldc2 (pc := 17) κ (v := -2) kw_3_133 dX6_worstFall_17 ?_
        exact xr_lret (pc := 20) κ _ hQ dX6_worstFall_20 ⟨_, _, _, rfl, rfl, h⟩
-- ChipVoltsModel.worstKnot()I, level 3
def nd_X6_worstKnot_50 (K : Int32 → CS → MT → Prop) (L23 : Int32 → Int32 → CS → MT → Prop) (v2 : Int32) (s0 : Int32) (c : CS) (t : MT) : Prop :=
    L23 s0 (v2 + 1) c t
set_option maxHeartbeats 4000000 in
set_option maxRecDepth 100000 in
theorem snd_X6_worstKnot_50 {l : Launch} (κ : XC l xTM cX6_worstKnot yX6_worstKnot.cls 3 (some .int) 3) (K : Int32 → CS → MT → Prop) (hQ : xRet κ (fun v ω' => ∃ (r : Int32) (c' : CS) (t' : MT), v = some (.int r) ∧ ω' = wM c' t' ∧ K r c' t')) (L23 : Int32 → Int32 → CS → MT → Prop) (hL23 : ∀ (v1 : Int32) (v2 : Int32) (c : CS) (t : MT), L23 v1 v2 c t → Wat κ 23 [(0, .ref 0), (1, .int v1), (2, .int v2)] [] (wM c t)) (v2 : Int32) (s0 : Int32) (c : CS) (t : MT) (h : nd_X6_worstKnot_50 K L23 v2 s0 c t) : Wat κ 50 [(0, .ref 0), (2, .int v2)] [.int s0] (wM c t) := by
    unfold nd_X6_worstKnot_50 at h
    refine xr_istore_n (pc := 50) κ [1, 0, 2] (lv' := [(0, .ref 0), (1, .int s0), (2, .int v2)]) dX6_worstKnot_50 rfl (by decide) rfl ?_
    refine xr_iinc (pc := 51) κ 2 [1, 2, 0] (lv' := [(0, .ref 0), (1, .int s0), (2, .int (v2 + 1))]) (x := v2) (v := v2 + 1) dX6_worstKnot_51 rfl rfl (by decide) rfl ?_
    refine xr_goto (pc := 54) κ (tgt := 23) dX6_worstKnot_54 (by decide) ?_
    exact hL23 _ _ _ _ h
def nd_X6_worstKnot_23 (K : Int32 → CS → MT → Prop) : Nat → Int32 → Int32 → CS → MT → Prop
  | 0 => fun _ _ _ _ => False
  | n + 1 => fun v1 v2 c t =>
    ((c_n c) ≤ v2 →
      K v1 c t) ∧
    (¬ (c_n c) ≤ v2 →
      wp_X6_findWorst v2 c t (fun r5 c5_ t5_ =>
        wp_X6_findWorst v1 c5_ t5_ (fun r6 c6_ t6_ =>
          (r5 ≤ r6 →
            nd_X6_worstKnot_50 K (fun v1 v2 c t => nd_X6_worstKnot_23 K n v1 v2 c t) v2 v1 c6_ t6_) ∧
          (¬ r5 ≤ r6 →
            nd_X6_worstKnot_50 K (fun v1 v2 c t => nd_X6_worstKnot_23 K n v1 v2 c t) v2 v2 c6_ t6_))))
set_option maxHeartbeats 4000000 in
set_option maxRecDepth 100000 in
theorem snd_X6_worstKnot_23 {l : Launch} (κ : XC l xTM cX6_worstKnot yX6_worstKnot.cls 3 (some .int) 3) (K : Int32 → CS → MT → Prop) (hQ : xRet κ (fun v ω' => ∃ (r : Int32) (c' : CS) (t' : MT), v = some (.int r) ∧ ω' = wM c' t' ∧ K r c' t')) : ∀ (n : Nat) (v1 : Int32) (v2 : Int32) (c : CS) (t : MT), nd_X6_worstKnot_23 K n v1 v2 c t → Wat κ 23 [(0, .ref 0), (1, .int v1), (2, .int v2)] [] (wM c t) := by
  intro n
  induction n with
  | zero => intro v1 v2 c t h; exact h.elim
  | succ n ih =>
    intro v1 v2 c t h
    unfold nd_X6_worstKnot_23 at h
    refine xr_iload_n (pc := 23) κ 2 (x := v2) dX6_worstKnot_23 rfl rfl ?_
    refine xr_aload_n (pc := 24) κ 0 (x := 0) dX6_worstKnot_24 rfl rfl ?_
    refine xr_get (pc := 25) κ xc6 (k := 0) (f := 0) (v := .int (c_n c)) kw_3_23 (by decide) rfl (by decide) rfl dX6_worstKnot_25 ?_
    refine xr_icmp_ge (pc := 28) κ (tgt := 57) dX6_worstKnot_28 (by decide) (fun c4 => ?_) (fun c4 => ?_)
    · have h := h.1 c4
      refine xr_iload_n (pc := 57) κ 1 (x := v1) dX6_worstKnot_57 rfl rfl ?_
      exact xr_iret (pc := 58) κ _ hQ dX6_worstKnot_58 ⟨_, _, _, rfl, rfl, h⟩
    · have h := h.2 c4
      refine xr_aload_n (pc := 31) κ 0 (x := 0) dX6_worstKnot_31 rfl rfl ?_
      refine xr_iload_n (pc := 32) κ 2 (x := v2) dX6_worstKnot_32 rfl rfl ?_
      refine xr_callV (pc := 33) κ [.int v2] kw_3_199 tg_X6_findWorst (snd_X6_findWorst _ _ _ _ h) rfl (by decide) (by decide) (by decide) rfl (ci := 6) rfl rfl (Nat.le_of_ble_eq_true rfl) dX6_worstKnot_33 (fun v9 ω9 hk9 => ?_)
      obtain ⟨r5, c5_, t5_, rfl, rfl, h⟩ := hk9
      skip
      show Wat κ 36 [(0, .ref 0), (1, .int v1), (2, .int v2)] [.long r5] (wM c5_ t5_)
      refine xr_aload_n (pc := 36) κ 0 (x := 0) dX6_worstKnot_36 rfl rfl ?_
      refine xr_iload_n (pc := 37) κ 1 (x := v1) dX6_worstKnot_37 rfl rfl ?_
      refine xr_callV (pc := 38) κ [.int v1] kw_3_199 tg_X6_findWorst (snd_X6_findWorst _ _ _ _ h) rfl (by decide) (by decide) (by decide) rfl (ci := 6) rfl rfl (Nat.le_of_ble_eq_true rfl) dX6_worstKnot_38 (fun v9 ω9 hk9 => ?_)
      obtain ⟨r6, c6_, t6_, rfl, rfl, h⟩ := hk9
      skip
      show Wat κ 41 [(0, .ref 0), (1, .int v1), (2, .int v2)] [.long r6, .long r5] (wM c6_ t6_)
      refine xr_lcmp_le (pc := 41) κ (tgt := 49) dX6_worstKnot_41 dX6_worstKnot_42 (by decide) (fun c7 => ?_) (fun c7 => ?_)
      · have h := h.1 c7
        refine xr_iload_n (pc := 49) κ 1 (x := v1) dX6_worstKnot_49 rfl rfl ?_
        refine xr_sub (pc := 50) κ [0, 2] (lv' := [(0, .ref 0), (2, .int v2)]) rfl ?_
        exact snd_X6_worstKnot_50 κ K hQ _ ih _ _ _ _ h
      · have h := h.2 c7
        refine xr_iload_n (pc := 45) κ 2 (x := v2) dX6_worstKnot_45 rfl rfl ?_
        refine xr_goto (pc := 46) κ (tgt := 50) dX6_worstKnot_46 (by decide) ?_
        refine xr_sub (pc := 50) κ [0, 2] (lv' := [(0, .ref 0), (2, .int v2)]) rfl ?_
        exact snd_X6_worstKnot_50 κ K hQ _ ih _ _ _ _ h
def wp_X6_worstKnot (c : CS) (t : MT) (K : Int32 → CS → MT → Prop) : Prop :=
    wp_X6_isFed c t (fun r1 c1_ t1_ =>
      (¬ r1 = 0 →
        wp_X6_findResist (c_pads c1_) (-1 : Int32) c1_ t1_ (fun c3_ t3_ =>
          ∃ n23 : Nat, nd_X6_worstKnot_23 K n23 (0 : Int32) (1 : Int32) c3_ t3_)) ∧
      (r1 = 0 →
        K (-3 : Int32) c1_ t1_))
set_option maxHeartbeats 4000000 in
set_option maxRecDepth 100000 in
theorem snd_X6_worstKnot {l : Launch} (c : CS) (t : MT) (K : Int32 → CS → MT → Prop) (h : wp_X6_worstKnot  c t K) : XM l xTM yX6_worstKnot cX6_worstKnot 3 (some .int) 3 [.ref 0] (wM c t) (fun v ω' => ∃ (r : Int32) (c' : CS) (t' : MT), v = some (.int r) ∧ ω' = wM c' t' ∧ K r c' t') := by
    refine XM.of (by decide) (Nat.le_of_ble_eq_true rfl) (fun κ hQ => ?_)
    show Wat κ 0 [(0, .ref 0)] [] (wM c t)
    unfold wp_X6_worstKnot at h
    refine xr_aload_n (pc := 0) κ 0 (x := 0) dX6_worstKnot_0 rfl rfl ?_
    refine xr_callV (pc := 1) κ [] kw_3_134 tg_X6_isFed (snd_X6_isFed  _ _ _ h) rfl (by decide) (by decide) (by decide) rfl (ci := 6) rfl rfl (Nat.le_of_ble_eq_true rfl) dX6_worstKnot_1 (fun v9 ω9 hk9 => ?_)
    obtain ⟨r1, c1_, t1_, rfl, rfl, h⟩ := hk9
    skip
    show Wat κ 4 [(0, .ref 0)] [.int r1] (wM c1_ t1_)
    refine xr_if_ne (pc := 4) κ (tgt := 10) dX6_worstKnot_4 (by decide) (fun c2 => ?_) (fun c2 => ?_)
    · have h := h.1 c2
      refine xr_aload_n (pc := 10) κ 0 (x := 0) dX6_worstKnot_10 rfl rfl ?_
      refine xr_aload_n (pc := 11) κ 0 (x := 0) dX6_worstKnot_11 rfl rfl ?_
      refine xr_get (pc := 12) κ xc6 (k := 0) (f := 6) (v := .int (c_pads c1_)) kw_3_29 (by decide) rfl (by decide) rfl dX6_worstKnot_12 ?_
      refine xr_iconst (pc := 15) κ (v := -1) dX6_worstKnot_15 (by decide) ?_
      refine xr_callV (pc := 16) κ [.int (c_pads c1_), .int (-1 : Int32)] kw_3_143 tg_X6_findResist (snd_X6_findResist _ _ _ _ _ h) rfl (by decide) (by decide) (by decide) rfl (ci := 6) rfl rfl (Nat.le_of_ble_eq_true rfl) dX6_worstKnot_16 (fun v9 ω9 hk9 => ?_)
      obtain ⟨c3_, t3_, rfl, rfl, h⟩ := hk9
      skip
      show Wat κ 19 [(0, .ref 0)] [] (wM c3_ t3_)
      refine xr_iconst (pc := 19) κ (v := 0) dX6_worstKnot_19 (by decide) ?_
      refine xr_istore_n (pc := 20) κ [1, 0] (lv' := [(0, .ref 0), (1, .int (0 : Int32))]) dX6_worstKnot_20 rfl (by decide) rfl ?_
      refine xr_iconst (pc := 21) κ (v := 1) dX6_worstKnot_21 (by decide) ?_
      refine xr_istore_n (pc := 22) κ [1, 2, 0] (lv' := [(0, .ref 0), (1, .int (0 : Int32)), (2, .int (1 : Int32))]) dX6_worstKnot_22 rfl (by decide) rfl ?_
      obtain ⟨n0, h⟩ := h
      exact snd_X6_worstKnot_23 κ K hQ n0 _ _ _ _ h
    · have h := h.2 c2
      refine xr_bipush (pc := 7) κ (v := -3) dX6_worstKnot_7 (by decide) ?_
      exact xr_iret (pc := 9) κ _ hQ dX6_worstKnot_9 ⟨_, _, _, rfl, rfl, h⟩
-- ChipVoltsModel.open(II)J, level 3
def wp_X6_open (w : Int32) (what : Int32) (c : CS) (t : MT) (K : Int64 → CS → MT → Prop) : Prop :=
    wp_X6_in w (0 : Int32) ((c_wires c) - (1 : Int32)) (fun r1 =>
      (r1 = 0 →
        K (-2 : Int64) c t) ∧
      (¬ r1 = 0 →
        wp_X6_in what (0 : Int32) (1 : Int32) (fun r3 =>
          (¬ r3 = 0 →
            ((c_pads c) = 0 →
              K (-3 : Int64) c t) ∧
            (¬ (c_pads c) = 0 →
              wp_X6_leadsTo (c_pads c) w c t (fun r6 c6_ t6_ =>
                (¬ r6 = 0 →
                  wp_X6_findResist (c_pads c6_) w c6_ t6_ (fun c8_ t8_ =>
                    wp_X6_mostFall c8_ t8_ (fun r9 c9_ t9_ =>
                      wp_X6_lowest r9 (m_under t9_) what (fun r10 =>
                        K r10 c9_ t9_)))) ∧
                (r6 = 0 →
                  K (-3 : Int64) c6_ t6_)))) ∧
          (r3 = 0 →
            K (-2 : Int64) c t))))
set_option maxHeartbeats 4000000 in
set_option maxRecDepth 100000 in
theorem snd_X6_open {l : Launch} (w : Int32) (what : Int32) (c : CS) (t : MT) (K : Int64 → CS → MT → Prop) (h : wp_X6_open w what c t K) : XM l xTM yX6_open cX6_open 3 (some .long) 3 [.ref 0, .int w, .int what] (wM c t) (fun v ω' => ∃ (r : Int64) (c' : CS) (t' : MT), v = some (.long r) ∧ ω' = wM c' t' ∧ K r c' t') := by
    refine XM.of (by decide) (Nat.le_of_ble_eq_true rfl) (fun κ hQ => ?_)
    show Wat κ 0 [(0, .ref 0), (1, .int w), (2, .int what)] [] (wM c t)
    unfold wp_X6_open at h
    refine xr_iload_n (pc := 0) κ 1 (x := w) dX6_open_0 rfl rfl ?_
    refine xr_iconst (pc := 1) κ (v := 0) dX6_open_1 (by decide) ?_
    refine xr_aload_n (pc := 2) κ 0 (x := 0) dX6_open_2 rfl rfl ?_
    refine xr_get (pc := 3) κ xc6 (k := 0) (f := 1) (v := .int (c_wires c)) kw_3_24 (by decide) rfl (by decide) rfl dX6_open_3 ?_
    refine xr_iconst (pc := 6) κ (v := 1) dX6_open_6 (by decide) ?_
    refine xr_isub (pc := 7) κ dX6_open_7 ?_
    refine xr_callS (pc := 8) κ [.int w, .int (0 : Int32), .int ((c_wires c) - (1 : Int32))] kw_3_106 tg_X6_in (snd_X6_in _ _ _ _ h) rfl (by decide) (by decide) (Nat.le_of_ble_eq_true rfl) dX6_open_8 (fun v9 ω9 hk9 => ?_)
    obtain ⟨r1, rfl, e9, h⟩ := hk9
    rw [e9]
    show Wat κ 11 [(0, .ref 0), (1, .int w), (2, .int what)] [.int r1] (wM c t)
    refine xr_if_eq (pc := 11) κ (tgt := 23) dX6_open_11 (by decide) (fun c2 => ?_) (fun c2 => ?_)
    · have h := h.1 c2
      refine xr_ldc2 (pc := 23) κ (v := -2) kw_3_133 dX6_open_23 ?_
      exact xr_lret (pc := 26) κ _ hQ dX6_open_26 ⟨_, _, _, rfl, rfl, h⟩
    · have h := h.2 c2
      refine xr_iload_n (pc := 14) κ 2 (x := what) dX6_open_14 rfl rfl ?_
      refine xr_iconst (pc := 15) κ (v := 0) dX6_open_15 (by decide) ?_
      refine xr_iconst (pc := 16) κ (v := 1) dX6_open_16 (by decide) ?_
      refine xr_callS (pc := 17) κ [.int what, .int (0 : Int32), .int (1 : Int32)] kw_3_106 tg_X6_in (snd_X6_in _ _ _ _ h) rfl (by decide) (by decide) (Nat.le_of_ble_eq_true rfl) dX6_open_17 (fun v9 ω9 hk9 => ?_)
      obtain ⟨r3, rfl, e9, h⟩ := hk9
      rw [e9]
      show Wat κ 20 [(0, .ref 0), (1, .int w), (2, .int what)] [.int r3] (wM c t)
      refine xr_if_ne (pc := 20) κ (tgt := 27) dX6_open_20 (by decide) (fun c4 => ?_) (fun c4 => ?_)
      · have h := h.1 c4
        refine xr_aload_n (pc := 27) κ 0 (x := 0) dX6_open_27 rfl rfl ?_
        refine xr_get (pc := 28) κ xc6 (k := 0) (f := 6) (v := .int (c_pads c)) kw_3_29 (by decide) rfl (by decide) rfl dX6_open_28 ?_
        refine xr_if_eq (pc := 31) κ (tgt := 46) dX6_open_31 (by decide) (fun c5 => ?_) (fun c5 => ?_)
        · have h := h.1 c5
          refine xr_ldc2 (pc := 46) κ (v := -3) kw_3_142 dX6_open_46 ?_
          exact xr_lret (pc := 49) κ _ hQ dX6_open_49 ⟨_, _, _, rfl, rfl, h⟩
        · have h := h.2 c5
          refine xr_aload_n (pc := 34) κ 0 (x := 0) dX6_open_34 rfl rfl ?_
          refine xr_aload_n (pc := 35) κ 0 (x := 0) dX6_open_35 rfl rfl ?_
          refine xr_get (pc := 36) κ xc6 (k := 0) (f := 6) (v := .int (c_pads c)) kw_3_29 (by decide) rfl (by decide) rfl dX6_open_36 ?_
          refine xr_iload_n (pc := 39) κ 1 (x := w) dX6_open_39 rfl rfl ?_
          refine xr_callV (pc := 40) κ [.int (c_pads c), .int w] kw_3_138 tg_X6_leadsTo (snd_X6_leadsTo _ _ _ _ _ h) rfl (by decide) (by decide) (by decide) rfl (ci := 6) rfl rfl (Nat.le_of_ble_eq_true rfl) dX6_open_40 (fun v9 ω9 hk9 => ?_)
          obtain ⟨r6, c6_, t6_, rfl, rfl, h⟩ := hk9
          skip
          show Wat κ 43 [(0, .ref 0), (1, .int w), (2, .int what)] [.int r6] (wM c6_ t6_)
          refine xr_if_ne (pc := 43) κ (tgt := 50) dX6_open_43 (by decide) (fun c7 => ?_) (fun c7 => ?_)
          · have h := h.1 c7
            refine xr_aload_n (pc := 50) κ 0 (x := 0) dX6_open_50 rfl rfl ?_
            refine xr_aload_n (pc := 51) κ 0 (x := 0) dX6_open_51 rfl rfl ?_
            refine xr_get (pc := 52) κ xc6 (k := 0) (f := 6) (v := .int (c_pads c6_)) kw_3_29 (by decide) rfl (by decide) rfl dX6_open_52 ?_
            refine xr_iload_n (pc := 55) κ 1 (x := w) dX6_open_55 rfl rfl ?_
            refine xr_callV (pc := 56) κ [.int (c_pads c6_), .int w] kw_3_143 tg_X6_findResist (snd_X6_findResist _ _ _ _ _ h) rfl (by decide) (by decide) (by decide) rfl (ci := 6) rfl rfl (Nat.le_of_ble_eq_true rfl) dX6_open_56 (fun v9 ω9 hk9 => ?_)
            obtain ⟨c8_, t8_, rfl, rfl, h⟩ := hk9
            skip
            show Wat κ 59 [(0, .ref 0), (1, .int w), (2, .int what)] [] (wM c8_ t8_)
            refine xr_aload_n (pc := 59) κ 0 (x := 0) dX6_open_59 rfl rfl ?_
            refine xr_aload_n (pc := 60) κ 0 (x := 0) dX6_open_60 rfl rfl ?_
            refine xr_get (pc := 61) κ xc6 (k := 0) (f := 7) (v := .ref 5) kw_3_30 (by decide) rfl (by decide) rfl dX6_open_61 ?_
            refine xr_callV (pc := 64) κ [.ref 5] kw_3_215 tg_X6_mostFall (snd_X6_mostFall  _ _ _ h) rfl (by decide) (by decide) (by decide) rfl (ci := 6) rfl rfl (Nat.le_of_ble_eq_true rfl) dX6_open_64 (fun v9 ω9 hk9 => ?_)
            obtain ⟨r9, c9_, t9_, rfl, rfl, h⟩ := hk9
            skip
            show Wat κ 67 [(0, .ref 0), (1, .int w), (2, .int what)] [.long r9] (wM c9_ t9_)
            refine xr_aload_n (pc := 67) κ 0 (x := 0) dX6_open_67 rfl rfl ?_
            refine xr_get (pc := 68) κ xc6 (k := 0) (f := 17) (v := .long (m_under t9_)) kw_3_40 (by decide) rfl (by decide) rfl dX6_open_68 ?_
            refine xr_iload_n (pc := 71) κ 2 (x := what) dX6_open_71 rfl rfl ?_
            refine xr_callS (pc := 72) κ [.long r9, .long (m_under t9_), .int what] kw_3_167 tg_X6_lowest (snd_X6_lowest _ _ _ _ h) rfl (by decide) (by decide) (Nat.le_of_ble_eq_true rfl) dX6_open_72 (fun v9 ω9 hk9 => ?_)
            obtain ⟨r10, rfl, e9, h⟩ := hk9
            rw [e9]
            show Wat κ 75 [(0, .ref 0), (1, .int w), (2, .int what)] [.long r10] (wM c9_ t9_)
            exact xr_lret (pc := 75) κ _ hQ dX6_open_75 ⟨_, _, _, rfl, rfl, h⟩
          · have h := h.2 c7
            refine xr_ldc2 (pc := 46) κ (v := -3) kw_3_142 dX6_open_46 ?_
            exact xr_lret (pc := 49) κ _ hQ dX6_open_49 ⟨_, _, _, rfl, rfl, h⟩
      · have h := h.2 c4
        refine xr_ldc2 (pc := 23) κ (v := -2) kw_3_133 dX6_open_23 ?_
        exact xr_lret (pc := 26) κ _ hQ dX6_open_26 ⟨_, _, _, rfl, rfl, h⟩
-- ChipVoltsModel.weakest()I, level 3
def nd_X6_weakest_112 (K : Int32 → CS → MT → Prop) (L51 : Int32 → Int64 → Int64 → Int32 → CS → MT → Prop) (v1 : Int32) (v2 : Int64) (v4 : Int64) (v6 : Int32) (c : CS) (t : MT) : Prop :=
    L51 v1 v2 v4 (v6 + 1) c t
set_option maxHeartbeats 4000000 in
set_option maxRecDepth 100000 in
theorem snd_X6_weakest_112 {l : Launch} (κ : XC l xTM cX6_weakest yX6_weakest.cls 9 (some .int) 3) (K : Int32 → CS → MT → Prop) (hQ : xRet κ (fun v ω' => ∃ (r : Int32) (c' : CS) (t' : MT), v = some (.int r) ∧ ω' = wM c' t' ∧ K r c' t')) (L51 : Int32 → Int64 → Int64 → Int32 → CS → MT → Prop) (hL51 : ∀ (v1 : Int32) (v2 : Int64) (v4 : Int64) (v6 : Int32) (c : CS) (t : MT), L51 v1 v2 v4 v6 c t → Wat κ 51 [(0, .ref 0), (1, .int v1), (2, .long v2), (4, .long v4), (6, .int v6)] [] (wM c t)) (v1 : Int32) (v2 : Int64) (v4 : Int64) (v6 : Int32) (c : CS) (t : MT) (h : nd_X6_weakest_112 K L51 v1 v2 v4 v6 c t) : Wat κ 112 [(0, .ref 0), (1, .int v1), (2, .long v2), (4, .long v4), (6, .int v6)] [] (wM c t) := by
    unfold nd_X6_weakest_112 at h
    refine xr_iinc (pc := 112) κ 4 [1, 2, 3, 4, 0] (lv' := [(0, .ref 0), (1, .int v1), (2, .long v2), (4, .long v4), (6, .int (v6 + 1))]) (x := v6) (v := v6 + 1) dX6_weakest_112 rfl rfl (by decide) rfl ?_
    refine xr_goto (pc := 115) κ (tgt := 51) dX6_weakest_115 (by decide) ?_
    exact hL51 _ _ _ _ _ _ h
def nd_X6_weakest_100 (K : Int32 → CS → MT → Prop) (L51 : Int32 → Int64 → Int64 → Int32 → CS → MT → Prop) (v6 : Int32) (v7 : Int64) (c : CS) (t : MT) : Prop :=
    nd_X6_weakest_112 K L51 v6 v7 (m_under t) v6 c t
set_option maxHeartbeats 4000000 in
set_option maxRecDepth 100000 in
theorem snd_X6_weakest_100 {l : Launch} (κ : XC l xTM cX6_weakest yX6_weakest.cls 9 (some .int) 3) (K : Int32 → CS → MT → Prop) (hQ : xRet κ (fun v ω' => ∃ (r : Int32) (c' : CS) (t' : MT), v = some (.int r) ∧ ω' = wM c' t' ∧ K r c' t')) (L51 : Int32 → Int64 → Int64 → Int32 → CS → MT → Prop) (hL51 : ∀ (v1 : Int32) (v2 : Int64) (v4 : Int64) (v6 : Int32) (c : CS) (t : MT), L51 v1 v2 v4 v6 c t → Wat κ 51 [(0, .ref 0), (1, .int v1), (2, .long v2), (4, .long v4), (6, .int v6)] [] (wM c t)) (v6 : Int32) (v7 : Int64) (c : CS) (t : MT) (h : nd_X6_weakest_100 K L51 v6 v7 c t) : Wat κ 100 [(0, .ref 0), (6, .int v6), (7, .long v7)] [] (wM c t) := by
    unfold nd_X6_weakest_100 at h
    refine xr_iload (pc := 100) κ 1 (x := v6) dX6_weakest_100 rfl ?_
    refine xr_istore_n (pc := 102) κ [1, 0, 2, 3] (lv' := [(0, .ref 0), (1, .int v6), (6, .int v6), (7, .long v7)]) dX6_weakest_102 rfl (by decide) rfl ?_
    refine xr_lload (pc := 103) κ 3 (x := v7) dX6_weakest_103 rfl ?_
    refine xr_lstore_n (pc := 105) κ [1, 2, 0, 3, 4] (lv' := [(0, .ref 0), (1, .int v6), (2, .long v7), (6, .int v6), (7, .long v7)]) dX6_weakest_105 rfl (by decide) rfl ?_
    refine xr_aload_n (pc := 106) κ 0 (x := 0) dX6_weakest_106 rfl rfl ?_
    refine xr_get (pc := 107) κ xc6 (k := 0) (f := 17) (v := .long (m_under t)) kw_3_40 (by decide) rfl (by decide) rfl dX6_weakest_107 ?_
    refine xr_lstore (pc := 110) κ [1, 2, 3, 0, 4, 5] (lv' := [(0, .ref 0), (1, .int v6), (2, .long v7), (4, .long (m_under t)), (6, .int v6), (7, .long v7)]) dX6_weakest_110 (by decide) rfl ?_
    refine xr_sub (pc := 112) κ [0, 1, 2, 3, 4] (lv' := [(0, .ref 0), (1, .int v6), (2, .long v7), (4, .long (m_under t)), (6, .int v6)]) rfl ?_
    exact snd_X6_weakest_112 κ K hQ _ hL51 _ _ _ _ _ _ h
def nd_X6_weakest_51 (K : Int32 → CS → MT → Prop) : Nat → Int32 → Int64 → Int64 → Int32 → CS → MT → Prop
  | 0 => fun _ _ _ _ _ _ => False
  | n + 1 => fun v1 v2 v4 v6 c t =>
    ((c_wires c) ≤ v6 →
      K v1 c t) ∧
    (¬ (c_wires c) ≤ v6 →
      wp_X6_findResist (c_pads c) v6 c t (fun c3_ t3_ =>
        wp_X6_mostFall c3_ t3_ (fun r4 c4_ t4_ =>
          (v1 = (-1 : Int32) →
            nd_X6_weakest_100 K (fun v1 v2 v4 v6 c t => nd_X6_weakest_51 K n v1 v2 v4 v6 c t) v6 r4 c4_ t4_) ∧
          (¬ v1 = (-1 : Int32) →
            ((r4 * v4) ≤ (v2 * (m_under t4_)) →
              nd_X6_weakest_112 K (fun v1 v2 v4 v6 c t => nd_X6_weakest_51 K n v1 v2 v4 v6 c t) v1 v2 v4 v6 c4_ t4_) ∧
            (¬ (r4 * v4) ≤ (v2 * (m_under t4_)) →
              nd_X6_weakest_100 K (fun v1 v2 v4 v6 c t => nd_X6_weakest_51 K n v1 v2 v4 v6 c t) v6 r4 c4_ t4_)))))
set_option maxHeartbeats 4000000 in
set_option maxRecDepth 100000 in
theorem snd_X6_weakest_51 {l : Launch} (κ : XC l xTM cX6_weakest yX6_weakest.cls 9 (some .int) 3) (K : Int32 → CS → MT → Prop) (hQ : xRet κ (fun v ω' => ∃ (r : Int32) (c' : CS) (t' : MT), v = some (.int r) ∧ ω' = wM c' t' ∧ K r c' t')) : ∀ (n : Nat) (v1 : Int32) (v2 : Int64) (v4 : Int64) (v6 : Int32) (c : CS) (t : MT), nd_X6_weakest_51 K n v1 v2 v4 v6 c t → Wat κ 51 [(0, .ref 0), (1, .int v1), (2, .long v2), (4, .long v4), (6, .int v6)] [] (wM c t) := by
  intro n
  induction n with
  | zero => intro v1 v2 v4 v6 c t h; exact h.elim
  | succ n ih =>
    intro v1 v2 v4 v6 c t h
    unfold nd_X6_weakest_51 at h
    refine xr_iload (pc := 51) κ 4 (x := v6) dX6_weakest_51 rfl ?_
    refine xr_aload_n (pc := 53) κ 0 (x := 0) dX6_weakest_53 rfl rfl ?_
    refine xr_get (pc := 54) κ xc6 (k := 0) (f := 1) (v := .int (c_wires c)) kw_3_24 (by decide) rfl (by decide) rfl dX6_weakest_54 ?_
    refine xr_icmp_ge (pc := 57) κ (tgt := 118) dX6_weakest_57 (by decide) (fun c2 => ?_) (fun c2 => ?_)
    · have h := h.1 c2
      refine xr_iload_n (pc := 118) κ 1 (x := v1) dX6_weakest_118 rfl rfl ?_
      exact xr_iret (pc := 119) κ _ hQ dX6_weakest_119 ⟨_, _, _, rfl, rfl, h⟩
    · have h := h.2 c2
      refine xr_aload_n (pc := 60) κ 0 (x := 0) dX6_weakest_60 rfl rfl ?_
      refine xr_aload_n (pc := 61) κ 0 (x := 0) dX6_weakest_61 rfl rfl ?_
      refine xr_get (pc := 62) κ xc6 (k := 0) (f := 6) (v := .int (c_pads c)) kw_3_29 (by decide) rfl (by decide) rfl dX6_weakest_62 ?_
      refine xr_iload (pc := 65) κ 4 (x := v6) dX6_weakest_65 rfl ?_
      refine xr_callV (pc := 67) κ [.int (c_pads c), .int v6] kw_3_143 tg_X6_findResist (snd_X6_findResist _ _ _ _ _ h) rfl (by decide) (by decide) (by decide) rfl (ci := 6) rfl rfl (Nat.le_of_ble_eq_true rfl) dX6_weakest_67 (fun v9 ω9 hk9 => ?_)
      obtain ⟨c3_, t3_, rfl, rfl, h⟩ := hk9
      skip
      show Wat κ 70 [(0, .ref 0), (1, .int v1), (2, .long v2), (4, .long v4), (6, .int v6)] [] (wM c3_ t3_)
      refine xr_aload_n (pc := 70) κ 0 (x := 0) dX6_weakest_70 rfl rfl ?_
      refine xr_aload_n (pc := 71) κ 0 (x := 0) dX6_weakest_71 rfl rfl ?_
      refine xr_get (pc := 72) κ xc6 (k := 0) (f := 7) (v := .ref 5) kw_3_30 (by decide) rfl (by decide) rfl dX6_weakest_72 ?_
      refine xr_callV (pc := 75) κ [.ref 5] kw_3_215 tg_X6_mostFall (snd_X6_mostFall  _ _ _ h) rfl (by decide) (by decide) (by decide) rfl (ci := 6) rfl rfl (Nat.le_of_ble_eq_true rfl) dX6_weakest_75 (fun v9 ω9 hk9 => ?_)
      obtain ⟨r4, c4_, t4_, rfl, rfl, h⟩ := hk9
      skip
      show Wat κ 78 [(0, .ref 0), (1, .int v1), (2, .long v2), (4, .long v4), (6, .int v6)] [.long r4] (wM c4_ t4_)
      refine xr_lstore (pc := 78) κ [1, 2, 3, 4, 5, 0] (lv' := [(0, .ref 0), (1, .int v1), (2, .long v2), (4, .long v4), (6, .int v6), (7, .long r4)]) dX6_weakest_78 (by decide) rfl ?_
      refine xr_iload_n (pc := 80) κ 1 (x := v1) dX6_weakest_80 rfl rfl ?_
      refine xr_iconst (pc := 81) κ (v := -1) dX6_weakest_81 (by decide) ?_
      refine xr_icmp_eq (pc := 82) κ (tgt := 100) dX6_weakest_82 (by decide) (fun c5 => ?_) (fun c5 => ?_)
      · have h := h.1 c5
        refine xr_sub (pc := 100) κ [0, 4, 5] (lv' := [(0, .ref 0), (6, .int v6), (7, .long r4)]) rfl ?_
        exact snd_X6_weakest_100 κ K hQ _ ih _ _ _ _ h
      · have h := h.2 c5
        refine xr_lload (pc := 85) κ 5 (x := r4) dX6_weakest_85 rfl ?_
        refine xr_lload (pc := 87) κ 3 (x := v4) dX6_weakest_87 rfl ?_
        refine xr_lmul (pc := 89) κ dX6_weakest_89 ?_
        refine xr_lload_n (pc := 90) κ 2 (x := v2) dX6_weakest_90 rfl rfl ?_
        refine xr_aload_n (pc := 91) κ 0 (x := 0) dX6_weakest_91 rfl rfl ?_
        refine xr_get (pc := 92) κ xc6 (k := 0) (f := 17) (v := .long (m_under t4_)) kw_3_40 (by decide) rfl (by decide) rfl dX6_weakest_92 ?_
        refine xr_lmul (pc := 95) κ dX6_weakest_95 ?_
        refine xr_lcmp_le (pc := 96) κ (tgt := 112) dX6_weakest_96 dX6_weakest_97 (by decide) (fun c6 => ?_) (fun c6 => ?_)
        · have h := h.1 c6
          refine xr_sub (pc := 112) κ [0, 1, 2, 3, 4] (lv' := [(0, .ref 0), (1, .int v1), (2, .long v2), (4, .long v4), (6, .int v6)]) rfl ?_
          exact snd_X6_weakest_112 κ K hQ _ ih _ _ _ _ _ _ h
        · have h := h.2 c6
          refine xr_sub (pc := 100) κ [0, 4, 5] (lv' := [(0, .ref 0), (6, .int v6), (7, .long r4)]) rfl ?_
          exact snd_X6_weakest_100 κ K hQ _ ih _ _ _ _ h
def nd_X6_weakest_39 (K : Int32 → CS → MT → Prop) (v6 : Int32) (c : CS) (t : MT) : Prop :=
    K v6 c t
set_option maxHeartbeats 4000000 in
set_option maxRecDepth 100000 in
theorem snd_X6_weakest_39 {l : Launch} (κ : XC l xTM cX6_weakest yX6_weakest.cls 9 (some .int) 3) (K : Int32 → CS → MT → Prop) (hQ : xRet κ (fun v ω' => ∃ (r : Int32) (c' : CS) (t' : MT), v = some (.int r) ∧ ω' = wM c' t' ∧ K r c' t')) (v6 : Int32) (c : CS) (t : MT) (h : nd_X6_weakest_39 K v6 c t) : Wat κ 39 [(6, .int v6)] [] (wM c t) := by
    unfold nd_X6_weakest_39 at h
    refine xr_iload (pc := 39) κ 0 (x := v6) dX6_weakest_39 rfl ?_
    exact xr_iret (pc := 41) κ _ hQ dX6_weakest_41 ⟨_, _, _, rfl, rfl, h⟩
def nd_X6_weakest_10 (K : Int32 → CS → MT → Prop) : Nat → Int32 → Int64 → Int64 → Int32 → CS → MT → Prop
  | 0 => fun _ _ _ _ _ _ => False
  | n + 1 => fun v1 v2 v4 v6 c t =>
    ((c_wires c) ≤ v6 →
      ∃ n51 : Nat, nd_X6_weakest_51 K n51 v1 v2 v4 (0 : Int32) c t) ∧
    (¬ (c_wires c) ≤ v6 →
      ((c_pads c) = 0 →
        nd_X6_weakest_39 K v6 c t) ∧
      (¬ (c_pads c) = 0 →
        wp_X6_leadsTo (c_pads c) v6 c t (fun r8 c8_ t8_ =>
          (¬ r8 = 0 →
            nd_X6_weakest_10 K n v1 v2 v4 (v6 + 1) c8_ t8_) ∧
          (r8 = 0 →
            nd_X6_weakest_39 K v6 c8_ t8_))))
set_option maxHeartbeats 4000000 in
set_option maxRecDepth 100000 in
theorem snd_X6_weakest_10 {l : Launch} (κ : XC l xTM cX6_weakest yX6_weakest.cls 9 (some .int) 3) (K : Int32 → CS → MT → Prop) (hQ : xRet κ (fun v ω' => ∃ (r : Int32) (c' : CS) (t' : MT), v = some (.int r) ∧ ω' = wM c' t' ∧ K r c' t')) : ∀ (n : Nat) (v1 : Int32) (v2 : Int64) (v4 : Int64) (v6 : Int32) (c : CS) (t : MT), nd_X6_weakest_10 K n v1 v2 v4 v6 c t → Wat κ 10 [(0, .ref 0), (1, .int v1), (2, .long v2), (4, .long v4), (6, .int v6)] [] (wM c t) := by
  intro n
  induction n with
  | zero => intro v1 v2 v4 v6 c t h; exact h.elim
  | succ n ih =>
    intro v1 v2 v4 v6 c t h
    unfold nd_X6_weakest_10 at h
    refine xr_iload (pc := 10) κ 4 (x := v6) dX6_weakest_10 rfl ?_
    refine xr_aload_n (pc := 12) κ 0 (x := 0) dX6_weakest_12 rfl rfl ?_
    refine xr_get (pc := 13) κ xc6 (k := 0) (f := 1) (v := .int (c_wires c)) kw_3_24 (by decide) rfl (by decide) rfl dX6_weakest_13 ?_
    refine xr_icmp_ge (pc := 16) κ (tgt := 48) dX6_weakest_16 (by decide) (fun c1 => ?_) (fun c1 => ?_)
    · have h := h.1 c1
      refine xr_iconst (pc := 48) κ (v := 0) dX6_weakest_48 (by decide) ?_
      refine xr_istore (pc := 49) κ [1, 2, 3, 4, 0] (lv' := [(0, .ref 0), (1, .int v1), (2, .long v2), (4, .long v4), (6, .int (0 : Int32))]) dX6_weakest_49 (by decide) rfl ?_
      obtain ⟨n0, h⟩ := h
      exact snd_X6_weakest_51 κ K hQ n0 _ _ _ _ _ _ h
    · have h := h.2 c1
      refine xr_aload_n (pc := 19) κ 0 (x := 0) dX6_weakest_19 rfl rfl ?_
      refine xr_get (pc := 20) κ xc6 (k := 0) (f := 6) (v := .int (c_pads c)) kw_3_29 (by decide) rfl (by decide) rfl dX6_weakest_20 ?_
      refine xr_if_eq (pc := 23) κ (tgt := 39) dX6_weakest_23 (by decide) (fun c7 => ?_) (fun c7 => ?_)
      · have h := h.1 c7
        refine xr_sub (pc := 39) κ [4] (lv' := [(6, .int v6)]) rfl ?_
        exact snd_X6_weakest_39 κ K hQ _ _ _ h
      · have h := h.2 c7
        refine xr_aload_n (pc := 26) κ 0 (x := 0) dX6_weakest_26 rfl rfl ?_
        refine xr_aload_n (pc := 27) κ 0 (x := 0) dX6_weakest_27 rfl rfl ?_
        refine xr_get (pc := 28) κ xc6 (k := 0) (f := 6) (v := .int (c_pads c)) kw_3_29 (by decide) rfl (by decide) rfl dX6_weakest_28 ?_
        refine xr_iload (pc := 31) κ 4 (x := v6) dX6_weakest_31 rfl ?_
        refine xr_callV (pc := 33) κ [.int (c_pads c), .int v6] kw_3_138 tg_X6_leadsTo (snd_X6_leadsTo _ _ _ _ _ h) rfl (by decide) (by decide) (by decide) rfl (ci := 6) rfl rfl (Nat.le_of_ble_eq_true rfl) dX6_weakest_33 (fun v9 ω9 hk9 => ?_)
        obtain ⟨r8, c8_, t8_, rfl, rfl, h⟩ := hk9
        skip
        show Wat κ 36 [(0, .ref 0), (1, .int v1), (2, .long v2), (4, .long v4), (6, .int v6)] [.int r8] (wM c8_ t8_)
        refine xr_if_ne (pc := 36) κ (tgt := 42) dX6_weakest_36 (by decide) (fun c9 => ?_) (fun c9 => ?_)
        · have h := h.1 c9
          refine xr_iinc (pc := 42) κ 4 [1, 2, 3, 4, 0] (lv' := [(0, .ref 0), (1, .int v1), (2, .long v2), (4, .long v4), (6, .int (v6 + 1))]) (x := v6) (v := v6 + 1) dX6_weakest_42 rfl rfl (by decide) rfl ?_
          refine xr_goto (pc := 45) κ (tgt := 10) dX6_weakest_45 (by decide) ?_
          exact ih _ _ _ _ _ _ h
        · have h := h.2 c9
          refine xr_sub (pc := 39) κ [4] (lv' := [(6, .int v6)]) rfl ?_
          exact snd_X6_weakest_39 κ K hQ _ _ _ h
def wp_X6_weakest (c : CS) (t : MT) (K : Int32 → CS → MT → Prop) : Prop :=
    ∃ n10 : Nat, nd_X6_weakest_10 K n10 (-1 : Int32) (0 : Int64) (1 : Int64) (0 : Int32) c t
set_option maxHeartbeats 4000000 in
set_option maxRecDepth 100000 in
theorem snd_X6_weakest {l : Launch} (c : CS) (t : MT) (K : Int32 → CS → MT → Prop) (h : wp_X6_weakest  c t K) : XM l xTM yX6_weakest cX6_weakest 9 (some .int) 3 [.ref 0] (wM c t) (fun v ω' => ∃ (r : Int32) (c' : CS) (t' : MT), v = some (.int r) ∧ ω' = wM c' t' ∧ K r c' t') := by
    refine XM.of (by decide) (Nat.le_of_ble_eq_true rfl) (fun κ hQ => ?_)
    show Wat κ 0 [(0, .ref 0)] [] (wM c t)
    unfold wp_X6_weakest at h
    refine xr_iconst (pc := 0) κ (v := -1) dX6_weakest_0 (by decide) ?_
    refine xr_istore_n (pc := 1) κ [1, 0] (lv' := [(0, .ref 0), (1, .int (-1 : Int32))]) dX6_weakest_1 rfl (by decide) rfl ?_
    refine xr_lconst (pc := 2) κ (v := 0) dX6_weakest_2 (by decide) ?_
    refine xr_lstore_n (pc := 3) κ [1, 2, 0] (lv' := [(0, .ref 0), (1, .int (-1 : Int32)), (2, .long (0 : Int64))]) dX6_weakest_3 rfl (by decide) rfl ?_
    refine xr_lconst (pc := 4) κ (v := 1) dX6_weakest_4 (by decide) ?_
    refine xr_lstore (pc := 5) κ [1, 2, 3, 0] (lv' := [(0, .ref 0), (1, .int (-1 : Int32)), (2, .long (0 : Int64)), (4, .long (1 : Int64))]) dX6_weakest_5 (by decide) rfl ?_
    refine xr_iconst (pc := 7) κ (v := 0) dX6_weakest_7 (by decide) ?_
    refine xr_istore (pc := 8) κ [1, 2, 3, 4, 0] (lv' := [(0, .ref 0), (1, .int (-1 : Int32)), (2, .long (0 : Int64)), (4, .long (1 : Int64)), (6, .int (0 : Int32))]) dX6_weakest_8 (by decide) rfl ?_
    obtain ⟨n0, h⟩ := h
    exact snd_X6_weakest_10 κ K hQ n0 _ _ _ _ _ _ h
-- ChipVoltsModel.shrunk(IIII)J, level 2
def wp_X6_shrunk (po : Int32) (a : Int32) (b : Int32) (what : Int32) (c : CS) (t : MT) (K : Int64 → CS → MT → Prop) : Prop :=
    wp_X6_in po (1 : Int32) (((1 : Int32) <<< ((c_n c) &&& 31)) - (1 : Int32)) (fun r1 =>
      (r1 = 0 →
        K (-2 : Int64) c t) ∧
      (¬ r1 = 0 →
        wp_X6_isKnot a c t (fun r3 c3_ t3_ =>
          (r3 = 0 →
            K (-2 : Int64) c3_ t3_) ∧
          (¬ r3 = 0 →
            wp_X6_isKnot b c3_ t3_ (fun r5 c5_ t5_ =>
              (r5 = 0 →
                K (-2 : Int64) c5_ t5_) ∧
              (¬ r5 = 0 →
                (a = b →
                  K (-2 : Int64) c5_ t5_) ∧
                (¬ a = b →
                  (((po >>> (a &&& 31)) &&& (1 : Int32)) = 0 →
                    K (-2 : Int64) c5_ t5_) ∧
                  (¬ ((po >>> (a &&& 31)) &&& (1 : Int32)) = 0 →
                    (((po >>> (b &&& 31)) &&& (1 : Int32)) = 0 →
                      K (-2 : Int64) c5_ t5_) ∧
                    (¬ ((po >>> (b &&& 31)) &&& (1 : Int32)) = 0 →
                      wp_X6_in what (0 : Int32) (1 : Int32) (fun r10 =>
                        (¬ r10 = 0 →
                          (¬ (po &&& (c_pads c5_)) = (c_pads c5_) →
                            K (-3 : Int64) c5_ t5_) ∧
                          ((po &&& (c_pads c5_)) = (c_pads c5_) →
                            wp_X6_leadsTo po (-1 : Int32) c5_ t5_ (fun r13 c13_ t13_ =>
                              (¬ r13 = 0 →
                                wp_X6_minor po a b (-1 : Int32) c13_ t13_ (fun r15 c15_ t15_ =>
                                  wp_X6_minor po (-1 : Int32) (-1 : Int32) (-1 : Int32) c15_ t15_ (fun r16 c16_ t16_ =>
                                    wp_X6_lowest (-r15) r16 what (fun r17 =>
                                      K r17 c16_ t16_)))) ∧
                              (r13 = 0 →
                                K (-3 : Int64) c13_ t13_)))) ∧
                        (r10 = 0 →
                          K (-2 : Int64) c5_ t5_)))))))))))
set_option maxHeartbeats 4000000 in
set_option maxRecDepth 100000 in
theorem snd_X6_shrunk {l : Launch} (po : Int32) (a : Int32) (b : Int32) (what : Int32) (c : CS) (t : MT) (K : Int64 → CS → MT → Prop) (h : wp_X6_shrunk po a b what c t K) : XM l xTM yX6_shrunk cX6_shrunk 7 (some .long) 2 [.ref 0, .int po, .int a, .int b, .int what] (wM c t) (fun v ω' => ∃ (r : Int64) (c' : CS) (t' : MT), v = some (.long r) ∧ ω' = wM c' t' ∧ K r c' t') := by
    refine XM.of (by decide) (Nat.le_of_ble_eq_true rfl) (fun κ hQ => ?_)
    show Wat κ 0 [(0, .ref 0), (1, .int po), (2, .int a), (3, .int b), (4, .int what)] [] (wM c t)
    unfold wp_X6_shrunk at h
    refine xr_iload_n (pc := 0) κ 1 (x := po) dX6_shrunk_0 rfl rfl ?_
    refine xr_iconst (pc := 1) κ (v := 1) dX6_shrunk_1 (by decide) ?_
    refine xr_iconst (pc := 2) κ (v := 1) dX6_shrunk_2 (by decide) ?_
    refine xr_aload_n (pc := 3) κ 0 (x := 0) dX6_shrunk_3 rfl rfl ?_
    refine xr_get (pc := 4) κ xc6 (k := 0) (f := 0) (v := .int (c_n c)) kw_3_23 (by decide) rfl (by decide) rfl dX6_shrunk_4 ?_
    refine xr_ishl (pc := 7) κ dX6_shrunk_7 ?_
    refine xr_iconst (pc := 8) κ (v := 1) dX6_shrunk_8 (by decide) ?_
    refine xr_isub (pc := 9) κ dX6_shrunk_9 ?_
    refine xr_callS (pc := 10) κ [.int po, .int (1 : Int32), .int (((1 : Int32) <<< ((c_n c) &&& 31)) - (1 : Int32))] kw_3_106 tg_X6_in (snd_X6_in _ _ _ _ h) rfl (by decide) (by decide) (Nat.le_of_ble_eq_true rfl) dX6_shrunk_10 (fun v9 ω9 hk9 => ?_)
    obtain ⟨r1, rfl, e9, h⟩ := hk9
    rw [e9]
    show Wat κ 13 [(0, .ref 0), (1, .int po), (2, .int a), (3, .int b), (4, .int what)] [.int r1] (wM c t)
    refine xr_if_eq (pc := 13) κ (tgt := 63) dX6_shrunk_13 (by decide) (fun c2 => ?_) (fun c2 => ?_)
    · have h := h.1 c2
      refine xr_ldc2 (pc := 63) κ (v := -2) kw_3_133 dX6_shrunk_63 ?_
      exact xr_lret (pc := 66) κ _ hQ dX6_shrunk_66 ⟨_, _, _, rfl, rfl, h⟩
    · have h := h.2 c2
      refine xr_aload_n (pc := 16) κ 0 (x := 0) dX6_shrunk_16 rfl rfl ?_
      refine xr_iload_n (pc := 17) κ 2 (x := a) dX6_shrunk_17 rfl rfl ?_
      refine xr_callV (pc := 18) κ [.int a] kw_3_113 tg_X6_isKnot (snd_X6_isKnot _ _ _ _ h) rfl (by decide) (by decide) (by decide) rfl (ci := 6) rfl rfl (Nat.le_of_ble_eq_true rfl) dX6_shrunk_18 (fun v9 ω9 hk9 => ?_)
      obtain ⟨r3, c3_, t3_, rfl, rfl, h⟩ := hk9
      skip
      show Wat κ 21 [(0, .ref 0), (1, .int po), (2, .int a), (3, .int b), (4, .int what)] [.int r3] (wM c3_ t3_)
      refine xr_if_eq (pc := 21) κ (tgt := 63) dX6_shrunk_21 (by decide) (fun c4 => ?_) (fun c4 => ?_)
      · have h := h.1 c4
        refine xr_ldc2 (pc := 63) κ (v := -2) kw_3_133 dX6_shrunk_63 ?_
        exact xr_lret (pc := 66) κ _ hQ dX6_shrunk_66 ⟨_, _, _, rfl, rfl, h⟩
      · have h := h.2 c4
        refine xr_aload_n (pc := 24) κ 0 (x := 0) dX6_shrunk_24 rfl rfl ?_
        refine xr_iload_n (pc := 25) κ 3 (x := b) dX6_shrunk_25 rfl rfl ?_
        refine xr_callV (pc := 26) κ [.int b] kw_3_113 tg_X6_isKnot (snd_X6_isKnot _ _ _ _ h) rfl (by decide) (by decide) (by decide) rfl (ci := 6) rfl rfl (Nat.le_of_ble_eq_true rfl) dX6_shrunk_26 (fun v9 ω9 hk9 => ?_)
        obtain ⟨r5, c5_, t5_, rfl, rfl, h⟩ := hk9
        skip
        show Wat κ 29 [(0, .ref 0), (1, .int po), (2, .int a), (3, .int b), (4, .int what)] [.int r5] (wM c5_ t5_)
        refine xr_if_eq (pc := 29) κ (tgt := 63) dX6_shrunk_29 (by decide) (fun c6 => ?_) (fun c6 => ?_)
        · have h := h.1 c6
          refine xr_ldc2 (pc := 63) κ (v := -2) kw_3_133 dX6_shrunk_63 ?_
          exact xr_lret (pc := 66) κ _ hQ dX6_shrunk_66 ⟨_, _, _, rfl, rfl, h⟩
        · have h := h.2 c6
          refine xr_iload_n (pc := 32) κ 2 (x := a) dX6_shrunk_32 rfl rfl ?_
          refine xr_iload_n (pc := 33) κ 3 (x := b) dX6_shrunk_33 rfl rfl ?_
          refine xr_icmp_eq (pc := 34) κ (tgt := 63) dX6_shrunk_34 (by decide) (fun c7 => ?_) (fun c7 => ?_)
          · have h := h.1 c7
            refine xr_ldc2 (pc := 63) κ (v := -2) kw_3_133 dX6_shrunk_63 ?_
            exact xr_lret (pc := 66) κ _ hQ dX6_shrunk_66 ⟨_, _, _, rfl, rfl, h⟩
          · have h := h.2 c7
            refine xr_iload_n (pc := 37) κ 1 (x := po) dX6_shrunk_37 rfl rfl ?_
            refine xr_iload_n (pc := 38) κ 2 (x := a) dX6_shrunk_38 rfl rfl ?_
            refine xr_ishr (pc := 39) κ dX6_shrunk_39 ?_
            refine xr_iconst (pc := 40) κ (v := 1) dX6_shrunk_40 (by decide) ?_
            refine xr_iand (pc := 41) κ dX6_shrunk_41 ?_
            refine xr_if_eq (pc := 42) κ (tgt := 63) dX6_shrunk_42 (by decide) (fun c8 => ?_) (fun c8 => ?_)
            · have h := h.1 c8
              refine xr_ldc2 (pc := 63) κ (v := -2) kw_3_133 dX6_shrunk_63 ?_
              exact xr_lret (pc := 66) κ _ hQ dX6_shrunk_66 ⟨_, _, _, rfl, rfl, h⟩
            · have h := h.2 c8
              refine xr_iload_n (pc := 45) κ 1 (x := po) dX6_shrunk_45 rfl rfl ?_
              refine xr_iload_n (pc := 46) κ 3 (x := b) dX6_shrunk_46 rfl rfl ?_
              refine xr_ishr (pc := 47) κ dX6_shrunk_47 ?_
              refine xr_iconst (pc := 48) κ (v := 1) dX6_shrunk_48 (by decide) ?_
              refine xr_iand (pc := 49) κ dX6_shrunk_49 ?_
              refine xr_if_eq (pc := 50) κ (tgt := 63) dX6_shrunk_50 (by decide) (fun c9 => ?_) (fun c9 => ?_)
              · have h := h.1 c9
                refine xr_ldc2 (pc := 63) κ (v := -2) kw_3_133 dX6_shrunk_63 ?_
                exact xr_lret (pc := 66) κ _ hQ dX6_shrunk_66 ⟨_, _, _, rfl, rfl, h⟩
              · have h := h.2 c9
                refine xr_iload (pc := 53) κ 4 (x := what) dX6_shrunk_53 rfl ?_
                refine xr_iconst (pc := 55) κ (v := 0) dX6_shrunk_55 (by decide) ?_
                refine xr_iconst (pc := 56) κ (v := 1) dX6_shrunk_56 (by decide) ?_
                refine xr_callS (pc := 57) κ [.int what, .int (0 : Int32), .int (1 : Int32)] kw_3_106 tg_X6_in (snd_X6_in _ _ _ _ h) rfl (by decide) (by decide) (Nat.le_of_ble_eq_true rfl) dX6_shrunk_57 (fun v9 ω9 hk9 => ?_)
                obtain ⟨r10, rfl, e9, h⟩ := hk9
                rw [e9]
                show Wat κ 60 [(0, .ref 0), (1, .int po), (2, .int a), (3, .int b), (4, .int what)] [.int r10] (wM c5_ t5_)
                refine xr_if_ne (pc := 60) κ (tgt := 67) dX6_shrunk_60 (by decide) (fun c11 => ?_) (fun c11 => ?_)
                · have h := h.1 c11
                  refine xr_iload_n (pc := 67) κ 1 (x := po) dX6_shrunk_67 rfl rfl ?_
                  refine xr_aload_n (pc := 68) κ 0 (x := 0) dX6_shrunk_68 rfl rfl ?_
                  refine xr_get (pc := 69) κ xc6 (k := 0) (f := 6) (v := .int (c_pads c5_)) kw_3_29 (by decide) rfl (by decide) rfl dX6_shrunk_69 ?_
                  refine xr_iand (pc := 72) κ dX6_shrunk_72 ?_
                  refine xr_aload_n (pc := 73) κ 0 (x := 0) dX6_shrunk_73 rfl rfl ?_
                  refine xr_get (pc := 74) κ xc6 (k := 0) (f := 6) (v := .int (c_pads c5_)) kw_3_29 (by decide) rfl (by decide) rfl dX6_shrunk_74 ?_
                  refine xr_icmp_ne (pc := 77) κ (tgt := 89) dX6_shrunk_77 (by decide) (fun c12 => ?_) (fun c12 => ?_)
                  · have h := h.1 c12
                    refine xr_ldc2 (pc := 89) κ (v := -3) kw_3_142 dX6_shrunk_89 ?_
                    exact xr_lret (pc := 92) κ _ hQ dX6_shrunk_92 ⟨_, _, _, rfl, rfl, h⟩
                  · have h := h.2 c12
                    refine xr_aload_n (pc := 80) κ 0 (x := 0) dX6_shrunk_80 rfl rfl ?_
                    refine xr_iload_n (pc := 81) κ 1 (x := po) dX6_shrunk_81 rfl rfl ?_
                    refine xr_iconst (pc := 82) κ (v := -1) dX6_shrunk_82 (by decide) ?_
                    refine xr_callV (pc := 83) κ [.int po, .int (-1 : Int32)] kw_3_138 tg_X6_leadsTo (snd_X6_leadsTo _ _ _ _ _ h) rfl (by decide) (by decide) (by decide) rfl (ci := 6) rfl rfl (Nat.le_of_ble_eq_true rfl) dX6_shrunk_83 (fun v9 ω9 hk9 => ?_)
                    obtain ⟨r13, c13_, t13_, rfl, rfl, h⟩ := hk9
                    skip
                    show Wat κ 86 [(0, .ref 0), (1, .int po), (2, .int a), (3, .int b), (4, .int what)] [.int r13] (wM c13_ t13_)
                    refine xr_if_ne (pc := 86) κ (tgt := 93) dX6_shrunk_86 (by decide) (fun c14 => ?_) (fun c14 => ?_)
                    · have h := h.1 c14
                      refine xr_aload_n (pc := 93) κ 0 (x := 0) dX6_shrunk_93 rfl rfl ?_
                      refine xr_iload_n (pc := 94) κ 1 (x := po) dX6_shrunk_94 rfl rfl ?_
                      refine xr_iload_n (pc := 95) κ 2 (x := a) dX6_shrunk_95 rfl rfl ?_
                      refine xr_iload_n (pc := 96) κ 3 (x := b) dX6_shrunk_96 rfl rfl ?_
                      refine xr_iconst (pc := 97) κ (v := -1) dX6_shrunk_97 (by decide) ?_
                      refine xr_callV (pc := 98) κ [.int po, .int a, .int b, .int (-1 : Int32)] kw_3_147 tg_X6_minor (snd_X6_minor _ _ _ _ _ _ _ h) rfl (by decide) (by decide) (by decide) rfl (ci := 6) rfl rfl (Nat.le_of_ble_eq_true rfl) dX6_shrunk_98 (fun v9 ω9 hk9 => ?_)
                      obtain ⟨r15, c15_, t15_, rfl, rfl, h⟩ := hk9
                      skip
                      show Wat κ 101 [(0, .ref 0), (1, .int po), (2, .int a), (3, .int b), (4, .int what)] [.long r15] (wM c15_ t15_)
                      refine xr_lneg (pc := 101) κ dX6_shrunk_101 ?_
                      refine xr_lstore (pc := 102) κ [1, 2, 3, 4, 5, 0] (lv' := [(0, .ref 0), (1, .int po), (2, .int a), (3, .int b), (4, .int what), (5, .long (-r15))]) dX6_shrunk_102 (by decide) rfl ?_
                      refine xr_lload (pc := 104) κ 5 (x := (-r15)) dX6_shrunk_104 rfl ?_
                      refine xr_aload_n (pc := 106) κ 0 (x := 0) dX6_shrunk_106 rfl rfl ?_
                      refine xr_iload_n (pc := 107) κ 1 (x := po) dX6_shrunk_107 rfl rfl ?_
                      refine xr_iconst (pc := 108) κ (v := -1) dX6_shrunk_108 (by decide) ?_
                      refine xr_iconst (pc := 109) κ (v := -1) dX6_shrunk_109 (by decide) ?_
                      refine xr_iconst (pc := 110) κ (v := -1) dX6_shrunk_110 (by decide) ?_
                      refine xr_callV (pc := 111) κ [.int po, .int (-1 : Int32), .int (-1 : Int32), .int (-1 : Int32)] kw_3_147 tg_X6_minor (snd_X6_minor _ _ _ _ _ _ _ h) rfl (by decide) (by decide) (by decide) rfl (ci := 6) rfl rfl (Nat.le_of_ble_eq_true rfl) dX6_shrunk_111 (fun v9 ω9 hk9 => ?_)
                      obtain ⟨r16, c16_, t16_, rfl, rfl, h⟩ := hk9
                      skip
                      show Wat κ 114 [(0, .ref 0), (1, .int po), (2, .int a), (3, .int b), (4, .int what), (5, .long (-r15))] [.long r16, .long (-r15)] (wM c16_ t16_)
                      refine xr_iload (pc := 114) κ 4 (x := what) dX6_shrunk_114 rfl ?_
                      refine xr_callS (pc := 116) κ [.long (-r15), .long r16, .int what] kw_3_167 tg_X6_lowest (snd_X6_lowest _ _ _ _ h) rfl (by decide) (by decide) (Nat.le_of_ble_eq_true rfl) dX6_shrunk_116 (fun v9 ω9 hk9 => ?_)
                      obtain ⟨r17, rfl, e9, h⟩ := hk9
                      rw [e9]
                      show Wat κ 119 [(0, .ref 0), (1, .int po), (2, .int a), (3, .int b), (4, .int what), (5, .long (-r15))] [.long r17] (wM c16_ t16_)
                      exact xr_lret (pc := 119) κ _ hQ dX6_shrunk_119 ⟨_, _, _, rfl, rfl, h⟩
                    · have h := h.2 c14
                      refine xr_ldc2 (pc := 89) κ (v := -3) kw_3_142 dX6_shrunk_89 ?_
                      exact xr_lret (pc := 92) κ _ hQ dX6_shrunk_92 ⟨_, _, _, rfl, rfl, h⟩
                · have h := h.2 c11
                  refine xr_ldc2 (pc := 63) κ (v := -2) kw_3_133 dX6_shrunk_63 ?_
                  exact xr_lret (pc := 66) κ _ hQ dX6_shrunk_66 ⟨_, _, _, rfl, rfl, h⟩
-- ChipVoltsModel.pads(I)I, level 3
def nd_X6_pads_109 (K : Int32 → CS → MT → Prop) (L30 : Int32 → Int32 → Int64 → Int64 → Int32 → CS → MT → Prop) (v1 : Int32) (v2 : Int32) (v3 : Int64) (v5 : Int64) (v7 : Int32) (c : CS) (t : MT) : Prop :=
    L30 v1 v2 v3 v5 (v7 + 1) c t
set_option maxHeartbeats 4000000 in
set_option maxRecDepth 100000 in
theorem snd_X6_pads_109 {l : Launch} (κ : XC l xTM cX6_pads yX6_pads.cls 10 (some .int) 3) (K : Int32 → CS → MT → Prop) (hQ : xRet κ (fun v ω' => ∃ (r : Int32) (c' : CS) (t' : MT), v = some (.int r) ∧ ω' = wM c' t' ∧ K r c' t')) (L30 : Int32 → Int32 → Int64 → Int64 → Int32 → CS → MT → Prop) (hL30 : ∀ (v1 : Int32) (v2 : Int32) (v3 : Int64) (v5 : Int64) (v7 : Int32) (c : CS) (t : MT), L30 v1 v2 v3 v5 v7 c t → Wat κ 30 [(0, .ref 0), (1, .int v1), (2, .int v2), (3, .long v3), (5, .long v5), (7, .int v7)] [] (wM c t)) (v1 : Int32) (v2 : Int32) (v3 : Int64) (v5 : Int64) (v7 : Int32) (c : CS) (t : MT) (h : nd_X6_pads_109 K L30 v1 v2 v3 v5 v7 c t) : Wat κ 109 [(0, .ref 0), (1, .int v1), (2, .int v2), (3, .long v3), (5, .long v5), (7, .int v7)] [] (wM c t) := by
    unfold nd_X6_pads_109 at h
    refine xr_iinc (pc := 109) κ 5 [1, 2, 3, 4, 5, 0] (lv' := [(0, .ref 0), (1, .int v1), (2, .int v2), (3, .long v3), (5, .long v5), (7, .int (v7 + 1))]) (x := v7) (v := v7 + 1) dX6_pads_109 rfl rfl (by decide) rfl ?_
    refine xr_goto (pc := 112) κ (tgt := 30) dX6_pads_112 (by decide) ?_
    exact hL30 _ _ _ _ _ _ _ h
def nd_X6_pads_97 (K : Int32 → CS → MT → Prop) (L30 : Int32 → Int32 → Int64 → Int64 → Int32 → CS → MT → Prop) (v1 : Int32) (v7 : Int32) (v8 : Int64) (c : CS) (t : MT) : Prop :=
    nd_X6_pads_109 K L30 v1 v7 v8 (m_under t) v7 c t
set_option maxHeartbeats 4000000 in
set_option maxRecDepth 100000 in
theorem snd_X6_pads_97 {l : Launch} (κ : XC l xTM cX6_pads yX6_pads.cls 10 (some .int) 3) (K : Int32 → CS → MT → Prop) (hQ : xRet κ (fun v ω' => ∃ (r : Int32) (c' : CS) (t' : MT), v = some (.int r) ∧ ω' = wM c' t' ∧ K r c' t')) (L30 : Int32 → Int32 → Int64 → Int64 → Int32 → CS → MT → Prop) (hL30 : ∀ (v1 : Int32) (v2 : Int32) (v3 : Int64) (v5 : Int64) (v7 : Int32) (c : CS) (t : MT), L30 v1 v2 v3 v5 v7 c t → Wat κ 30 [(0, .ref 0), (1, .int v1), (2, .int v2), (3, .long v3), (5, .long v5), (7, .int v7)] [] (wM c t)) (v1 : Int32) (v7 : Int32) (v8 : Int64) (c : CS) (t : MT) (h : nd_X6_pads_97 K L30 v1 v7 v8 c t) : Wat κ 97 [(0, .ref 0), (1, .int v1), (7, .int v7), (8, .long v8)] [] (wM c t) := by
    unfold nd_X6_pads_97 at h
    refine xr_iload (pc := 97) κ 2 (x := v7) dX6_pads_97 rfl ?_
    refine xr_istore_n (pc := 99) κ [1, 2, 0, 3, 4] (lv' := [(0, .ref 0), (1, .int v1), (2, .int v7), (7, .int v7), (8, .long v8)]) dX6_pads_99 rfl (by decide) rfl ?_
    refine xr_lload (pc := 100) κ 4 (x := v8) dX6_pads_100 rfl ?_
    refine xr_lstore_n (pc := 102) κ [1, 2, 3, 0, 4, 5] (lv' := [(0, .ref 0), (1, .int v1), (2, .int v7), (3, .long v8), (7, .int v7), (8, .long v8)]) dX6_pads_102 rfl (by decide) rfl ?_
    refine xr_aload_n (pc := 103) κ 0 (x := 0) dX6_pads_103 rfl rfl ?_
    refine xr_get (pc := 104) κ xc6 (k := 0) (f := 17) (v := .long (m_under t)) kw_3_40 (by decide) rfl (by decide) rfl dX6_pads_104 ?_
    refine xr_lstore (pc := 107) κ [1, 2, 3, 4, 0, 5, 6] (lv' := [(0, .ref 0), (1, .int v1), (2, .int v7), (3, .long v8), (5, .long (m_under t)), (7, .int v7), (8, .long v8)]) dX6_pads_107 (by decide) rfl ?_
    refine xr_sub (pc := 109) κ [0, 1, 2, 3, 4, 5] (lv' := [(0, .ref 0), (1, .int v1), (2, .int v7), (3, .long v8), (5, .long (m_under t)), (7, .int v7)]) rfl ?_
    exact snd_X6_pads_109 κ K hQ _ hL30 _ _ _ _ _ _ _ h
def nd_X6_pads_30 (K : Int32 → CS → MT → Prop) : Nat → Int32 → Int32 → Int64 → Int64 → Int32 → CS → MT → Prop
  | 0 => fun _ _ _ _ _ _ _ => False
  | n + 1 => fun v1 v2 v3 v5 v7 c t =>
    (((1 : Int32) <<< ((c_n c) &&& 31)) ≤ v7 →
      (¬ v2 = (-1 : Int32) →
        K v2 c t) ∧
      (v2 = (-1 : Int32) →
        K (-3 : Int32) c t)) ∧
    (¬ ((1 : Int32) <<< ((c_n c) &&& 31)) ≤ v7 →
      wp_X6_bits v7 (fun r6 =>
        (¬ r6 = v1 →
          nd_X6_pads_109 K (fun v1 v2 v3 v5 v7 c t => nd_X6_pads_30 K n v1 v2 v3 v5 v7 c t) v1 v2 v3 v5 v7 c t) ∧
        (r6 = v1 →
          wp_X6_leadsTo v7 (-1 : Int32) c t (fun r8 c8_ t8_ =>
            (r8 = 0 →
              nd_X6_pads_109 K (fun v1 v2 v3 v5 v7 c t => nd_X6_pads_30 K n v1 v2 v3 v5 v7 c t) v1 v2 v3 v5 v7 c8_ t8_) ∧
            (¬ r8 = 0 →
              wp_X6_findResist v7 (-1 : Int32) c8_ t8_ (fun c10_ t10_ =>
                wp_X6_mostFall c10_ t10_ (fun r11 c11_ t11_ =>
                  (v2 = (-1 : Int32) →
                    nd_X6_pads_97 K (fun v1 v2 v3 v5 v7 c t => nd_X6_pads_30 K n v1 v2 v3 v5 v7 c t) v1 v7 r11 c11_ t11_) ∧
                  (¬ v2 = (-1 : Int32) →
                    ((v3 * (m_under t11_)) ≤ (r11 * v5) →
                      nd_X6_pads_109 K (fun v1 v2 v3 v5 v7 c t => nd_X6_pads_30 K n v1 v2 v3 v5 v7 c t) v1 v2 v3 v5 v7 c11_ t11_) ∧
                    (¬ (v3 * (m_under t11_)) ≤ (r11 * v5) →
                      nd_X6_pads_97 K (fun v1 v2 v3 v5 v7 c t => nd_X6_pads_30 K n v1 v2 v3 v5 v7 c t) v1 v7 r11 c11_ t11_)))))))))
set_option maxHeartbeats 4000000 in
set_option maxRecDepth 100000 in
theorem snd_X6_pads_30 {l : Launch} (κ : XC l xTM cX6_pads yX6_pads.cls 10 (some .int) 3) (K : Int32 → CS → MT → Prop) (hQ : xRet κ (fun v ω' => ∃ (r : Int32) (c' : CS) (t' : MT), v = some (.int r) ∧ ω' = wM c' t' ∧ K r c' t')) : ∀ (n : Nat) (v1 : Int32) (v2 : Int32) (v3 : Int64) (v5 : Int64) (v7 : Int32) (c : CS) (t : MT), nd_X6_pads_30 K n v1 v2 v3 v5 v7 c t → Wat κ 30 [(0, .ref 0), (1, .int v1), (2, .int v2), (3, .long v3), (5, .long v5), (7, .int v7)] [] (wM c t) := by
  intro n
  induction n with
  | zero => intro v1 v2 v3 v5 v7 c t h; exact h.elim
  | succ n ih =>
    intro v1 v2 v3 v5 v7 c t h
    unfold nd_X6_pads_30 at h
    refine xr_iload (pc := 30) κ 5 (x := v7) dX6_pads_30 rfl ?_
    refine xr_iconst (pc := 32) κ (v := 1) dX6_pads_32 (by decide) ?_
    refine xr_aload_n (pc := 33) κ 0 (x := 0) dX6_pads_33 rfl rfl ?_
    refine xr_get (pc := 34) κ xc6 (k := 0) (f := 0) (v := .int (c_n c)) kw_3_23 (by decide) rfl (by decide) rfl dX6_pads_34 ?_
    refine xr_ishl (pc := 37) κ dX6_pads_37 ?_
    refine xr_icmp_ge (pc := 38) κ (tgt := 115) dX6_pads_38 (by decide) (fun c4 => ?_) (fun c4 => ?_)
    · have h := h.1 c4
      refine xr_iload_n (pc := 115) κ 2 (x := v2) dX6_pads_115 rfl rfl ?_
      refine xr_iconst (pc := 116) κ (v := -1) dX6_pads_116 (by decide) ?_
      refine xr_icmp_ne (pc := 117) κ (tgt := 125) dX6_pads_117 (by decide) (fun c5 => ?_) (fun c5 => ?_)
      · have h := h.1 c5
        refine xr_iload_n (pc := 125) κ 2 (x := v2) dX6_pads_125 rfl rfl ?_
        exact xr_iret (pc := 126) κ _ hQ dX6_pads_126 ⟨_, _, _, rfl, rfl, h⟩
      · have h := h.2 c5
        refine xr_bipush (pc := 120) κ (v := -3) dX6_pads_120 (by decide) ?_
        refine xr_goto (pc := 122) κ (tgt := 126) dX6_pads_122 (by decide) ?_
        exact xr_iret (pc := 126) κ _ hQ dX6_pads_126 ⟨_, _, _, rfl, rfl, h⟩
    · have h := h.2 c4
      refine xr_iload (pc := 41) κ 5 (x := v7) dX6_pads_41 rfl ?_
      refine xr_callS (pc := 43) κ [.int v7] kw_3_231 tg_X6_bits (snd_X6_bits _ _ h) rfl (by decide) (by decide) (Nat.le_of_ble_eq_true rfl) dX6_pads_43 (fun v9 ω9 hk9 => ?_)
      obtain ⟨r6, rfl, e9, h⟩ := hk9
      rw [e9]
      show Wat κ 46 [(0, .ref 0), (1, .int v1), (2, .int v2), (3, .long v3), (5, .long v5), (7, .int v7)] [.int r6] (wM c t)
      refine xr_iload_n (pc := 46) κ 1 (x := v1) dX6_pads_46 rfl rfl ?_
      refine xr_icmp_ne (pc := 47) κ (tgt := 109) dX6_pads_47 (by decide) (fun c7 => ?_) (fun c7 => ?_)
      · have h := h.1 c7
        exact snd_X6_pads_109 κ K hQ _ ih _ _ _ _ _ _ _ h
      · have h := h.2 c7
        refine xr_aload_n (pc := 50) κ 0 (x := 0) dX6_pads_50 rfl rfl ?_
        refine xr_iload (pc := 51) κ 5 (x := v7) dX6_pads_51 rfl ?_
        refine xr_iconst (pc := 53) κ (v := -1) dX6_pads_53 (by decide) ?_
        refine xr_callV (pc := 54) κ [.int v7, .int (-1 : Int32)] kw_3_138 tg_X6_leadsTo (snd_X6_leadsTo _ _ _ _ _ h) rfl (by decide) (by decide) (by decide) rfl (ci := 6) rfl rfl (Nat.le_of_ble_eq_true rfl) dX6_pads_54 (fun v9 ω9 hk9 => ?_)
        obtain ⟨r8, c8_, t8_, rfl, rfl, h⟩ := hk9
        skip
        show Wat κ 57 [(0, .ref 0), (1, .int v1), (2, .int v2), (3, .long v3), (5, .long v5), (7, .int v7)] [.int r8] (wM c8_ t8_)
        refine xr_if_eq (pc := 57) κ (tgt := 109) dX6_pads_57 (by decide) (fun c9 => ?_) (fun c9 => ?_)
        · have h := h.1 c9
          exact snd_X6_pads_109 κ K hQ _ ih _ _ _ _ _ _ _ h
        · have h := h.2 c9
          refine xr_aload_n (pc := 60) κ 0 (x := 0) dX6_pads_60 rfl rfl ?_
          refine xr_iload (pc := 61) κ 5 (x := v7) dX6_pads_61 rfl ?_
          refine xr_iconst (pc := 63) κ (v := -1) dX6_pads_63 (by decide) ?_
          refine xr_callV (pc := 64) κ [.int v7, .int (-1 : Int32)] kw_3_143 tg_X6_findResist (snd_X6_findResist _ _ _ _ _ h) rfl (by decide) (by decide) (by decide) rfl (ci := 6) rfl rfl (Nat.le_of_ble_eq_true rfl) dX6_pads_64 (fun v9 ω9 hk9 => ?_)
          obtain ⟨c10_, t10_, rfl, rfl, h⟩ := hk9
          skip
          show Wat κ 67 [(0, .ref 0), (1, .int v1), (2, .int v2), (3, .long v3), (5, .long v5), (7, .int v7)] [] (wM c10_ t10_)
          refine xr_aload_n (pc := 67) κ 0 (x := 0) dX6_pads_67 rfl rfl ?_
          refine xr_aload_n (pc := 68) κ 0 (x := 0) dX6_pads_68 rfl rfl ?_
          refine xr_get (pc := 69) κ xc6 (k := 0) (f := 7) (v := .ref 5) kw_3_30 (by decide) rfl (by decide) rfl dX6_pads_69 ?_
          refine xr_callV (pc := 72) κ [.ref 5] kw_3_215 tg_X6_mostFall (snd_X6_mostFall  _ _ _ h) rfl (by decide) (by decide) (by decide) rfl (ci := 6) rfl rfl (Nat.le_of_ble_eq_true rfl) dX6_pads_72 (fun v9 ω9 hk9 => ?_)
          obtain ⟨r11, c11_, t11_, rfl, rfl, h⟩ := hk9
          skip
          show Wat κ 75 [(0, .ref 0), (1, .int v1), (2, .int v2), (3, .long v3), (5, .long v5), (7, .int v7)] [.long r11] (wM c11_ t11_)
          refine xr_lstore (pc := 75) κ [1, 2, 3, 4, 5, 6, 0] (lv' := [(0, .ref 0), (1, .int v1), (2, .int v2), (3, .long v3), (5, .long v5), (7, .int v7), (8, .long r11)]) dX6_pads_75 (by decide) rfl ?_
          refine xr_iload_n (pc := 77) κ 2 (x := v2) dX6_pads_77 rfl rfl ?_
          refine xr_iconst (pc := 78) κ (v := -1) dX6_pads_78 (by decide) ?_
          refine xr_icmp_eq (pc := 79) κ (tgt := 97) dX6_pads_79 (by decide) (fun c12 => ?_) (fun c12 => ?_)
          · have h := h.1 c12
            refine xr_sub (pc := 97) κ [0, 1, 5, 6] (lv' := [(0, .ref 0), (1, .int v1), (7, .int v7), (8, .long r11)]) rfl ?_
            exact snd_X6_pads_97 κ K hQ _ ih _ _ _ _ _ h
          · have h := h.2 c12
            refine xr_lload (pc := 82) κ 6 (x := r11) dX6_pads_82 rfl ?_
            refine xr_lload (pc := 84) κ 4 (x := v5) dX6_pads_84 rfl ?_
            refine xr_lmul (pc := 86) κ dX6_pads_86 ?_
            refine xr_lload_n (pc := 87) κ 3 (x := v3) dX6_pads_87 rfl rfl ?_
            refine xr_aload_n (pc := 88) κ 0 (x := 0) dX6_pads_88 rfl rfl ?_
            refine xr_get (pc := 89) κ xc6 (k := 0) (f := 17) (v := .long (m_under t11_)) kw_3_40 (by decide) rfl (by decide) rfl dX6_pads_89 ?_
            refine xr_lmul (pc := 92) κ dX6_pads_92 ?_
            refine xr_lcmp_ge (pc := 93) κ (tgt := 109) dX6_pads_93 dX6_pads_94 (by decide) (fun c13 => ?_) (fun c13 => ?_)
            · have h := h.1 c13
              refine xr_sub (pc := 109) κ [0, 1, 2, 3, 4, 5] (lv' := [(0, .ref 0), (1, .int v1), (2, .int v2), (3, .long v3), (5, .long v5), (7, .int v7)]) rfl ?_
              exact snd_X6_pads_109 κ K hQ _ ih _ _ _ _ _ _ _ h
            · have h := h.2 c13
              refine xr_sub (pc := 97) κ [0, 1, 5, 6] (lv' := [(0, .ref 0), (1, .int v1), (7, .int v7), (8, .long r11)]) rfl ?_
              exact snd_X6_pads_97 κ K hQ _ ih _ _ _ _ _ h
def wp_X6_pads (j : Int32) (c : CS) (t : MT) (K : Int32 → CS → MT → Prop) : Prop :=
    wp_X6_in j (1 : Int32) (3 : Int32) (fun r1 =>
      (r1 = 0 →
        K (-2 : Int32) c t) ∧
      (¬ r1 = 0 →
        (j ≤ (c_n c) →
          ∃ n30 : Nat, nd_X6_pads_30 K n30 j (-1 : Int32) (0 : Int64) (1 : Int64) (1 : Int32) c t) ∧
        (¬ j ≤ (c_n c) →
          K (-2 : Int32) c t)))
set_option maxHeartbeats 4000000 in
set_option maxRecDepth 100000 in
theorem snd_X6_pads {l : Launch} (j : Int32) (c : CS) (t : MT) (K : Int32 → CS → MT → Prop) (h : wp_X6_pads j c t K) : XM l xTM yX6_pads cX6_pads 10 (some .int) 3 [.ref 0, .int j] (wM c t) (fun v ω' => ∃ (r : Int32) (c' : CS) (t' : MT), v = some (.int r) ∧ ω' = wM c' t' ∧ K r c' t') := by
    refine XM.of (by decide) (Nat.le_of_ble_eq_true rfl) (fun κ hQ => ?_)
    show Wat κ 0 [(0, .ref 0), (1, .int j)] [] (wM c t)
    unfold wp_X6_pads at h
    refine xr_iload_n (pc := 0) κ 1 (x := j) dX6_pads_0 rfl rfl ?_
    refine xr_iconst (pc := 1) κ (v := 1) dX6_pads_1 (by decide) ?_
    refine xr_iconst (pc := 2) κ (v := 3) dX6_pads_2 (by decide) ?_
    refine xr_callS (pc := 3) κ [.int j, .int (1 : Int32), .int (3 : Int32)] kw_3_106 tg_X6_in (snd_X6_in _ _ _ _ h) rfl (by decide) (by decide) (Nat.le_of_ble_eq_true rfl) dX6_pads_3 (fun v9 ω9 hk9 => ?_)
    obtain ⟨r1, rfl, e9, h⟩ := hk9
    rw [e9]
    show Wat κ 6 [(0, .ref 0), (1, .int j)] [.int r1] (wM c t)
    refine xr_if_eq (pc := 6) κ (tgt := 17) dX6_pads_6 (by decide) (fun c2 => ?_) (fun c2 => ?_)
    · have h := h.1 c2
      refine xr_bipush (pc := 17) κ (v := -2) dX6_pads_17 (by decide) ?_
      exact xr_iret (pc := 19) κ _ hQ dX6_pads_19 ⟨_, _, _, rfl, rfl, h⟩
    · have h := h.2 c2
      refine xr_iload_n (pc := 9) κ 1 (x := j) dX6_pads_9 rfl rfl ?_
      refine xr_aload_n (pc := 10) κ 0 (x := 0) dX6_pads_10 rfl rfl ?_
      refine xr_get (pc := 11) κ xc6 (k := 0) (f := 0) (v := .int (c_n c)) kw_3_23 (by decide) rfl (by decide) rfl dX6_pads_11 ?_
      refine xr_icmp_le (pc := 14) κ (tgt := 20) dX6_pads_14 (by decide) (fun c3 => ?_) (fun c3 => ?_)
      · have h := h.1 c3
        refine xr_iconst (pc := 20) κ (v := -1) dX6_pads_20 (by decide) ?_
        refine xr_istore_n (pc := 21) κ [1, 2, 0] (lv' := [(0, .ref 0), (1, .int j), (2, .int (-1 : Int32))]) dX6_pads_21 rfl (by decide) rfl ?_
        refine xr_lconst (pc := 22) κ (v := 0) dX6_pads_22 (by decide) ?_
        refine xr_lstore_n (pc := 23) κ [1, 2, 3, 0] (lv' := [(0, .ref 0), (1, .int j), (2, .int (-1 : Int32)), (3, .long (0 : Int64))]) dX6_pads_23 rfl (by decide) rfl ?_
        refine xr_lconst (pc := 24) κ (v := 1) dX6_pads_24 (by decide) ?_
        refine xr_lstore (pc := 25) κ [1, 2, 3, 4, 0] (lv' := [(0, .ref 0), (1, .int j), (2, .int (-1 : Int32)), (3, .long (0 : Int64)), (5, .long (1 : Int64))]) dX6_pads_25 (by decide) rfl ?_
        refine xr_iconst (pc := 27) κ (v := 1) dX6_pads_27 (by decide) ?_
        refine xr_istore (pc := 28) κ [1, 2, 3, 4, 5, 0] (lv' := [(0, .ref 0), (1, .int j), (2, .int (-1 : Int32)), (3, .long (0 : Int64)), (5, .long (1 : Int64)), (7, .int (1 : Int32))]) dX6_pads_28 (by decide) rfl ?_
        obtain ⟨n0, h⟩ := h
        exact snd_X6_pads_30 κ K hQ n0 _ _ _ _ _ _ _ h
      · have h := h.2 c3
        refine xr_bipush (pc := 17) κ (v := -2) dX6_pads_17 (by decide) ?_
        exact xr_iret (pc := 19) κ _ hQ dX6_pads_19 ⟨_, _, _, rfl, rfl, h⟩
-- ChipVoltsModel.isAhead(I)Z, level 0
def nd_X6_isAhead_45 (K : Int32 → CS → MT → Prop) : Nat → Int32 → CS → MT → Prop
  | 0 => fun _ _ _ => False
  | n + 1 => fun v3 c t =>
    ((c_wires c) ≤ v3 →
      K (0 : Int32) c t) ∧
    (¬ (c_wires c) ≤ v3 →
      vp_in v3 12 ∧
      vp_in v3 12 ∧
      ((m_more t v3.toNatClampNeg) = (m_bestMore t v3.toNatClampNeg) →
        nd_X6_isAhead_45 K n (v3 + 1) c t) ∧
      (¬ (m_more t v3.toNatClampNeg) = (m_bestMore t v3.toNatClampNeg) →
        vp_in v3 12 ∧
        vp_in v3 12 ∧
        ((m_more t v3.toNatClampNeg) ≤ (m_bestMore t v3.toNatClampNeg) →
          K (0 : Int32) c t) ∧
        (¬ (m_more t v3.toNatClampNeg) ≤ (m_bestMore t v3.toNatClampNeg) →
          K (1 : Int32) c t)))
set_option maxHeartbeats 4000000 in
set_option maxRecDepth 100000 in
theorem snd_X6_isAhead_45 {l : Launch} (κ : XC l xTM cX6_isAhead yX6_isAhead.cls 4 (some .boolean) 0) (K : Int32 → CS → MT → Prop) (hQ : xRet κ (fun v ω' => ∃ (r : Int32) (c' : CS) (t' : MT), v = some (.int r) ∧ ω' = wM c' t' ∧ K r c' t')) : ∀ (n : Nat) (v3 : Int32) (c : CS) (t : MT), nd_X6_isAhead_45 K n v3 c t → Wat κ 45 [(0, .ref 0), (3, .int v3)] [] (wM c t) := by
  intro n
  induction n with
  | zero => intro v3 c t h; exact h.elim
  | succ n ih =>
    intro v3 c t h
    unfold nd_X6_isAhead_45 at h
    refine xr_iload_n (pc := 45) κ 1 (x := v3) dX6_isAhead_45 rfl rfl ?_
    refine xr_aload_n (pc := 46) κ 0 (x := 0) dX6_isAhead_46 rfl rfl ?_
    refine xr_get (pc := 47) κ xc6 (k := 0) (f := 1) (v := .int (c_wires c)) kw_3_24 (by decide) rfl (by decide) rfl dX6_isAhead_47 ?_
    refine xr_icmp_ge (pc := 50) κ (tgt := 95) dX6_isAhead_50 (by decide) (fun c3 => ?_) (fun c3 => ?_)
    · have h := h.1 c3
      refine xr_iconst (pc := 95) κ (v := 0) dX6_isAhead_95 (by decide) ?_
      exact xr_zret (pc := 96) κ _ hQ rfl dX6_isAhead_96 ⟨_, _, _, rfl, rfl, h⟩
    · have h := h.2 c3
      refine xr_aload_n (pc := 53) κ 0 (x := 0) dX6_isAhead_53 rfl rfl ?_
      refine xr_get (pc := 54) κ xc6 (k := 0) (f := 20) (v := .ref 14) kw_3_43 (by decide) rfl (by decide) rfl dX6_isAhead_54 ?_
      refine xr_iload_n (pc := 57) κ 1 (x := v3) dX6_isAhead_57 rfl rfl ?_
      obtain ⟨i4, h⟩ := h
      refine xr_iald (pc := 58) κ (k := 14) (n := 12) (f := m_more t) (by decide) rfl rfl i4 dX6_isAhead_58 ?_
      refine xr_aload_n (pc := 59) κ 0 (x := 0) dX6_isAhead_59 rfl rfl ?_
      refine xr_get (pc := 60) κ xc6 (k := 0) (f := 21) (v := .ref 15) kw_3_44 (by decide) rfl (by decide) rfl dX6_isAhead_60 ?_
      refine xr_iload_n (pc := 63) κ 1 (x := v3) dX6_isAhead_63 rfl rfl ?_
      obtain ⟨i5, h⟩ := h
      refine xr_iald (pc := 64) κ (k := 15) (n := 12) (f := m_bestMore t) (by decide) rfl rfl i5 dX6_isAhead_64 ?_
      refine xr_icmp_eq (pc := 65) κ (tgt := 89) dX6_isAhead_65 (by decide) (fun c6 => ?_) (fun c6 => ?_)
      · have h := h.1 c6
        refine xr_iinc (pc := 89) κ 1 [1, 0] (lv' := [(0, .ref 0), (3, .int (v3 + 1))]) (x := v3) (v := v3 + 1) dX6_isAhead_89 rfl rfl (by decide) rfl ?_
        refine xr_goto (pc := 92) κ (tgt := 45) dX6_isAhead_92 (by decide) ?_
        exact ih _ _ _ h
      · have h := h.2 c6
        refine xr_aload_n (pc := 68) κ 0 (x := 0) dX6_isAhead_68 rfl rfl ?_
        refine xr_get (pc := 69) κ xc6 (k := 0) (f := 20) (v := .ref 14) kw_3_43 (by decide) rfl (by decide) rfl dX6_isAhead_69 ?_
        refine xr_iload_n (pc := 72) κ 1 (x := v3) dX6_isAhead_72 rfl rfl ?_
        obtain ⟨i7, h⟩ := h
        refine xr_iald (pc := 73) κ (k := 14) (n := 12) (f := m_more t) (by decide) rfl rfl i7 dX6_isAhead_73 ?_
        refine xr_aload_n (pc := 74) κ 0 (x := 0) dX6_isAhead_74 rfl rfl ?_
        refine xr_get (pc := 75) κ xc6 (k := 0) (f := 21) (v := .ref 15) kw_3_44 (by decide) rfl (by decide) rfl dX6_isAhead_75 ?_
        refine xr_iload_n (pc := 78) κ 1 (x := v3) dX6_isAhead_78 rfl rfl ?_
        obtain ⟨i8, h⟩ := h
        refine xr_iald (pc := 79) κ (k := 15) (n := 12) (f := m_bestMore t) (by decide) rfl rfl i8 dX6_isAhead_79 ?_
        refine xr_icmp_le (pc := 80) κ (tgt := 87) dX6_isAhead_80 (by decide) (fun c9 => ?_) (fun c9 => ?_)
        · have h := h.1 c9
          refine xr_iconst (pc := 87) κ (v := 0) dX6_isAhead_87 (by decide) ?_
          exact xr_zret (pc := 88) κ _ hQ rfl dX6_isAhead_88 ⟨_, _, _, rfl, rfl, h⟩
        · have h := h.2 c9
          refine xr_iconst (pc := 83) κ (v := 1) dX6_isAhead_83 (by decide) ?_
          refine xr_goto (pc := 84) κ (tgt := 88) dX6_isAhead_84 (by decide) ?_
          exact xr_zret (pc := 88) κ _ hQ rfl dX6_isAhead_88 ⟨_, _, _, rfl, rfl, h⟩
def nd_X6_isAhead_4 (K : Int32 → CS → MT → Prop) : Nat → Int32 → Int32 → Int32 → CS → MT → Prop
  | 0 => fun _ _ _ _ _ => False
  | n + 1 => fun v1 v2 v3 c t =>
    ((c_wires c) ≤ v3 →
      (v1 = v2 →
        ∃ n45 : Nat, nd_X6_isAhead_45 K n45 (0 : Int32) c t) ∧
      (¬ v1 = v2 →
        (v2 ≤ v1 →
          K (0 : Int32) c t) ∧
        (¬ v2 ≤ v1 →
          K (1 : Int32) c t))) ∧
    (¬ (c_wires c) ≤ v3 →
      vp_in v3 12 ∧
      nd_X6_isAhead_4 K n v1 (v2 + (m_bestMore t v3.toNatClampNeg)) (v3 + 1) c t)
set_option maxHeartbeats 4000000 in
set_option maxRecDepth 100000 in
theorem snd_X6_isAhead_4 {l : Launch} (κ : XC l xTM cX6_isAhead yX6_isAhead.cls 4 (some .boolean) 0) (K : Int32 → CS → MT → Prop) (hQ : xRet κ (fun v ω' => ∃ (r : Int32) (c' : CS) (t' : MT), v = some (.int r) ∧ ω' = wM c' t' ∧ K r c' t')) : ∀ (n : Nat) (v1 : Int32) (v2 : Int32) (v3 : Int32) (c : CS) (t : MT), nd_X6_isAhead_4 K n v1 v2 v3 c t → Wat κ 4 [(0, .ref 0), (1, .int v1), (2, .int v2), (3, .int v3)] [] (wM c t) := by
  intro n
  induction n with
  | zero => intro v1 v2 v3 c t h; exact h.elim
  | succ n ih =>
    intro v1 v2 v3 c t h
    unfold nd_X6_isAhead_4 at h
    refine xr_iload_n (pc := 4) κ 3 (x := v3) dX6_isAhead_4 rfl rfl ?_
    refine xr_aload_n (pc := 5) κ 0 (x := 0) dX6_isAhead_5 rfl rfl ?_
    refine xr_get (pc := 6) κ xc6 (k := 0) (f := 1) (v := .int (c_wires c)) kw_3_24 (by decide) rfl (by decide) rfl dX6_isAhead_6 ?_
    refine xr_icmp_ge (pc := 9) κ (tgt := 27) dX6_isAhead_9 (by decide) (fun c1 => ?_) (fun c1 => ?_)
    · have h := h.1 c1
      refine xr_iload_n (pc := 27) κ 1 (x := v1) dX6_isAhead_27 rfl rfl ?_
      refine xr_iload_n (pc := 28) κ 2 (x := v2) dX6_isAhead_28 rfl rfl ?_
      refine xr_icmp_eq (pc := 29) κ (tgt := 43) dX6_isAhead_29 (by decide) (fun c2 => ?_) (fun c2 => ?_)
      · have h := h.1 c2
        refine xr_iconst (pc := 43) κ (v := 0) dX6_isAhead_43 (by decide) ?_
        refine xr_istore_n (pc := 44) κ [1, 2, 3, 0] (lv' := [(0, .ref 0), (1, .int v1), (2, .int v2), (3, .int (0 : Int32))]) dX6_isAhead_44 rfl (by decide) rfl ?_
        refine xr_sub (pc := 45) κ [0, 3] (lv' := [(0, .ref 0), (3, .int (0 : Int32))]) rfl ?_
        obtain ⟨n0, h⟩ := h
        exact snd_X6_isAhead_45 κ K hQ n0 _ _ _ h
      · have h := h.2 c2
        refine xr_iload_n (pc := 32) κ 1 (x := v1) dX6_isAhead_32 rfl rfl ?_
        refine xr_iload_n (pc := 33) κ 2 (x := v2) dX6_isAhead_33 rfl rfl ?_
        refine xr_icmp_ge (pc := 34) κ (tgt := 41) dX6_isAhead_34 (by decide) (fun c10 => ?_) (fun c10 => ?_)
        · have h := h.1 c10
          refine xr_iconst (pc := 41) κ (v := 0) dX6_isAhead_41 (by decide) ?_
          exact xr_zret (pc := 42) κ _ hQ rfl dX6_isAhead_42 ⟨_, _, _, rfl, rfl, h⟩
        · have h := h.2 c10
          refine xr_iconst (pc := 37) κ (v := 1) dX6_isAhead_37 (by decide) ?_
          refine xr_goto (pc := 38) κ (tgt := 42) dX6_isAhead_38 (by decide) ?_
          exact xr_zret (pc := 42) κ _ hQ rfl dX6_isAhead_42 ⟨_, _, _, rfl, rfl, h⟩
    · have h := h.2 c1
      refine xr_iload_n (pc := 12) κ 2 (x := v2) dX6_isAhead_12 rfl rfl ?_
      refine xr_aload_n (pc := 13) κ 0 (x := 0) dX6_isAhead_13 rfl rfl ?_
      refine xr_get (pc := 14) κ xc6 (k := 0) (f := 21) (v := .ref 15) kw_3_44 (by decide) rfl (by decide) rfl dX6_isAhead_14 ?_
      refine xr_iload_n (pc := 17) κ 3 (x := v3) dX6_isAhead_17 rfl rfl ?_
      obtain ⟨i11, h⟩ := h
      refine xr_iald (pc := 18) κ (k := 15) (n := 12) (f := m_bestMore t) (by decide) rfl rfl i11 dX6_isAhead_18 ?_
      refine xr_iadd (pc := 19) κ dX6_isAhead_19 ?_
      refine xr_istore_n (pc := 20) κ [1, 2, 0, 3] (lv' := [(0, .ref 0), (1, .int v1), (2, .int (v2 + (m_bestMore t v3.toNatClampNeg))), (3, .int v3)]) dX6_isAhead_20 rfl (by decide) rfl ?_
      refine xr_iinc (pc := 21) κ 3 [1, 2, 3, 0] (lv' := [(0, .ref 0), (1, .int v1), (2, .int (v2 + (m_bestMore t v3.toNatClampNeg))), (3, .int (v3 + 1))]) (x := v3) (v := v3 + 1) dX6_isAhead_21 rfl rfl (by decide) rfl ?_
      refine xr_goto (pc := 24) κ (tgt := 4) dX6_isAhead_24 (by decide) ?_
      exact ih _ _ _ _ _ h
def wp_X6_isAhead (many : Int32) (c : CS) (t : MT) (K : Int32 → CS → MT → Prop) : Prop :=
    ∃ n4 : Nat, nd_X6_isAhead_4 K n4 many (0 : Int32) (0 : Int32) c t
set_option maxHeartbeats 4000000 in
set_option maxRecDepth 100000 in
theorem snd_X6_isAhead {l : Launch} (many : Int32) (c : CS) (t : MT) (K : Int32 → CS → MT → Prop) (h : wp_X6_isAhead many c t K) : XM l xTM yX6_isAhead cX6_isAhead 4 (some .boolean) 0 [.ref 0, .int many] (wM c t) (fun v ω' => ∃ (r : Int32) (c' : CS) (t' : MT), v = some (.int r) ∧ ω' = wM c' t' ∧ K r c' t') := by
    refine XM.of (by decide) (Nat.le_of_ble_eq_true rfl) (fun κ hQ => ?_)
    show Wat κ 0 [(0, .ref 0), (1, .int many)] [] (wM c t)
    unfold wp_X6_isAhead at h
    refine xr_iconst (pc := 0) κ (v := 0) dX6_isAhead_0 (by decide) ?_
    refine xr_istore_n (pc := 1) κ [1, 2, 0] (lv' := [(0, .ref 0), (1, .int many), (2, .int (0 : Int32))]) dX6_isAhead_1 rfl (by decide) rfl ?_
    refine xr_iconst (pc := 2) κ (v := 0) dX6_isAhead_2 (by decide) ?_
    refine xr_istore_n (pc := 3) κ [1, 2, 3, 0] (lv' := [(0, .ref 0), (1, .int many), (2, .int (0 : Int32)), (3, .int (0 : Int32))]) dX6_isAhead_3 rfl (by decide) rfl ?_
    obtain ⟨n0, h⟩ := h
    exact snd_X6_isAhead_4 κ K hQ n0 _ _ _ _ _ h
-- ChipVoltsModel.isWithin(I)Z, level 3
def nd_X6_isWithin_67 (K : Int32 → CS → MT → Prop) : Nat → Int32 → Int32 → CS → MT → Prop
  | 0 => fun _ _ _ _ => False
  | n + 1 => fun v2 v3 c t =>
    ((c_wires c) ≤ v3 →
      narrow .boolean (.int v2) = .int v2 ∧ K v2 c t) ∧
    (¬ (c_wires c) ≤ v3 →
      vp_in v3 12 ∧
      vp_in v3 12 ∧
      vp_in v3 12 ∧
      nd_X6_isWithin_67 K n v2 (v3 + 1) (cs_wide c (upd (c_wide c) v3.toNatClampNeg ((c_wide c v3.toNatClampNeg) - (m_more t v3.toNatClampNeg)))) t)
set_option maxHeartbeats 4000000 in
set_option maxRecDepth 100000 in
theorem snd_X6_isWithin_67 {l : Launch} (κ : XC l xTM cX6_isWithin yX6_isWithin.cls 4 (some .boolean) 3) (K : Int32 → CS → MT → Prop) (hQ : xRet κ (fun v ω' => ∃ (r : Int32) (c' : CS) (t' : MT), v = some (.int r) ∧ ω' = wM c' t' ∧ K r c' t')) : ∀ (n : Nat) (v2 : Int32) (v3 : Int32) (c : CS) (t : MT), nd_X6_isWithin_67 K n v2 v3 c t → Wat κ 67 [(0, .ref 0), (2, .int v2), (3, .int v3)] [] (wM c t) := by
  intro n
  induction n with
  | zero => intro v2 v3 c t h; exact h.elim
  | succ n ih =>
    intro v2 v3 c t h
    unfold nd_X6_isWithin_67 at h
    refine xr_iload_n (pc := 67) κ 2 (x := v3) dX6_isWithin_67 rfl rfl ?_
    refine xr_aload_n (pc := 68) κ 0 (x := 0) dX6_isWithin_68 rfl rfl ?_
    refine xr_get (pc := 69) κ xc6 (k := 0) (f := 1) (v := .int (c_wires c)) kw_3_24 (by decide) rfl (by decide) rfl dX6_isWithin_69 ?_
    refine xr_icmp_ge (pc := 72) κ (tgt := 96) dX6_isWithin_72 (by decide) (fun c5 => ?_) (fun c5 => ?_)
    · have h := h.1 c5
      refine xr_iload_n (pc := 96) κ 1 (x := v2) dX6_isWithin_96 rfl rfl ?_
      obtain ⟨hn, h⟩ := h
      exact xr_zret (pc := 97) κ _ hQ hn dX6_isWithin_97 ⟨_, _, _, rfl, rfl, h⟩
    · have h := h.2 c5
      refine xr_aload_n (pc := 75) κ 0 (x := 0) dX6_isWithin_75 rfl rfl ?_
      refine xr_get (pc := 76) κ xc6 (k := 0) (f := 4) (v := .ref 3) kw_3_27 (by decide) rfl (by decide) rfl dX6_isWithin_76 ?_
      refine xr_iload_n (pc := 79) κ 2 (x := v3) dX6_isWithin_79 rfl rfl ?_
      refine xr_dup2 (pc := 80) κ rfl rfl dX6_isWithin_80 ?_
      obtain ⟨i6, h⟩ := h
      refine xr_iald (pc := 81) κ (k := 3) (n := 12) (f := c_wide c) (by decide) rfl rfl i6 dX6_isWithin_81 ?_
      refine xr_aload_n (pc := 82) κ 0 (x := 0) dX6_isWithin_82 rfl rfl ?_
      refine xr_get (pc := 83) κ xc6 (k := 0) (f := 20) (v := .ref 14) kw_3_43 (by decide) rfl (by decide) rfl dX6_isWithin_83 ?_
      refine xr_iload_n (pc := 86) κ 2 (x := v3) dX6_isWithin_86 rfl rfl ?_
      obtain ⟨i7, h⟩ := h
      refine xr_iald (pc := 87) κ (k := 14) (n := 12) (f := m_more t) (by decide) rfl rfl i7 dX6_isWithin_87 ?_
      refine xr_isub (pc := 88) κ dX6_isWithin_88 ?_
      obtain ⟨i8, h⟩ := h
      refine xr_iast (pc := 89) κ (k := 3) (n := 12) (f := c_wide c) (ω' := wM (cs_wide c (upd (c_wide c) v3.toNatClampNeg ((c_wide c v3.toNatClampNeg) - (m_more t v3.toNatClampNeg)))) t) (by decide) rfl rfl i8 (wMa_wide _ _ _) dX6_isWithin_89 ?_
      refine xr_iinc (pc := 90) κ 2 [1, 2, 0] (lv' := [(0, .ref 0), (2, .int v2), (3, .int (v3 + 1))]) (x := v3) (v := v3 + 1) dX6_isWithin_90 rfl rfl (by decide) rfl ?_
      refine xr_goto (pc := 93) κ (tgt := 67) dX6_isWithin_93 (by decide) ?_
      exact ih _ _ _ _ h
def nd_X6_isWithin_64 (K : Int32 → CS → MT → Prop) (s0 : Int32) (c : CS) (t : MT) : Prop :=
    ∃ n67 : Nat, nd_X6_isWithin_67 K n67 s0 (0 : Int32) c t
set_option maxHeartbeats 4000000 in
set_option maxRecDepth 100000 in
theorem snd_X6_isWithin_64 {l : Launch} (κ : XC l xTM cX6_isWithin yX6_isWithin.cls 4 (some .boolean) 3) (K : Int32 → CS → MT → Prop) (hQ : xRet κ (fun v ω' => ∃ (r : Int32) (c' : CS) (t' : MT), v = some (.int r) ∧ ω' = wM c' t' ∧ K r c' t')) (s0 : Int32) (c : CS) (t : MT) (h : nd_X6_isWithin_64 K s0 c t) : Wat κ 64 [(0, .ref 0)] [.int s0] (wM c t) := by
    unfold nd_X6_isWithin_64 at h
    refine xr_istore_n (pc := 64) κ [1, 0] (lv' := [(0, .ref 0), (2, .int s0)]) dX6_isWithin_64 rfl (by decide) rfl ?_
    refine xr_iconst (pc := 65) κ (v := 0) dX6_isWithin_65 (by decide) ?_
    refine xr_istore_n (pc := 66) κ [1, 2, 0] (lv' := [(0, .ref 0), (2, .int s0), (3, .int (0 : Int32))]) dX6_isWithin_66 rfl (by decide) rfl ?_
    obtain ⟨n0, h⟩ := h
    exact snd_X6_isWithin_67 κ K hQ n0 _ _ _ _ h
def nd_X6_isWithin_2 (K : Int32 → CS → MT → Prop) : Nat → Int32 → Int32 → CS → MT → Prop
  | 0 => fun _ _ _ _ => False
  | n + 1 => fun v1 v2 c t =>
    ((c_wires c) ≤ v2 →
      wp_X6_findResist (c_pads c) (-1 : Int32) c t (fun c2_ t2_ =>
        wp_X6_mostFall c2_ t2_ (fun r3 c3_ t3_ =>
          (((Int32.toInt64 v1) * (m_under t3_)) < r3 →
            nd_X6_isWithin_64 K (0 : Int32) c3_ t3_) ∧
          (¬ ((Int32.toInt64 v1) * (m_under t3_)) < r3 →
            nd_X6_isWithin_64 K (1 : Int32) c3_ t3_)))) ∧
    (¬ (c_wires c) ≤ v2 →
      vp_in v2 12 ∧
      vp_in v2 12 ∧
      vp_in v2 12 ∧
      nd_X6_isWithin_2 K n v1 (v2 + 1) (cs_wide c (upd (c_wide c) v2.toNatClampNeg ((c_wide c v2.toNatClampNeg) + (m_more t v2.toNatClampNeg)))) t)
set_option maxHeartbeats 4000000 in
set_option maxRecDepth 100000 in
theorem snd_X6_isWithin_2 {l : Launch} (κ : XC l xTM cX6_isWithin yX6_isWithin.cls 4 (some .boolean) 3) (K : Int32 → CS → MT → Prop) (hQ : xRet κ (fun v ω' => ∃ (r : Int32) (c' : CS) (t' : MT), v = some (.int r) ∧ ω' = wM c' t' ∧ K r c' t')) : ∀ (n : Nat) (v1 : Int32) (v2 : Int32) (c : CS) (t : MT), nd_X6_isWithin_2 K n v1 v2 c t → Wat κ 2 [(0, .ref 0), (1, .int v1), (2, .int v2)] [] (wM c t) := by
  intro n
  induction n with
  | zero => intro v1 v2 c t h; exact h.elim
  | succ n ih =>
    intro v1 v2 c t h
    unfold nd_X6_isWithin_2 at h
    refine xr_iload_n (pc := 2) κ 2 (x := v2) dX6_isWithin_2 rfl rfl ?_
    refine xr_aload_n (pc := 3) κ 0 (x := 0) dX6_isWithin_3 rfl rfl ?_
    refine xr_get (pc := 4) κ xc6 (k := 0) (f := 1) (v := .int (c_wires c)) kw_3_24 (by decide) rfl (by decide) rfl dX6_isWithin_4 ?_
    refine xr_icmp_ge (pc := 7) κ (tgt := 31) dX6_isWithin_7 (by decide) (fun c1 => ?_) (fun c1 => ?_)
    · have h := h.1 c1
      refine xr_aload_n (pc := 31) κ 0 (x := 0) dX6_isWithin_31 rfl rfl ?_
      refine xr_aload_n (pc := 32) κ 0 (x := 0) dX6_isWithin_32 rfl rfl ?_
      refine xr_get (pc := 33) κ xc6 (k := 0) (f := 6) (v := .int (c_pads c)) kw_3_29 (by decide) rfl (by decide) rfl dX6_isWithin_33 ?_
      refine xr_iconst (pc := 36) κ (v := -1) dX6_isWithin_36 (by decide) ?_
      refine xr_callV (pc := 37) κ [.int (c_pads c), .int (-1 : Int32)] kw_3_143 tg_X6_findResist (snd_X6_findResist _ _ _ _ _ h) rfl (by decide) (by decide) (by decide) rfl (ci := 6) rfl rfl (Nat.le_of_ble_eq_true rfl) dX6_isWithin_37 (fun v9 ω9 hk9 => ?_)
      obtain ⟨c2_, t2_, rfl, rfl, h⟩ := hk9
      skip
      show Wat κ 40 [(0, .ref 0), (1, .int v1), (2, .int v2)] [] (wM c2_ t2_)
      refine xr_aload_n (pc := 40) κ 0 (x := 0) dX6_isWithin_40 rfl rfl ?_
      refine xr_aload_n (pc := 41) κ 0 (x := 0) dX6_isWithin_41 rfl rfl ?_
      refine xr_get (pc := 42) κ xc6 (k := 0) (f := 7) (v := .ref 5) kw_3_30 (by decide) rfl (by decide) rfl dX6_isWithin_42 ?_
      refine xr_callV (pc := 45) κ [.ref 5] kw_3_215 tg_X6_mostFall (snd_X6_mostFall  _ _ _ h) rfl (by decide) (by decide) (by decide) rfl (ci := 6) rfl rfl (Nat.le_of_ble_eq_true rfl) dX6_isWithin_45 (fun v9 ω9 hk9 => ?_)
      obtain ⟨r3, c3_, t3_, rfl, rfl, h⟩ := hk9
      skip
      show Wat κ 48 [(0, .ref 0), (1, .int v1), (2, .int v2)] [.long r3] (wM c3_ t3_)
      refine xr_iload_n (pc := 48) κ 1 (x := v1) dX6_isWithin_48 rfl rfl ?_
      refine xr_i2l (pc := 49) κ dX6_isWithin_49 ?_
      refine xr_aload_n (pc := 50) κ 0 (x := 0) dX6_isWithin_50 rfl rfl ?_
      refine xr_get (pc := 51) κ xc6 (k := 0) (f := 17) (v := .long (m_under t3_)) kw_3_40 (by decide) rfl (by decide) rfl dX6_isWithin_51 ?_
      refine xr_lmul (pc := 54) κ dX6_isWithin_54 ?_
      refine xr_lcmp_gt (pc := 55) κ (tgt := 63) dX6_isWithin_55 dX6_isWithin_56 (by decide) (fun c4 => ?_) (fun c4 => ?_)
      · have h := h.1 c4
        refine xr_iconst (pc := 63) κ (v := 0) dX6_isWithin_63 (by decide) ?_
        refine xr_sub (pc := 64) κ [0] (lv' := [(0, .ref 0)]) rfl ?_
        exact snd_X6_isWithin_64 κ K hQ _ _ _ h
      · have h := h.2 c4
        refine xr_iconst (pc := 59) κ (v := 1) dX6_isWithin_59 (by decide) ?_
        refine xr_goto (pc := 60) κ (tgt := 64) dX6_isWithin_60 (by decide) ?_
        refine xr_sub (pc := 64) κ [0] (lv' := [(0, .ref 0)]) rfl ?_
        exact snd_X6_isWithin_64 κ K hQ _ _ _ h
    · have h := h.2 c1
      refine xr_aload_n (pc := 10) κ 0 (x := 0) dX6_isWithin_10 rfl rfl ?_
      refine xr_get (pc := 11) κ xc6 (k := 0) (f := 4) (v := .ref 3) kw_3_27 (by decide) rfl (by decide) rfl dX6_isWithin_11 ?_
      refine xr_iload_n (pc := 14) κ 2 (x := v2) dX6_isWithin_14 rfl rfl ?_
      refine xr_dup2 (pc := 15) κ rfl rfl dX6_isWithin_15 ?_
      obtain ⟨i9, h⟩ := h
      refine xr_iald (pc := 16) κ (k := 3) (n := 12) (f := c_wide c) (by decide) rfl rfl i9 dX6_isWithin_16 ?_
      refine xr_aload_n (pc := 17) κ 0 (x := 0) dX6_isWithin_17 rfl rfl ?_
      refine xr_get (pc := 18) κ xc6 (k := 0) (f := 20) (v := .ref 14) kw_3_43 (by decide) rfl (by decide) rfl dX6_isWithin_18 ?_
      refine xr_iload_n (pc := 21) κ 2 (x := v2) dX6_isWithin_21 rfl rfl ?_
      obtain ⟨i10, h⟩ := h
      refine xr_iald (pc := 22) κ (k := 14) (n := 12) (f := m_more t) (by decide) rfl rfl i10 dX6_isWithin_22 ?_
      refine xr_iadd (pc := 23) κ dX6_isWithin_23 ?_
      obtain ⟨i11, h⟩ := h
      refine xr_iast (pc := 24) κ (k := 3) (n := 12) (f := c_wide c) (ω' := wM (cs_wide c (upd (c_wide c) v2.toNatClampNeg ((c_wide c v2.toNatClampNeg) + (m_more t v2.toNatClampNeg)))) t) (by decide) rfl rfl i11 (wMa_wide _ _ _) dX6_isWithin_24 ?_
      refine xr_iinc (pc := 25) κ 2 [1, 2, 0] (lv' := [(0, .ref 0), (1, .int v1), (2, .int (v2 + 1))]) (x := v2) (v := v2 + 1) dX6_isWithin_25 rfl rfl (by decide) rfl ?_
      refine xr_goto (pc := 28) κ (tgt := 2) dX6_isWithin_28 (by decide) ?_
      exact ih _ _ _ _ h
def wp_X6_isWithin (lim : Int32) (c : CS) (t : MT) (K : Int32 → CS → MT → Prop) : Prop :=
    ∃ n2 : Nat, nd_X6_isWithin_2 K n2 lim (0 : Int32) c t
set_option maxHeartbeats 4000000 in
set_option maxRecDepth 100000 in
theorem snd_X6_isWithin {l : Launch} (lim : Int32) (c : CS) (t : MT) (K : Int32 → CS → MT → Prop) (h : wp_X6_isWithin lim c t K) : XM l xTM yX6_isWithin cX6_isWithin 4 (some .boolean) 3 [.ref 0, .int lim] (wM c t) (fun v ω' => ∃ (r : Int32) (c' : CS) (t' : MT), v = some (.int r) ∧ ω' = wM c' t' ∧ K r c' t') := by
    refine XM.of (by decide) (Nat.le_of_ble_eq_true rfl) (fun κ hQ => ?_)
    show Wat κ 0 [(0, .ref 0), (1, .int lim)] [] (wM c t)
    unfold wp_X6_isWithin at h
    refine xr_iconst (pc := 0) κ (v := 0) dX6_isWithin_0 (by decide) ?_
    refine xr_istore_n (pc := 1) κ [1, 2, 0] (lv' := [(0, .ref 0), (1, .int lim), (2, .int (0 : Int32))]) dX6_isWithin_1 rfl (by decide) rfl ?_
    obtain ⟨n0, h⟩ := h
    exact snd_X6_isWithin_2 κ K hQ n0 _ _ _ _ h
-- ChipVoltsModel.findWiden(II)I, level 4
def nd_X6_findWiden_321 (K : Int32 → CS → MT → Prop) (L27 : Int32 → Int32 → Int32 → Int32 → Int32 → CS → MT → Prop) (v1 : Int32) (v2 : Int32) (v3 : Int32) (v4 : Int32) (v5 : Int32) (c : CS) (t : MT) : Prop :=
    L27 v1 v2 v3 v4 (v5 + 1) c t
set_option maxHeartbeats 4000000 in
set_option maxRecDepth 100000 in
theorem snd_X6_findWiden_321 {l : Launch} (κ : XC l xTM cX6_findWiden yX6_findWiden.cls 11 (some .int) 4) (K : Int32 → CS → MT → Prop) (hQ : xRet κ (fun v ω' => ∃ (r : Int32) (c' : CS) (t' : MT), v = some (.int r) ∧ ω' = wM c' t' ∧ K r c' t')) (L27 : Int32 → Int32 → Int32 → Int32 → Int32 → CS → MT → Prop) (hL27 : ∀ (v1 : Int32) (v2 : Int32) (v3 : Int32) (v4 : Int32) (v5 : Int32) (c : CS) (t : MT), L27 v1 v2 v3 v4 v5 c t → Wat κ 27 [(0, .ref 0), (1, .int v1), (2, .int v2), (3, .int v3), (4, .int v4), (5, .int v5)] [] (wM c t)) (v1 : Int32) (v2 : Int32) (v3 : Int32) (v4 : Int32) (v5 : Int32) (c : CS) (t : MT) (h : nd_X6_findWiden_321 K L27 v1 v2 v3 v4 v5 c t) : Wat κ 321 [(0, .ref 0), (1, .int v1), (2, .int v2), (3, .int v3), (4, .int v4), (5, .int v5)] [] (wM c t) := by
    unfold nd_X6_findWiden_321 at h
    refine xr_iinc (pc := 321) κ 5 [1, 2, 3, 4, 5, 0] (lv' := [(0, .ref 0), (1, .int v1), (2, .int v2), (3, .int v3), (4, .int v4), (5, .int (v5 + 1))]) (x := v5) (v := v5 + 1) dX6_findWiden_321 rfl rfl (by decide) rfl ?_
    refine xr_goto (pc := 324) κ (tgt := 27) dX6_findWiden_324 (by decide) ?_
    exact hL27 _ _ _ _ _ _ _ h
def nd_X6_findWiden_292 (K : Int32 → CS → MT → Prop) (L27 : Int32 → Int32 → Int32 → Int32 → Int32 → CS → MT → Prop) : Nat → Int32 → Int32 → Int32 → Int32 → Int32 → Int32 → CS → MT → Prop
  | 0 => fun _ _ _ _ _ _ _ _ => False
  | n + 1 => fun v1 v2 v3 v4 v5 v10 c t =>
    ((c_wires c) ≤ v10 →
      nd_X6_findWiden_321 K L27 v1 v2 v3 v4 v5 c t) ∧
    (¬ (c_wires c) ≤ v10 →
      vp_in v10 12 ∧
      vp_in v10 12 ∧
      nd_X6_findWiden_292 K L27 n v1 v2 v3 v4 v5 (v10 + 1) c (ms_bestMore t (upd (m_bestMore t) v10.toNatClampNeg (m_more t v10.toNatClampNeg))))
set_option maxHeartbeats 4000000 in
set_option maxRecDepth 100000 in
theorem snd_X6_findWiden_292 {l : Launch} (κ : XC l xTM cX6_findWiden yX6_findWiden.cls 11 (some .int) 4) (K : Int32 → CS → MT → Prop) (hQ : xRet κ (fun v ω' => ∃ (r : Int32) (c' : CS) (t' : MT), v = some (.int r) ∧ ω' = wM c' t' ∧ K r c' t')) (L27 : Int32 → Int32 → Int32 → Int32 → Int32 → CS → MT → Prop) (hL27 : ∀ (v1 : Int32) (v2 : Int32) (v3 : Int32) (v4 : Int32) (v5 : Int32) (c : CS) (t : MT), L27 v1 v2 v3 v4 v5 c t → Wat κ 27 [(0, .ref 0), (1, .int v1), (2, .int v2), (3, .int v3), (4, .int v4), (5, .int v5)] [] (wM c t)) : ∀ (n : Nat) (v1 : Int32) (v2 : Int32) (v3 : Int32) (v4 : Int32) (v5 : Int32) (v10 : Int32) (c : CS) (t : MT), nd_X6_findWiden_292 K L27 n v1 v2 v3 v4 v5 v10 c t → Wat κ 292 [(0, .ref 0), (1, .int v1), (2, .int v2), (3, .int v3), (4, .int v4), (5, .int v5), (10, .int v10)] [] (wM c t) := by
  intro n
  induction n with
  | zero => intro v1 v2 v3 v4 v5 v10 c t h; exact h.elim
  | succ n ih =>
    intro v1 v2 v3 v4 v5 v10 c t h
    unfold nd_X6_findWiden_292 at h
    refine xr_iload (pc := 292) κ 6 (x := v10) dX6_findWiden_292 rfl ?_
    refine xr_aload_n (pc := 294) κ 0 (x := 0) dX6_findWiden_294 rfl rfl ?_
    refine xr_get (pc := 295) κ xc6 (k := 0) (f := 1) (v := .int (c_wires c)) kw_3_24 (by decide) rfl (by decide) rfl dX6_findWiden_295 ?_
    refine xr_icmp_ge (pc := 298) κ (tgt := 321) dX6_findWiden_298 (by decide) (fun c9 => ?_) (fun c9 => ?_)
    · have h := h.1 c9
      refine xr_sub (pc := 321) κ [0, 1, 2, 3, 4, 5] (lv' := [(0, .ref 0), (1, .int v1), (2, .int v2), (3, .int v3), (4, .int v4), (5, .int v5)]) rfl ?_
      exact snd_X6_findWiden_321 κ K hQ _ hL27 _ _ _ _ _ _ _ h
    · have h := h.2 c9
      refine xr_aload_n (pc := 301) κ 0 (x := 0) dX6_findWiden_301 rfl rfl ?_
      refine xr_get (pc := 302) κ xc6 (k := 0) (f := 21) (v := .ref 15) kw_3_44 (by decide) rfl (by decide) rfl dX6_findWiden_302 ?_
      refine xr_iload (pc := 305) κ 6 (x := v10) dX6_findWiden_305 rfl ?_
      refine xr_aload_n (pc := 307) κ 0 (x := 0) dX6_findWiden_307 rfl rfl ?_
      refine xr_get (pc := 308) κ xc6 (k := 0) (f := 20) (v := .ref 14) kw_3_43 (by decide) rfl (by decide) rfl dX6_findWiden_308 ?_
      refine xr_iload (pc := 311) κ 6 (x := v10) dX6_findWiden_311 rfl ?_
      obtain ⟨i10, h⟩ := h
      refine xr_iald (pc := 313) κ (k := 14) (n := 12) (f := m_more t) (by decide) rfl rfl i10 dX6_findWiden_313 ?_
      obtain ⟨i11, h⟩ := h
      refine xr_iast (pc := 314) κ (k := 15) (n := 12) (f := m_bestMore t) (ω' := wM c (ms_bestMore t (upd (m_bestMore t) v10.toNatClampNeg (m_more t v10.toNatClampNeg)))) (by decide) rfl rfl i11 (wMa_bestMore _ _ _) dX6_findWiden_314 ?_
      refine xr_iinc (pc := 315) κ 6 [1, 2, 3, 4, 5, 6, 0] (lv' := [(0, .ref 0), (1, .int v1), (2, .int v2), (3, .int v3), (4, .int v4), (5, .int v5), (10, .int (v10 + 1))]) (x := v10) (v := v10 + 1) dX6_findWiden_315 rfl rfl (by decide) rfl ?_
      refine xr_goto (pc := 318) κ (tgt := 292) dX6_findWiden_318 (by decide) ?_
      exact ih _ _ _ _ _ _ _ _ h
def nd_X6_findWiden_278 (K : Int32 → CS → MT → Prop) (L27 : Int32 → Int32 → Int32 → Int32 → Int32 → CS → MT → Prop) (v1 : Int32) (v2 : Int32) (v3 : Int32) (v4 : Int32) (v5 : Int32) (v8 : Int32) (c : CS) (t : MT) : Prop :=
    wp_X6_isWithin v1 c t (fun r7 c7_ t7_ =>
      (r7 = 0 →
        nd_X6_findWiden_321 K L27 v1 v2 v3 v4 v5 c7_ t7_) ∧
      (¬ r7 = 0 →
        ∃ n292 : Nat, nd_X6_findWiden_292 K L27 n292 v1 v2 v8 v4 v5 (0 : Int32) c7_ t7_))
set_option maxHeartbeats 4000000 in
set_option maxRecDepth 100000 in
theorem snd_X6_findWiden_278 {l : Launch} (κ : XC l xTM cX6_findWiden yX6_findWiden.cls 11 (some .int) 4) (K : Int32 → CS → MT → Prop) (hQ : xRet κ (fun v ω' => ∃ (r : Int32) (c' : CS) (t' : MT), v = some (.int r) ∧ ω' = wM c' t' ∧ K r c' t')) (L27 : Int32 → Int32 → Int32 → Int32 → Int32 → CS → MT → Prop) (hL27 : ∀ (v1 : Int32) (v2 : Int32) (v3 : Int32) (v4 : Int32) (v5 : Int32) (c : CS) (t : MT), L27 v1 v2 v3 v4 v5 c t → Wat κ 27 [(0, .ref 0), (1, .int v1), (2, .int v2), (3, .int v3), (4, .int v4), (5, .int v5)] [] (wM c t)) (v1 : Int32) (v2 : Int32) (v3 : Int32) (v4 : Int32) (v5 : Int32) (v8 : Int32) (c : CS) (t : MT) (h : nd_X6_findWiden_278 K L27 v1 v2 v3 v4 v5 v8 c t) : Wat κ 278 [(0, .ref 0), (1, .int v1), (2, .int v2), (3, .int v3), (4, .int v4), (5, .int v5), (8, .int v8)] [] (wM c t) := by
    unfold nd_X6_findWiden_278 at h
    refine xr_aload_n (pc := 278) κ 0 (x := 0) dX6_findWiden_278 rfl rfl ?_
    refine xr_iload_n (pc := 279) κ 1 (x := v1) dX6_findWiden_279 rfl rfl ?_
    refine xr_callV (pc := 280) κ [.int v1] kw_4_6 tg_X6_isWithin (snd_X6_isWithin _ _ _ _ h) rfl (by decide) (by decide) (by decide) rfl (ci := 6) rfl rfl (Nat.le_of_ble_eq_true rfl) dX6_findWiden_280 (fun v9 ω9 hk9 => ?_)
    obtain ⟨r7, c7_, t7_, rfl, rfl, h⟩ := hk9
    skip
    show Wat κ 283 [(0, .ref 0), (1, .int v1), (2, .int v2), (3, .int v3), (4, .int v4), (5, .int v5), (8, .int v8)] [.int r7] (wM c7_ t7_)
    refine xr_if_eq (pc := 283) κ (tgt := 321) dX6_findWiden_283 (by decide) (fun c8 => ?_) (fun c8 => ?_)
    · have h := h.1 c8
      refine xr_sub (pc := 321) κ [0, 1, 2, 3, 4, 5] (lv' := [(0, .ref 0), (1, .int v1), (2, .int v2), (3, .int v3), (4, .int v4), (5, .int v5)]) rfl ?_
      exact snd_X6_findWiden_321 κ K hQ _ hL27 _ _ _ _ _ _ _ h
    · have h := h.2 c8
      refine xr_iload (pc := 286) κ 6 (x := v8) dX6_findWiden_286 rfl ?_
      refine xr_istore_n (pc := 288) κ [1, 2, 3, 0, 4, 5, 6] (lv' := [(0, .ref 0), (1, .int v1), (2, .int v2), (3, .int v8), (4, .int v4), (5, .int v5), (8, .int v8)]) dX6_findWiden_288 rfl (by decide) rfl ?_
      refine xr_iconst (pc := 289) κ (v := 0) dX6_findWiden_289 (by decide) ?_
      refine xr_istore (pc := 290) κ [1, 2, 3, 4, 5, 6, 7, 0] (lv' := [(0, .ref 0), (1, .int v1), (2, .int v2), (3, .int v8), (4, .int v4), (5, .int v5), (8, .int v8), (10, .int (0 : Int32))]) dX6_findWiden_290 (by decide) rfl ?_
      refine xr_sub (pc := 292) κ [0, 1, 2, 3, 4, 5, 7] (lv' := [(0, .ref 0), (1, .int v1), (2, .int v2), (3, .int v8), (4, .int v4), (5, .int v5), (10, .int (0 : Int32))]) rfl ?_
      obtain ⟨n0, h⟩ := h
      exact snd_X6_findWiden_292 κ K hQ _ hL27 n0 _ _ _ _ _ _ _ _ h
def nd_X6_findWiden_235 (K : Int32 → CS → MT → Prop) (L27 : Int32 → Int32 → Int32 → Int32 → Int32 → CS → MT → Prop) (L76 : Int32 → Int32 → Int32 → Int32 → Int32 → Int32 → Int32 → Int32 → Int32 → Int32 → CS → MT → Prop) (v1 : Int32) (v2 : Int32) (v3 : Int32) (v4 : Int32) (v5 : Int32) (v6 : Int32) (v7 : Int32) (v8 : Int32) (v9 : Int32) (v10 : Int32) (c : CS) (t : MT) : Prop :=
    L76 v1 v2 v3 v4 v5 v6 v7 v8 v9 (v10 + 1) c t
set_option maxHeartbeats 4000000 in
set_option maxRecDepth 100000 in
theorem snd_X6_findWiden_235 {l : Launch} (κ : XC l xTM cX6_findWiden yX6_findWiden.cls 11 (some .int) 4) (K : Int32 → CS → MT → Prop) (hQ : xRet κ (fun v ω' => ∃ (r : Int32) (c' : CS) (t' : MT), v = some (.int r) ∧ ω' = wM c' t' ∧ K r c' t')) (L27 : Int32 → Int32 → Int32 → Int32 → Int32 → CS → MT → Prop) (L76 : Int32 → Int32 → Int32 → Int32 → Int32 → Int32 → Int32 → Int32 → Int32 → Int32 → CS → MT → Prop) (hL27 : ∀ (v1 : Int32) (v2 : Int32) (v3 : Int32) (v4 : Int32) (v5 : Int32) (c : CS) (t : MT), L27 v1 v2 v3 v4 v5 c t → Wat κ 27 [(0, .ref 0), (1, .int v1), (2, .int v2), (3, .int v3), (4, .int v4), (5, .int v5)] [] (wM c t)) (hL76 : ∀ (v1 : Int32) (v2 : Int32) (v3 : Int32) (v4 : Int32) (v5 : Int32) (v6 : Int32) (v7 : Int32) (v8 : Int32) (v9 : Int32) (v10 : Int32) (c : CS) (t : MT), L76 v1 v2 v3 v4 v5 v6 v7 v8 v9 v10 c t → Wat κ 76 [(0, .ref 0), (1, .int v1), (2, .int v2), (3, .int v3), (4, .int v4), (5, .int v5), (6, .int v6), (7, .int v7), (8, .int v8), (9, .int v9), (10, .int v10)] [] (wM c t)) (v1 : Int32) (v2 : Int32) (v3 : Int32) (v4 : Int32) (v5 : Int32) (v6 : Int32) (v7 : Int32) (v8 : Int32) (v9 : Int32) (v10 : Int32) (c : CS) (t : MT) (h : nd_X6_findWiden_235 K L27 L76 v1 v2 v3 v4 v5 v6 v7 v8 v9 v10 c t) : Wat κ 235 [(0, .ref 0), (1, .int v1), (2, .int v2), (3, .int v3), (4, .int v4), (5, .int v5), (6, .int v6), (7, .int v7), (8, .int v8), (9, .int v9), (10, .int v10)] [] (wM c t) := by
    unfold nd_X6_findWiden_235 at h
    refine xr_iinc (pc := 235) κ 10 [1, 2, 3, 4, 5, 6, 7, 8, 9, 10, 0] (lv' := [(0, .ref 0), (1, .int v1), (2, .int v2), (3, .int v3), (4, .int v4), (5, .int v5), (6, .int v6), (7, .int v7), (8, .int v8), (9, .int v9), (10, .int (v10 + 1))]) (x := v10) (v := v10 + 1) dX6_findWiden_235 rfl rfl (by decide) rfl ?_
    refine xr_goto (pc := 238) κ (tgt := 76) dX6_findWiden_238 (by decide) ?_
    exact hL76 _ _ _ _ _ _ _ _ _ _ _ _ h
def nd_X6_findWiden_233 (K : Int32 → CS → MT → Prop) (L27 : Int32 → Int32 → Int32 → Int32 → Int32 → CS → MT → Prop) (L76 : Int32 → Int32 → Int32 → Int32 → Int32 → Int32 → Int32 → Int32 → Int32 → Int32 → CS → MT → Prop) (v1 : Int32) (v2 : Int32) (v3 : Int32) (v4 : Int32) (v5 : Int32) (v6 : Int32) (v7 : Int32) (v8 : Int32) (v10 : Int32) (s0 : Int32) (c : CS) (t : MT) : Prop :=
    nd_X6_findWiden_235 K L27 L76 v1 v2 v3 v4 v5 v6 v7 v8 s0 v10 c t
set_option maxHeartbeats 4000000 in
set_option maxRecDepth 100000 in
theorem snd_X6_findWiden_233 {l : Launch} (κ : XC l xTM cX6_findWiden yX6_findWiden.cls 11 (some .int) 4) (K : Int32 → CS → MT → Prop) (hQ : xRet κ (fun v ω' => ∃ (r : Int32) (c' : CS) (t' : MT), v = some (.int r) ∧ ω' = wM c' t' ∧ K r c' t')) (L27 : Int32 → Int32 → Int32 → Int32 → Int32 → CS → MT → Prop) (L76 : Int32 → Int32 → Int32 → Int32 → Int32 → Int32 → Int32 → Int32 → Int32 → Int32 → CS → MT → Prop) (hL27 : ∀ (v1 : Int32) (v2 : Int32) (v3 : Int32) (v4 : Int32) (v5 : Int32) (c : CS) (t : MT), L27 v1 v2 v3 v4 v5 c t → Wat κ 27 [(0, .ref 0), (1, .int v1), (2, .int v2), (3, .int v3), (4, .int v4), (5, .int v5)] [] (wM c t)) (hL76 : ∀ (v1 : Int32) (v2 : Int32) (v3 : Int32) (v4 : Int32) (v5 : Int32) (v6 : Int32) (v7 : Int32) (v8 : Int32) (v9 : Int32) (v10 : Int32) (c : CS) (t : MT), L76 v1 v2 v3 v4 v5 v6 v7 v8 v9 v10 c t → Wat κ 76 [(0, .ref 0), (1, .int v1), (2, .int v2), (3, .int v3), (4, .int v4), (5, .int v5), (6, .int v6), (7, .int v7), (8, .int v8), (9, .int v9), (10, .int v10)] [] (wM c t)) (v1 : Int32) (v2 : Int32) (v3 : Int32) (v4 : Int32) (v5 : Int32) (v6 : Int32) (v7 : Int32) (v8 : Int32) (v10 : Int32) (s0 : Int32) (c : CS) (t : MT) (h : nd_X6_findWiden_233 K L27 L76 v1 v2 v3 v4 v5 v6 v7 v8 v10 s0 c t) : Wat κ 233 [(0, .ref 0), (1, .int v1), (2, .int v2), (3, .int v3), (4, .int v4), (5, .int v5), (6, .int v6), (7, .int v7), (8, .int v8), (10, .int v10)] [.int s0] (wM c t) := by
    unfold nd_X6_findWiden_233 at h
    refine xr_istore (pc := 233) κ [1, 2, 3, 4, 5, 6, 7, 8, 9, 0, 10] (lv' := [(0, .ref 0), (1, .int v1), (2, .int v2), (3, .int v3), (4, .int v4), (5, .int v5), (6, .int v6), (7, .int v7), (8, .int v8), (9, .int s0), (10, .int v10)]) dX6_findWiden_233 (by decide) rfl ?_
    exact snd_X6_findWiden_235 κ K hQ _ _ hL27 hL76 _ _ _ _ _ _ _ _ _ _ _ _ h
def nd_X6_findWiden_232 (K : Int32 → CS → MT → Prop) (L27 : Int32 → Int32 → Int32 → Int32 → Int32 → CS → MT → Prop) (L76 : Int32 → Int32 → Int32 → Int32 → Int32 → Int32 → Int32 → Int32 → Int32 → Int32 → CS → MT → Prop) (v1 : Int32) (v2 : Int32) (v3 : Int32) (v4 : Int32) (v5 : Int32) (v6 : Int32) (v7 : Int32) (v8 : Int32) (v10 : Int32) (c : CS) (t : MT) : Prop :=
    nd_X6_findWiden_233 K L27 L76 v1 v2 v3 v4 v5 v6 v7 v8 v10 (0 : Int32) c t
set_option maxHeartbeats 4000000 in
set_option maxRecDepth 100000 in
theorem snd_X6_findWiden_232 {l : Launch} (κ : XC l xTM cX6_findWiden yX6_findWiden.cls 11 (some .int) 4) (K : Int32 → CS → MT → Prop) (hQ : xRet κ (fun v ω' => ∃ (r : Int32) (c' : CS) (t' : MT), v = some (.int r) ∧ ω' = wM c' t' ∧ K r c' t')) (L27 : Int32 → Int32 → Int32 → Int32 → Int32 → CS → MT → Prop) (L76 : Int32 → Int32 → Int32 → Int32 → Int32 → Int32 → Int32 → Int32 → Int32 → Int32 → CS → MT → Prop) (hL27 : ∀ (v1 : Int32) (v2 : Int32) (v3 : Int32) (v4 : Int32) (v5 : Int32) (c : CS) (t : MT), L27 v1 v2 v3 v4 v5 c t → Wat κ 27 [(0, .ref 0), (1, .int v1), (2, .int v2), (3, .int v3), (4, .int v4), (5, .int v5)] [] (wM c t)) (hL76 : ∀ (v1 : Int32) (v2 : Int32) (v3 : Int32) (v4 : Int32) (v5 : Int32) (v6 : Int32) (v7 : Int32) (v8 : Int32) (v9 : Int32) (v10 : Int32) (c : CS) (t : MT), L76 v1 v2 v3 v4 v5 v6 v7 v8 v9 v10 c t → Wat κ 76 [(0, .ref 0), (1, .int v1), (2, .int v2), (3, .int v3), (4, .int v4), (5, .int v5), (6, .int v6), (7, .int v7), (8, .int v8), (9, .int v9), (10, .int v10)] [] (wM c t)) (v1 : Int32) (v2 : Int32) (v3 : Int32) (v4 : Int32) (v5 : Int32) (v6 : Int32) (v7 : Int32) (v8 : Int32) (v10 : Int32) (c : CS) (t : MT) (h : nd_X6_findWiden_232 K L27 L76 v1 v2 v3 v4 v5 v6 v7 v8 v10 c t) : Wat κ 232 [(0, .ref 0), (1, .int v1), (2, .int v2), (3, .int v3), (4, .int v4), (5, .int v5), (6, .int v6), (7, .int v7), (8, .int v8), (10, .int v10)] [] (wM c t) := by
    unfold nd_X6_findWiden_232 at h
    refine xr_iconst (pc := 232) κ (v := 0) dX6_findWiden_232 (by decide) ?_
    exact snd_X6_findWiden_233 κ K hQ _ _ hL27 hL76 _ _ _ _ _ _ _ _ _ _ _ _ h
def nd_X6_findWiden_145 (K : Int32 → CS → MT → Prop) (L27 : Int32 → Int32 → Int32 → Int32 → Int32 → CS → MT → Prop) (L76 : Int32 → Int32 → Int32 → Int32 → Int32 → Int32 → Int32 → Int32 → Int32 → Int32 → CS → MT → Prop) (v1 : Int32) (v2 : Int32) (v3 : Int32) (v4 : Int32) (v5 : Int32) (v6 : Int32) (v7 : Int32) (v8 : Int32) (v10 : Int32) (s0 : Int32) (c : CS) (t : MT) : Prop :=
    vp_in v10 3 ∧
    ((m_picked t v10.toNatClampNeg) < 0 →
      nd_X6_findWiden_235 K L27 L76 v1 v2 v3 v4 v5 v6 v7 v8 s0 v10 c t) ∧
    (¬ (m_picked t v10.toNatClampNeg) < 0 →
      vp_in v10 3 ∧
      vp_in (m_picked t v10.toNatClampNeg) 12 ∧
      vp_in (m_picked t v10.toNatClampNeg) 12 ∧
      vp_in v10 3 ∧
      vp_in (m_picked t v10.toNatClampNeg) 12 ∧
      (s0 = 0 →
        nd_X6_findWiden_232 K L27 L76 v1 v2 v3 v4 v5 v6 (v7 + 1) (v8 + (c_price c (((m_picked t v10.toNatClampNeg)).toNatClampNeg))) v10 c (ms_more t (upd (m_more t) (((m_picked t v10.toNatClampNeg)).toNatClampNeg) ((m_more t (((m_picked t v10.toNatClampNeg)).toNatClampNeg)) + (1 : Int32))))) ∧
      (¬ s0 = 0 →
        vp_in v10 3 ∧
        vp_in (m_picked t v10.toNatClampNeg) 12 ∧
        vp_in v10 3 ∧
        vp_in (m_picked t v10.toNatClampNeg) 12 ∧
        ((6 : Int32) < ((c_wide c (((m_picked t v10.toNatClampNeg)).toNatClampNeg)) + (upd (m_more t) (((m_picked t v10.toNatClampNeg)).toNatClampNeg) ((m_more t (((m_picked t v10.toNatClampNeg)).toNatClampNeg)) + (1 : Int32)) (((m_picked t v10.toNatClampNeg)).toNatClampNeg))) →
          nd_X6_findWiden_232 K L27 L76 v1 v2 v3 v4 v5 v6 (v7 + 1) (v8 + (c_price c (((m_picked t v10.toNatClampNeg)).toNatClampNeg))) v10 c (ms_more t (upd (m_more t) (((m_picked t v10.toNatClampNeg)).toNatClampNeg) ((m_more t (((m_picked t v10.toNatClampNeg)).toNatClampNeg)) + (1 : Int32))))) ∧
        (¬ (6 : Int32) < ((c_wide c (((m_picked t v10.toNatClampNeg)).toNatClampNeg)) + (upd (m_more t) (((m_picked t v10.toNatClampNeg)).toNatClampNeg) ((m_more t (((m_picked t v10.toNatClampNeg)).toNatClampNeg)) + (1 : Int32)) (((m_picked t v10.toNatClampNeg)).toNatClampNeg))) →
          nd_X6_findWiden_233 K L27 L76 v1 v2 v3 v4 v5 v6 (v7 + 1) (v8 + (c_price c (((m_picked t v10.toNatClampNeg)).toNatClampNeg))) v10 (1 : Int32) c (ms_more t (upd (m_more t) (((m_picked t v10.toNatClampNeg)).toNatClampNeg) ((m_more t (((m_picked t v10.toNatClampNeg)).toNatClampNeg)) + (1 : Int32)))))))
set_option maxHeartbeats 4000000 in
set_option maxRecDepth 100000 in
theorem snd_X6_findWiden_145 {l : Launch} (κ : XC l xTM cX6_findWiden yX6_findWiden.cls 11 (some .int) 4) (K : Int32 → CS → MT → Prop) (hQ : xRet κ (fun v ω' => ∃ (r : Int32) (c' : CS) (t' : MT), v = some (.int r) ∧ ω' = wM c' t' ∧ K r c' t')) (L27 : Int32 → Int32 → Int32 → Int32 → Int32 → CS → MT → Prop) (L76 : Int32 → Int32 → Int32 → Int32 → Int32 → Int32 → Int32 → Int32 → Int32 → Int32 → CS → MT → Prop) (hL27 : ∀ (v1 : Int32) (v2 : Int32) (v3 : Int32) (v4 : Int32) (v5 : Int32) (c : CS) (t : MT), L27 v1 v2 v3 v4 v5 c t → Wat κ 27 [(0, .ref 0), (1, .int v1), (2, .int v2), (3, .int v3), (4, .int v4), (5, .int v5)] [] (wM c t)) (hL76 : ∀ (v1 : Int32) (v2 : Int32) (v3 : Int32) (v4 : Int32) (v5 : Int32) (v6 : Int32) (v7 : Int32) (v8 : Int32) (v9 : Int32) (v10 : Int32) (c : CS) (t : MT), L76 v1 v2 v3 v4 v5 v6 v7 v8 v9 v10 c t → Wat κ 76 [(0, .ref 0), (1, .int v1), (2, .int v2), (3, .int v3), (4, .int v4), (5, .int v5), (6, .int v6), (7, .int v7), (8, .int v8), (9, .int v9), (10, .int v10)] [] (wM c t)) (v1 : Int32) (v2 : Int32) (v3 : Int32) (v4 : Int32) (v5 : Int32) (v6 : Int32) (v7 : Int32) (v8 : Int32) (v10 : Int32) (s0 : Int32) (c : CS) (t : MT) (h : nd_X6_findWiden_145 K L27 L76 v1 v2 v3 v4 v5 v6 v7 v8 v10 s0 c t) : Wat κ 145 [(0, .ref 0), (1, .int v1), (2, .int v2), (3, .int v3), (4, .int v4), (5, .int v5), (6, .int v6), (7, .int v7), (8, .int v8), (10, .int v10)] [.int s0] (wM c t) := by
    unfold nd_X6_findWiden_145 at h
    refine xr_istore (pc := 145) κ [1, 2, 3, 4, 5, 6, 7, 8, 9, 0, 10] (lv' := [(0, .ref 0), (1, .int v1), (2, .int v2), (3, .int v3), (4, .int v4), (5, .int v5), (6, .int v6), (7, .int v7), (8, .int v8), (9, .int s0), (10, .int v10)]) dX6_findWiden_145 (by decide) rfl ?_
    refine xr_aload_n (pc := 147) κ 0 (x := 0) dX6_findWiden_147 rfl rfl ?_
    refine xr_get (pc := 148) κ xc6 (k := 0) (f := 19) (v := .ref 13) kw_3_42 (by decide) rfl (by decide) rfl dX6_findWiden_148 ?_
    refine xr_iload (pc := 151) κ 10 (x := v10) dX6_findWiden_151 rfl ?_
    obtain ⟨i20, h⟩ := h
    refine xr_iald (pc := 153) κ (k := 13) (n := 3) (f := m_picked t) (by decide) rfl rfl i20 dX6_findWiden_153 ?_
    refine xr_if_lt (pc := 154) κ (tgt := 235) dX6_findWiden_154 (by decide) (fun c21 => ?_) (fun c21 => ?_)
    · have h := h.1 c21
      exact snd_X6_findWiden_235 κ K hQ _ _ hL27 hL76 _ _ _ _ _ _ _ _ _ _ _ _ h
    · have h := h.2 c21
      refine xr_aload_n (pc := 157) κ 0 (x := 0) dX6_findWiden_157 rfl rfl ?_
      refine xr_get (pc := 158) κ xc6 (k := 0) (f := 20) (v := .ref 14) kw_3_43 (by decide) rfl (by decide) rfl dX6_findWiden_158 ?_
      refine xr_aload_n (pc := 161) κ 0 (x := 0) dX6_findWiden_161 rfl rfl ?_
      refine xr_get (pc := 162) κ xc6 (k := 0) (f := 19) (v := .ref 13) kw_3_42 (by decide) rfl (by decide) rfl dX6_findWiden_162 ?_
      refine xr_iload (pc := 165) κ 10 (x := v10) dX6_findWiden_165 rfl ?_
      obtain ⟨i22, h⟩ := h
      refine xr_iald (pc := 167) κ (k := 13) (n := 3) (f := m_picked t) (by decide) rfl rfl i22 dX6_findWiden_167 ?_
      refine xr_dup2 (pc := 168) κ rfl rfl dX6_findWiden_168 ?_
      obtain ⟨i23, h⟩ := h
      refine xr_iald (pc := 169) κ (k := 14) (n := 12) (f := m_more t) (by decide) rfl rfl i23 dX6_findWiden_169 ?_
      refine xr_iconst (pc := 170) κ (v := 1) dX6_findWiden_170 (by decide) ?_
      refine xr_iadd (pc := 171) κ dX6_findWiden_171 ?_
      obtain ⟨i24, h⟩ := h
      refine xr_iast (pc := 172) κ (k := 14) (n := 12) (f := m_more t) (ω' := wM c (ms_more t (upd (m_more t) (((m_picked t v10.toNatClampNeg)).toNatClampNeg) ((m_more t (((m_picked t v10.toNatClampNeg)).toNatClampNeg)) + (1 : Int32))))) (by decide) rfl rfl i24 (wMa_more _ _ _) dX6_findWiden_172 ?_
      refine xr_iinc (pc := 173) κ 7 [1, 2, 3, 4, 5, 6, 7, 0, 8, 9, 10] (lv' := [(0, .ref 0), (1, .int v1), (2, .int v2), (3, .int v3), (4, .int v4), (5, .int v5), (6, .int v6), (7, .int (v7 + 1)), (8, .int v8), (9, .int s0), (10, .int v10)]) (x := v7) (v := v7 + 1) dX6_findWiden_173 rfl rfl (by decide) rfl ?_
      refine xr_iload (pc := 176) κ 8 (x := v8) dX6_findWiden_176 rfl ?_
      refine xr_aload_n (pc := 178) κ 0 (x := 0) dX6_findWiden_178 rfl rfl ?_
      refine xr_get (pc := 179) κ xc6 (k := 0) (f := 5) (v := .ref 4) kw_3_28 (by decide) rfl (by decide) rfl dX6_findWiden_179 ?_
      refine xr_aload_n (pc := 182) κ 0 (x := 0) dX6_findWiden_182 rfl rfl ?_
      refine xr_get (pc := 183) κ xc6 (k := 0) (f := 19) (v := .ref 13) kw_3_42 (by decide) rfl (by decide) rfl dX6_findWiden_183 ?_
      refine xr_iload (pc := 186) κ 10 (x := v10) dX6_findWiden_186 rfl ?_
      obtain ⟨i25, h⟩ := h
      refine xr_iald (pc := 188) κ (k := 13) (n := 3) (f := m_picked t) (by decide) rfl rfl i25 dX6_findWiden_188 ?_
      obtain ⟨i26, h⟩ := h
      refine xr_iald (pc := 189) κ (k := 4) (n := 12) (f := c_price c) (by decide) rfl rfl i26 dX6_findWiden_189 ?_
      refine xr_iadd (pc := 190) κ dX6_findWiden_190 ?_
      refine xr_istore (pc := 191) κ [1, 2, 3, 4, 5, 6, 7, 8, 0, 9, 10] (lv' := [(0, .ref 0), (1, .int v1), (2, .int v2), (3, .int v3), (4, .int v4), (5, .int v5), (6, .int v6), (7, .int (v7 + 1)), (8, .int (v8 + (c_price c (((m_picked t v10.toNatClampNeg)).toNatClampNeg)))), (9, .int s0), (10, .int v10)]) dX6_findWiden_191 (by decide) rfl ?_
      refine xr_iload (pc := 193) κ 9 (x := s0) dX6_findWiden_193 rfl ?_
      refine xr_if_eq (pc := 195) κ (tgt := 232) dX6_findWiden_195 (by decide) (fun c27 => ?_) (fun c27 => ?_)
      · have h := h.1 c27
        refine xr_sub (pc := 232) κ [0, 1, 2, 3, 4, 5, 6, 7, 8, 10] (lv' := [(0, .ref 0), (1, .int v1), (2, .int v2), (3, .int v3), (4, .int v4), (5, .int v5), (6, .int v6), (7, .int (v7 + 1)), (8, .int (v8 + (c_price c (((m_picked t v10.toNatClampNeg)).toNatClampNeg)))), (10, .int v10)]) rfl ?_
        exact snd_X6_findWiden_232 κ K hQ _ _ hL27 hL76 _ _ _ _ _ _ _ _ _ _ _ h
      · have h := h.2 c27
        refine xr_aload_n (pc := 198) κ 0 (x := 0) dX6_findWiden_198 rfl rfl ?_
        refine xr_get (pc := 199) κ xc6 (k := 0) (f := 4) (v := .ref 3) kw_3_27 (by decide) rfl (by decide) rfl dX6_findWiden_199 ?_
        refine xr_aload_n (pc := 202) κ 0 (x := 0) dX6_findWiden_202 rfl rfl ?_
        refine xr_get (pc := 203) κ xc6 (k := 0) (f := 19) (v := .ref 13) kw_3_42 (by decide) rfl (by decide) rfl dX6_findWiden_203 ?_
        refine xr_iload (pc := 206) κ 10 (x := v10) dX6_findWiden_206 rfl ?_
        obtain ⟨i28, h⟩ := h
        refine xr_iald (pc := 208) κ (k := 13) (n := 3) (f := m_picked t) (by decide) rfl rfl i28 dX6_findWiden_208 ?_
        obtain ⟨i29, h⟩ := h
        refine xr_iald (pc := 209) κ (k := 3) (n := 12) (f := c_wide c) (by decide) rfl rfl i29 dX6_findWiden_209 ?_
        refine xr_aload_n (pc := 210) κ 0 (x := 0) dX6_findWiden_210 rfl rfl ?_
        refine xr_get (pc := 211) κ xc6 (k := 0) (f := 20) (v := .ref 14) kw_3_43 (by decide) rfl (by decide) rfl dX6_findWiden_211 ?_
        refine xr_aload_n (pc := 214) κ 0 (x := 0) dX6_findWiden_214 rfl rfl ?_
        refine xr_get (pc := 215) κ xc6 (k := 0) (f := 19) (v := .ref 13) kw_3_42 (by decide) rfl (by decide) rfl dX6_findWiden_215 ?_
        refine xr_iload (pc := 218) κ 10 (x := v10) dX6_findWiden_218 rfl ?_
        obtain ⟨i30, h⟩ := h
        refine xr_iald (pc := 220) κ (k := 13) (n := 3) (f := m_picked t) (by decide) rfl rfl i30 dX6_findWiden_220 ?_
        obtain ⟨i31, h⟩ := h
        refine xr_iald (pc := 221) κ (k := 14) (n := 12) (f := upd (m_more t) (((m_picked t v10.toNatClampNeg)).toNatClampNeg) ((m_more t (((m_picked t v10.toNatClampNeg)).toNatClampNeg)) + (1 : Int32))) (by decide) rfl rfl i31 dX6_findWiden_221 ?_
        refine xr_iadd (pc := 222) κ dX6_findWiden_222 ?_
        refine xr_bipush (pc := 223) κ (v := 6) dX6_findWiden_223 (by decide) ?_
        refine xr_icmp_gt (pc := 225) κ (tgt := 232) dX6_findWiden_225 (by decide) (fun c32 => ?_) (fun c32 => ?_)
        · have h := h.1 c32
          refine xr_sub (pc := 232) κ [0, 1, 2, 3, 4, 5, 6, 7, 8, 10] (lv' := [(0, .ref 0), (1, .int v1), (2, .int v2), (3, .int v3), (4, .int v4), (5, .int v5), (6, .int v6), (7, .int (v7 + 1)), (8, .int (v8 + (c_price c (((m_picked t v10.toNatClampNeg)).toNatClampNeg)))), (10, .int v10)]) rfl ?_
          exact snd_X6_findWiden_232 κ K hQ _ _ hL27 hL76 _ _ _ _ _ _ _ _ _ _ _ h
        · have h := h.2 c32
          refine xr_iconst (pc := 228) κ (v := 1) dX6_findWiden_228 (by decide) ?_
          refine xr_goto (pc := 229) κ (tgt := 233) dX6_findWiden_229 (by decide) ?_
          refine xr_sub (pc := 233) κ [0, 1, 2, 3, 4, 5, 6, 7, 8, 10] (lv' := [(0, .ref 0), (1, .int v1), (2, .int v2), (3, .int v3), (4, .int v4), (5, .int v5), (6, .int v6), (7, .int (v7 + 1)), (8, .int (v8 + (c_price c (((m_picked t v10.toNatClampNeg)).toNatClampNeg)))), (10, .int v10)]) rfl ?_
          exact snd_X6_findWiden_233 κ K hQ _ _ hL27 hL76 _ _ _ _ _ _ _ _ _ _ _ _ h
def nd_X6_findWiden_144 (K : Int32 → CS → MT → Prop) (L27 : Int32 → Int32 → Int32 → Int32 → Int32 → CS → MT → Prop) (L76 : Int32 → Int32 → Int32 → Int32 → Int32 → Int32 → Int32 → Int32 → Int32 → Int32 → CS → MT → Prop) (v1 : Int32) (v2 : Int32) (v3 : Int32) (v4 : Int32) (v5 : Int32) (v6 : Int32) (v7 : Int32) (v8 : Int32) (v10 : Int32) (c : CS) (t : MT) : Prop :=
    nd_X6_findWiden_145 K L27 L76 v1 v2 v3 v4 v5 v6 v7 v8 v10 (0 : Int32) c t
set_option maxHeartbeats 4000000 in
set_option maxRecDepth 100000 in
theorem snd_X6_findWiden_144 {l : Launch} (κ : XC l xTM cX6_findWiden yX6_findWiden.cls 11 (some .int) 4) (K : Int32 → CS → MT → Prop) (hQ : xRet κ (fun v ω' => ∃ (r : Int32) (c' : CS) (t' : MT), v = some (.int r) ∧ ω' = wM c' t' ∧ K r c' t')) (L27 : Int32 → Int32 → Int32 → Int32 → Int32 → CS → MT → Prop) (L76 : Int32 → Int32 → Int32 → Int32 → Int32 → Int32 → Int32 → Int32 → Int32 → Int32 → CS → MT → Prop) (hL27 : ∀ (v1 : Int32) (v2 : Int32) (v3 : Int32) (v4 : Int32) (v5 : Int32) (c : CS) (t : MT), L27 v1 v2 v3 v4 v5 c t → Wat κ 27 [(0, .ref 0), (1, .int v1), (2, .int v2), (3, .int v3), (4, .int v4), (5, .int v5)] [] (wM c t)) (hL76 : ∀ (v1 : Int32) (v2 : Int32) (v3 : Int32) (v4 : Int32) (v5 : Int32) (v6 : Int32) (v7 : Int32) (v8 : Int32) (v9 : Int32) (v10 : Int32) (c : CS) (t : MT), L76 v1 v2 v3 v4 v5 v6 v7 v8 v9 v10 c t → Wat κ 76 [(0, .ref 0), (1, .int v1), (2, .int v2), (3, .int v3), (4, .int v4), (5, .int v5), (6, .int v6), (7, .int v7), (8, .int v8), (9, .int v9), (10, .int v10)] [] (wM c t)) (v1 : Int32) (v2 : Int32) (v3 : Int32) (v4 : Int32) (v5 : Int32) (v6 : Int32) (v7 : Int32) (v8 : Int32) (v10 : Int32) (c : CS) (t : MT) (h : nd_X6_findWiden_144 K L27 L76 v1 v2 v3 v4 v5 v6 v7 v8 v10 c t) : Wat κ 144 [(0, .ref 0), (1, .int v1), (2, .int v2), (3, .int v3), (4, .int v4), (5, .int v5), (6, .int v6), (7, .int v7), (8, .int v8), (10, .int v10)] [] (wM c t) := by
    unfold nd_X6_findWiden_144 at h
    refine xr_iconst (pc := 144) κ (v := 0) dX6_findWiden_144 (by decide) ?_
    exact snd_X6_findWiden_145 κ K hQ _ _ hL27 hL76 _ _ _ _ _ _ _ _ _ _ _ _ h
def nd_X6_findWiden_140 (K : Int32 → CS → MT → Prop) (L27 : Int32 → Int32 → Int32 → Int32 → Int32 → CS → MT → Prop) (L76 : Int32 → Int32 → Int32 → Int32 → Int32 → Int32 → Int32 → Int32 → Int32 → Int32 → CS → MT → Prop) (v1 : Int32) (v2 : Int32) (v3 : Int32) (v4 : Int32) (v5 : Int32) (v6 : Int32) (v7 : Int32) (v8 : Int32) (v10 : Int32) (c : CS) (t : MT) : Prop :=
    nd_X6_findWiden_145 K L27 L76 v1 v2 v3 v4 v5 v6 v7 v8 v10 (1 : Int32) c t
set_option maxHeartbeats 4000000 in
set_option maxRecDepth 100000 in
theorem snd_X6_findWiden_140 {l : Launch} (κ : XC l xTM cX6_findWiden yX6_findWiden.cls 11 (some .int) 4) (K : Int32 → CS → MT → Prop) (hQ : xRet κ (fun v ω' => ∃ (r : Int32) (c' : CS) (t' : MT), v = some (.int r) ∧ ω' = wM c' t' ∧ K r c' t')) (L27 : Int32 → Int32 → Int32 → Int32 → Int32 → CS → MT → Prop) (L76 : Int32 → Int32 → Int32 → Int32 → Int32 → Int32 → Int32 → Int32 → Int32 → Int32 → CS → MT → Prop) (hL27 : ∀ (v1 : Int32) (v2 : Int32) (v3 : Int32) (v4 : Int32) (v5 : Int32) (c : CS) (t : MT), L27 v1 v2 v3 v4 v5 c t → Wat κ 27 [(0, .ref 0), (1, .int v1), (2, .int v2), (3, .int v3), (4, .int v4), (5, .int v5)] [] (wM c t)) (hL76 : ∀ (v1 : Int32) (v2 : Int32) (v3 : Int32) (v4 : Int32) (v5 : Int32) (v6 : Int32) (v7 : Int32) (v8 : Int32) (v9 : Int32) (v10 : Int32) (c : CS) (t : MT), L76 v1 v2 v3 v4 v5 v6 v7 v8 v9 v10 c t → Wat κ 76 [(0, .ref 0), (1, .int v1), (2, .int v2), (3, .int v3), (4, .int v4), (5, .int v5), (6, .int v6), (7, .int v7), (8, .int v8), (9, .int v9), (10, .int v10)] [] (wM c t)) (v1 : Int32) (v2 : Int32) (v3 : Int32) (v4 : Int32) (v5 : Int32) (v6 : Int32) (v7 : Int32) (v8 : Int32) (v10 : Int32) (c : CS) (t : MT) (h : nd_X6_findWiden_140 K L27 L76 v1 v2 v3 v4 v5 v6 v7 v8 v10 c t) : Wat κ 140 [(0, .ref 0), (1, .int v1), (2, .int v2), (3, .int v3), (4, .int v4), (5, .int v5), (6, .int v6), (7, .int v7), (8, .int v8), (10, .int v10)] [] (wM c t) := by
    unfold nd_X6_findWiden_140 at h
    refine xr_iconst (pc := 140) κ (v := 1) dX6_findWiden_140 (by decide) ?_
    refine xr_goto (pc := 141) κ (tgt := 145) dX6_findWiden_141 (by decide) ?_
    exact snd_X6_findWiden_145 κ K hQ _ _ hL27 hL76 _ _ _ _ _ _ _ _ _ _ _ _ h
def nd_X6_findWiden_76 (K : Int32 → CS → MT → Prop) (L27 : Int32 → Int32 → Int32 → Int32 → Int32 → CS → MT → Prop) : Nat → Int32 → Int32 → Int32 → Int32 → Int32 → Int32 → Int32 → Int32 → Int32 → Int32 → CS → MT → Prop
  | 0 => fun _ _ _ _ _ _ _ _ _ _ _ _ => False
  | n + 1 => fun v1 v2 v3 v4 v5 v6 v7 v8 v9 v10 c t =>
    ((3 : Int32) ≤ v10 →
      (v9 = 0 →
        nd_X6_findWiden_321 K L27 v1 v2 v3 v4 v5 c t) ∧
      (¬ v9 = 0 →
        (v2 < v7 →
          nd_X6_findWiden_321 K L27 v1 v2 v3 v4 v5 c t) ∧
        (¬ v2 < v7 →
          (v3 = (-1 : Int32) →
            nd_X6_findWiden_278 K L27 v1 v2 v3 v4 v5 v8 c t) ∧
          (¬ v3 = (-1 : Int32) →
            (v8 < v3 →
              nd_X6_findWiden_278 K L27 v1 v2 v3 v4 v5 v8 c t) ∧
            (¬ v8 < v3 →
              (¬ v8 = v3 →
                nd_X6_findWiden_321 K L27 v1 v2 v3 v4 v5 c t) ∧
              (v8 = v3 →
                wp_X6_isAhead v7 c t (fun r14 c14_ t14_ =>
                  (r14 = 0 →
                    nd_X6_findWiden_321 K L27 v1 v2 v3 v4 v5 c14_ t14_) ∧
                  (¬ r14 = 0 →
                    nd_X6_findWiden_278 K L27 v1 v2 v3 v4 v5 v8 c14_ t14_)))))))) ∧
    (¬ (3 : Int32) ≤ v10 →
      ¬ ((c_wires c) + (1 : Int32)) = 0 ∧
      vp_in v10 3 ∧
      ¬ ((c_wires c) + (1 : Int32)) = 0 ∧
      (v9 = 0 →
        nd_X6_findWiden_144 K L27 (fun v1 v2 v3 v4 v5 v6 v7 v8 v9 v10 c t => nd_X6_findWiden_76 K L27 n v1 v2 v3 v4 v5 v6 v7 v8 v9 v10 c t) v1 v2 v3 v4 v5 (v6 / ((c_wires c) + (1 : Int32))) v7 v8 v10 c (ms_picked t (upd (m_picked t) v10.toNatClampNeg ((v6 - v6 / ((c_wires c) + (1 : Int32)) * ((c_wires c) + (1 : Int32))) - (1 : Int32))))) ∧
      (¬ v9 = 0 →
        (v10 = 0 →
          nd_X6_findWiden_140 K L27 (fun v1 v2 v3 v4 v5 v6 v7 v8 v9 v10 c t => nd_X6_findWiden_76 K L27 n v1 v2 v3 v4 v5 v6 v7 v8 v9 v10 c t) v1 v2 v3 v4 v5 (v6 / ((c_wires c) + (1 : Int32))) v7 v8 v10 c (ms_picked t (upd (m_picked t) v10.toNatClampNeg ((v6 - v6 / ((c_wires c) + (1 : Int32)) * ((c_wires c) + (1 : Int32))) - (1 : Int32))))) ∧
        (¬ v10 = 0 →
          vp_in v10 3 ∧
          vp_in (v10 - (1 : Int32)) 3 ∧
          ((upd (m_picked t) v10.toNatClampNeg ((v6 - v6 / ((c_wires c) + (1 : Int32)) * ((c_wires c) + (1 : Int32))) - (1 : Int32)) v10.toNatClampNeg) < (upd (m_picked t) v10.toNatClampNeg ((v6 - v6 / ((c_wires c) + (1 : Int32)) * ((c_wires c) + (1 : Int32))) - (1 : Int32)) (((v10 - (1 : Int32))).toNatClampNeg)) →
            nd_X6_findWiden_144 K L27 (fun v1 v2 v3 v4 v5 v6 v7 v8 v9 v10 c t => nd_X6_findWiden_76 K L27 n v1 v2 v3 v4 v5 v6 v7 v8 v9 v10 c t) v1 v2 v3 v4 v5 (v6 / ((c_wires c) + (1 : Int32))) v7 v8 v10 c (ms_picked t (upd (m_picked t) v10.toNatClampNeg ((v6 - v6 / ((c_wires c) + (1 : Int32)) * ((c_wires c) + (1 : Int32))) - (1 : Int32))))) ∧
          (¬ (upd (m_picked t) v10.toNatClampNeg ((v6 - v6 / ((c_wires c) + (1 : Int32)) * ((c_wires c) + (1 : Int32))) - (1 : Int32)) v10.toNatClampNeg) < (upd (m_picked t) v10.toNatClampNeg ((v6 - v6 / ((c_wires c) + (1 : Int32)) * ((c_wires c) + (1 : Int32))) - (1 : Int32)) (((v10 - (1 : Int32))).toNatClampNeg)) →
            nd_X6_findWiden_140 K L27 (fun v1 v2 v3 v4 v5 v6 v7 v8 v9 v10 c t => nd_X6_findWiden_76 K L27 n v1 v2 v3 v4 v5 v6 v7 v8 v9 v10 c t) v1 v2 v3 v4 v5 (v6 / ((c_wires c) + (1 : Int32))) v7 v8 v10 c (ms_picked t (upd (m_picked t) v10.toNatClampNeg ((v6 - v6 / ((c_wires c) + (1 : Int32)) * ((c_wires c) + (1 : Int32))) - (1 : Int32))))))))
set_option maxHeartbeats 4000000 in
set_option maxRecDepth 100000 in
theorem snd_X6_findWiden_76 {l : Launch} (κ : XC l xTM cX6_findWiden yX6_findWiden.cls 11 (some .int) 4) (K : Int32 → CS → MT → Prop) (hQ : xRet κ (fun v ω' => ∃ (r : Int32) (c' : CS) (t' : MT), v = some (.int r) ∧ ω' = wM c' t' ∧ K r c' t')) (L27 : Int32 → Int32 → Int32 → Int32 → Int32 → CS → MT → Prop) (hL27 : ∀ (v1 : Int32) (v2 : Int32) (v3 : Int32) (v4 : Int32) (v5 : Int32) (c : CS) (t : MT), L27 v1 v2 v3 v4 v5 c t → Wat κ 27 [(0, .ref 0), (1, .int v1), (2, .int v2), (3, .int v3), (4, .int v4), (5, .int v5)] [] (wM c t)) : ∀ (n : Nat) (v1 : Int32) (v2 : Int32) (v3 : Int32) (v4 : Int32) (v5 : Int32) (v6 : Int32) (v7 : Int32) (v8 : Int32) (v9 : Int32) (v10 : Int32) (c : CS) (t : MT), nd_X6_findWiden_76 K L27 n v1 v2 v3 v4 v5 v6 v7 v8 v9 v10 c t → Wat κ 76 [(0, .ref 0), (1, .int v1), (2, .int v2), (3, .int v3), (4, .int v4), (5, .int v5), (6, .int v6), (7, .int v7), (8, .int v8), (9, .int v9), (10, .int v10)] [] (wM c t) := by
  intro n
  induction n with
  | zero => intro v1 v2 v3 v4 v5 v6 v7 v8 v9 v10 c t h; exact h.elim
  | succ n ih =>
    intro v1 v2 v3 v4 v5 v6 v7 v8 v9 v10 c t h
    unfold nd_X6_findWiden_76 at h
    refine xr_iload (pc := 76) κ 10 (x := v10) dX6_findWiden_76 rfl ?_
    refine xr_iconst (pc := 78) κ (v := 3) dX6_findWiden_78 (by decide) ?_
    refine xr_icmp_ge (pc := 79) κ (tgt := 241) dX6_findWiden_79 (by decide) (fun c3 => ?_) (fun c3 => ?_)
    · have h := h.1 c3
      refine xr_iload (pc := 241) κ 9 (x := v9) dX6_findWiden_241 rfl ?_
      refine xr_if_eq (pc := 243) κ (tgt := 321) dX6_findWiden_243 (by decide) (fun c4 => ?_) (fun c4 => ?_)
      · have h := h.1 c4
        refine xr_sub (pc := 321) κ [0, 1, 2, 3, 4, 5] (lv' := [(0, .ref 0), (1, .int v1), (2, .int v2), (3, .int v3), (4, .int v4), (5, .int v5)]) rfl ?_
        exact snd_X6_findWiden_321 κ K hQ _ hL27 _ _ _ _ _ _ _ h
      · have h := h.2 c4
        refine xr_iload (pc := 246) κ 7 (x := v7) dX6_findWiden_246 rfl ?_
        refine xr_iload_n (pc := 248) κ 2 (x := v2) dX6_findWiden_248 rfl rfl ?_
        refine xr_icmp_gt (pc := 249) κ (tgt := 321) dX6_findWiden_249 (by decide) (fun c5 => ?_) (fun c5 => ?_)
        · have h := h.1 c5
          refine xr_sub (pc := 321) κ [0, 1, 2, 3, 4, 5] (lv' := [(0, .ref 0), (1, .int v1), (2, .int v2), (3, .int v3), (4, .int v4), (5, .int v5)]) rfl ?_
          exact snd_X6_findWiden_321 κ K hQ _ hL27 _ _ _ _ _ _ _ h
        · have h := h.2 c5
          refine xr_iload_n (pc := 252) κ 3 (x := v3) dX6_findWiden_252 rfl rfl ?_
          refine xr_iconst (pc := 253) κ (v := -1) dX6_findWiden_253 (by decide) ?_
          refine xr_icmp_eq (pc := 254) κ (tgt := 278) dX6_findWiden_254 (by decide) (fun c6 => ?_) (fun c6 => ?_)
          · have h := h.1 c6
            refine xr_sub (pc := 278) κ [0, 1, 2, 3, 4, 5, 8] (lv' := [(0, .ref 0), (1, .int v1), (2, .int v2), (3, .int v3), (4, .int v4), (5, .int v5), (8, .int v8)]) rfl ?_
            exact snd_X6_findWiden_278 κ K hQ _ hL27 _ _ _ _ _ _ _ _ h
          · have h := h.2 c6
            refine xr_iload (pc := 257) κ 8 (x := v8) dX6_findWiden_257 rfl ?_
            refine xr_iload_n (pc := 259) κ 3 (x := v3) dX6_findWiden_259 rfl rfl ?_
            refine xr_icmp_lt (pc := 260) κ (tgt := 278) dX6_findWiden_260 (by decide) (fun c12 => ?_) (fun c12 => ?_)
            · have h := h.1 c12
              refine xr_sub (pc := 278) κ [0, 1, 2, 3, 4, 5, 8] (lv' := [(0, .ref 0), (1, .int v1), (2, .int v2), (3, .int v3), (4, .int v4), (5, .int v5), (8, .int v8)]) rfl ?_
              exact snd_X6_findWiden_278 κ K hQ _ hL27 _ _ _ _ _ _ _ _ h
            · have h := h.2 c12
              refine xr_iload (pc := 263) κ 8 (x := v8) dX6_findWiden_263 rfl ?_
              refine xr_iload_n (pc := 265) κ 3 (x := v3) dX6_findWiden_265 rfl rfl ?_
              refine xr_icmp_ne (pc := 266) κ (tgt := 321) dX6_findWiden_266 (by decide) (fun c13 => ?_) (fun c13 => ?_)
              · have h := h.1 c13
                refine xr_sub (pc := 321) κ [0, 1, 2, 3, 4, 5] (lv' := [(0, .ref 0), (1, .int v1), (2, .int v2), (3, .int v3), (4, .int v4), (5, .int v5)]) rfl ?_
                exact snd_X6_findWiden_321 κ K hQ _ hL27 _ _ _ _ _ _ _ h
              · have h := h.2 c13
                refine xr_aload_n (pc := 269) κ 0 (x := 0) dX6_findWiden_269 rfl rfl ?_
                refine xr_iload (pc := 270) κ 7 (x := v7) dX6_findWiden_270 rfl ?_
                refine xr_callV (pc := 272) κ [.int v7] kw_4_2 tg_X6_isAhead (snd_X6_isAhead _ _ _ _ h) rfl (by decide) (by decide) (by decide) rfl (ci := 6) rfl rfl (Nat.le_of_ble_eq_true rfl) dX6_findWiden_272 (fun v9 ω9 hk9 => ?_)
                obtain ⟨r14, c14_, t14_, rfl, rfl, h⟩ := hk9
                skip
                show Wat κ 275 [(0, .ref 0), (1, .int v1), (2, .int v2), (3, .int v3), (4, .int v4), (5, .int v5), (6, .int v6), (7, .int v7), (8, .int v8), (9, .int v9), (10, .int v10)] [.int r14] (wM c14_ t14_)
                refine xr_if_eq (pc := 275) κ (tgt := 321) dX6_findWiden_275 (by decide) (fun c15 => ?_) (fun c15 => ?_)
                · have h := h.1 c15
                  refine xr_sub (pc := 321) κ [0, 1, 2, 3, 4, 5] (lv' := [(0, .ref 0), (1, .int v1), (2, .int v2), (3, .int v3), (4, .int v4), (5, .int v5)]) rfl ?_
                  exact snd_X6_findWiden_321 κ K hQ _ hL27 _ _ _ _ _ _ _ h
                · have h := h.2 c15
                  refine xr_sub (pc := 278) κ [0, 1, 2, 3, 4, 5, 8] (lv' := [(0, .ref 0), (1, .int v1), (2, .int v2), (3, .int v3), (4, .int v4), (5, .int v5), (8, .int v8)]) rfl ?_
                  exact snd_X6_findWiden_278 κ K hQ _ hL27 _ _ _ _ _ _ _ _ h
    · have h := h.2 c3
      refine xr_aload_n (pc := 82) κ 0 (x := 0) dX6_findWiden_82 rfl rfl ?_
      refine xr_get (pc := 83) κ xc6 (k := 0) (f := 19) (v := .ref 13) kw_3_42 (by decide) rfl (by decide) rfl dX6_findWiden_83 ?_
      refine xr_iload (pc := 86) κ 10 (x := v10) dX6_findWiden_86 rfl ?_
      refine xr_iload (pc := 88) κ 6 (x := v6) dX6_findWiden_88 rfl ?_
      refine xr_aload_n (pc := 90) κ 0 (x := 0) dX6_findWiden_90 rfl rfl ?_
      refine xr_get (pc := 91) κ xc6 (k := 0) (f := 1) (v := .int (c_wires c)) kw_3_24 (by decide) rfl (by decide) rfl dX6_findWiden_91 ?_
      refine xr_iconst (pc := 94) κ (v := 1) dX6_findWiden_94 (by decide) ?_
      refine xr_iadd (pc := 95) κ dX6_findWiden_95 ?_
      obtain ⟨i16, h⟩ := h
      refine xr_irem (pc := 96) κ i16 dX6_findWiden_96 ?_
      refine xr_iconst (pc := 97) κ (v := 1) dX6_findWiden_97 (by decide) ?_
      refine xr_isub (pc := 98) κ dX6_findWiden_98 ?_
      obtain ⟨i17, h⟩ := h
      refine xr_iast (pc := 99) κ (k := 13) (n := 3) (f := m_picked t) (ω' := wM c (ms_picked t (upd (m_picked t) v10.toNatClampNeg ((v6 - v6 / ((c_wires c) + (1 : Int32)) * ((c_wires c) + (1 : Int32))) - (1 : Int32))))) (by decide) rfl rfl i17 (wMa_picked _ _ _) dX6_findWiden_99 ?_
      refine xr_iload (pc := 100) κ 6 (x := v6) dX6_findWiden_100 rfl ?_
      refine xr_aload_n (pc := 102) κ 0 (x := 0) dX6_findWiden_102 rfl rfl ?_
      refine xr_get (pc := 103) κ xc6 (k := 0) (f := 1) (v := .int (c_wires c)) kw_3_24 (by decide) rfl (by decide) rfl dX6_findWiden_103 ?_
      refine xr_iconst (pc := 106) κ (v := 1) dX6_findWiden_106 (by decide) ?_
      refine xr_iadd (pc := 107) κ dX6_findWiden_107 ?_
      obtain ⟨i18, h⟩ := h
      refine xr_idiv (pc := 108) κ i18 dX6_findWiden_108 ?_
      refine xr_istore (pc := 109) κ [1, 2, 3, 4, 5, 6, 0, 7, 8, 9, 10] (lv' := [(0, .ref 0), (1, .int v1), (2, .int v2), (3, .int v3), (4, .int v4), (5, .int v5), (6, .int (v6 / ((c_wires c) + (1 : Int32)))), (7, .int v7), (8, .int v8), (9, .int v9), (10, .int v10)]) dX6_findWiden_109 (by decide) rfl ?_
      refine xr_iload (pc := 111) κ 9 (x := v9) dX6_findWiden_111 rfl ?_
      refine xr_if_eq (pc := 113) κ (tgt := 144) dX6_findWiden_113 (by decide) (fun c19 => ?_) (fun c19 => ?_)
      · have h := h.1 c19
        refine xr_sub (pc := 144) κ [0, 1, 2, 3, 4, 5, 6, 7, 8, 10] (lv' := [(0, .ref 0), (1, .int v1), (2, .int v2), (3, .int v3), (4, .int v4), (5, .int v5), (6, .int (v6 / ((c_wires c) + (1 : Int32)))), (7, .int v7), (8, .int v8), (10, .int v10)]) rfl ?_
        exact snd_X6_findWiden_144 κ K hQ _ _ hL27 ih _ _ _ _ _ _ _ _ _ _ _ h
      · have h := h.2 c19
        refine xr_iload (pc := 116) κ 10 (x := v10) dX6_findWiden_116 rfl ?_
        refine xr_if_eq (pc := 118) κ (tgt := 140) dX6_findWiden_118 (by decide) (fun c33 => ?_) (fun c33 => ?_)
        · have h := h.1 c33
          refine xr_sub (pc := 140) κ [0, 1, 2, 3, 4, 5, 6, 7, 8, 10] (lv' := [(0, .ref 0), (1, .int v1), (2, .int v2), (3, .int v3), (4, .int v4), (5, .int v5), (6, .int (v6 / ((c_wires c) + (1 : Int32)))), (7, .int v7), (8, .int v8), (10, .int v10)]) rfl ?_
          exact snd_X6_findWiden_140 κ K hQ _ _ hL27 ih _ _ _ _ _ _ _ _ _ _ _ h
        · have h := h.2 c33
          refine xr_aload_n (pc := 121) κ 0 (x := 0) dX6_findWiden_121 rfl rfl ?_
          refine xr_get (pc := 122) κ xc6 (k := 0) (f := 19) (v := .ref 13) kw_3_42 (by decide) rfl (by decide) rfl dX6_findWiden_122 ?_
          refine xr_iload (pc := 125) κ 10 (x := v10) dX6_findWiden_125 rfl ?_
          obtain ⟨i34, h⟩ := h
          refine xr_iald (pc := 127) κ (k := 13) (n := 3) (f := upd (m_picked t) v10.toNatClampNeg ((v6 - v6 / ((c_wires c) + (1 : Int32)) * ((c_wires c) + (1 : Int32))) - (1 : Int32))) (by decide) rfl rfl i34 dX6_findWiden_127 ?_
          refine xr_aload_n (pc := 128) κ 0 (x := 0) dX6_findWiden_128 rfl rfl ?_
          refine xr_get (pc := 129) κ xc6 (k := 0) (f := 19) (v := .ref 13) kw_3_42 (by decide) rfl (by decide) rfl dX6_findWiden_129 ?_
          refine xr_iload (pc := 132) κ 10 (x := v10) dX6_findWiden_132 rfl ?_
          refine xr_iconst (pc := 134) κ (v := 1) dX6_findWiden_134 (by decide) ?_
          refine xr_isub (pc := 135) κ dX6_findWiden_135 ?_
          obtain ⟨i35, h⟩ := h
          refine xr_iald (pc := 136) κ (k := 13) (n := 3) (f := upd (m_picked t) v10.toNatClampNeg ((v6 - v6 / ((c_wires c) + (1 : Int32)) * ((c_wires c) + (1 : Int32))) - (1 : Int32))) (by decide) rfl rfl i35 dX6_findWiden_136 ?_
          refine xr_icmp_lt (pc := 137) κ (tgt := 144) dX6_findWiden_137 (by decide) (fun c36 => ?_) (fun c36 => ?_)
          · have h := h.1 c36
            refine xr_sub (pc := 144) κ [0, 1, 2, 3, 4, 5, 6, 7, 8, 10] (lv' := [(0, .ref 0), (1, .int v1), (2, .int v2), (3, .int v3), (4, .int v4), (5, .int v5), (6, .int (v6 / ((c_wires c) + (1 : Int32)))), (7, .int v7), (8, .int v8), (10, .int v10)]) rfl ?_
            exact snd_X6_findWiden_144 κ K hQ _ _ hL27 ih _ _ _ _ _ _ _ _ _ _ _ h
          · have h := h.2 c36
            refine xr_sub (pc := 140) κ [0, 1, 2, 3, 4, 5, 6, 7, 8, 10] (lv' := [(0, .ref 0), (1, .int v1), (2, .int v2), (3, .int v3), (4, .int v4), (5, .int v5), (6, .int (v6 / ((c_wires c) + (1 : Int32)))), (7, .int v7), (8, .int v8), (10, .int v10)]) rfl ?_
            exact snd_X6_findWiden_140 κ K hQ _ _ hL27 ih _ _ _ _ _ _ _ _ _ _ _ h
def nd_X6_findWiden_50 (K : Int32 → CS → MT → Prop) (L27 : Int32 → Int32 → Int32 → Int32 → Int32 → CS → MT → Prop) : Nat → Int32 → Int32 → Int32 → Int32 → Int32 → Int32 → Int32 → Int32 → Int32 → Int32 → CS → MT → Prop
  | 0 => fun _ _ _ _ _ _ _ _ _ _ _ _ => False
  | n + 1 => fun v1 v2 v3 v4 v5 v6 v7 v8 v9 v10 c t =>
    ((c_wires c) ≤ v10 →
      ∃ n76 : Nat, nd_X6_findWiden_76 K L27 n76 v1 v2 v3 v4 v5 v6 v7 v8 v9 (0 : Int32) c t) ∧
    (¬ (c_wires c) ≤ v10 →
      vp_in v10 12 ∧
      nd_X6_findWiden_50 K L27 n v1 v2 v3 v4 v5 v6 v7 v8 v9 (v10 + 1) c (ms_more t (upd (m_more t) v10.toNatClampNeg (0 : Int32))))
set_option maxHeartbeats 4000000 in
set_option maxRecDepth 100000 in
theorem snd_X6_findWiden_50 {l : Launch} (κ : XC l xTM cX6_findWiden yX6_findWiden.cls 11 (some .int) 4) (K : Int32 → CS → MT → Prop) (hQ : xRet κ (fun v ω' => ∃ (r : Int32) (c' : CS) (t' : MT), v = some (.int r) ∧ ω' = wM c' t' ∧ K r c' t')) (L27 : Int32 → Int32 → Int32 → Int32 → Int32 → CS → MT → Prop) (hL27 : ∀ (v1 : Int32) (v2 : Int32) (v3 : Int32) (v4 : Int32) (v5 : Int32) (c : CS) (t : MT), L27 v1 v2 v3 v4 v5 c t → Wat κ 27 [(0, .ref 0), (1, .int v1), (2, .int v2), (3, .int v3), (4, .int v4), (5, .int v5)] [] (wM c t)) : ∀ (n : Nat) (v1 : Int32) (v2 : Int32) (v3 : Int32) (v4 : Int32) (v5 : Int32) (v6 : Int32) (v7 : Int32) (v8 : Int32) (v9 : Int32) (v10 : Int32) (c : CS) (t : MT), nd_X6_findWiden_50 K L27 n v1 v2 v3 v4 v5 v6 v7 v8 v9 v10 c t → Wat κ 50 [(0, .ref 0), (1, .int v1), (2, .int v2), (3, .int v3), (4, .int v4), (5, .int v5), (6, .int v6), (7, .int v7), (8, .int v8), (9, .int v9), (10, .int v10)] [] (wM c t) := by
  intro n
  induction n with
  | zero => intro v1 v2 v3 v4 v5 v6 v7 v8 v9 v10 c t h; exact h.elim
  | succ n ih =>
    intro v1 v2 v3 v4 v5 v6 v7 v8 v9 v10 c t h
    unfold nd_X6_findWiden_50 at h
    refine xr_iload (pc := 50) κ 10 (x := v10) dX6_findWiden_50 rfl ?_
    refine xr_aload_n (pc := 52) κ 0 (x := 0) dX6_findWiden_52 rfl rfl ?_
    refine xr_get (pc := 53) κ xc6 (k := 0) (f := 1) (v := .int (c_wires c)) kw_3_24 (by decide) rfl (by decide) rfl dX6_findWiden_53 ?_
    refine xr_icmp_ge (pc := 56) κ (tgt := 73) dX6_findWiden_56 (by decide) (fun c2 => ?_) (fun c2 => ?_)
    · have h := h.1 c2
      refine xr_iconst (pc := 73) κ (v := 0) dX6_findWiden_73 (by decide) ?_
      refine xr_istore (pc := 74) κ [1, 2, 3, 4, 5, 6, 7, 8, 9, 10, 0] (lv' := [(0, .ref 0), (1, .int v1), (2, .int v2), (3, .int v3), (4, .int v4), (5, .int v5), (6, .int v6), (7, .int v7), (8, .int v8), (9, .int v9), (10, .int (0 : Int32))]) dX6_findWiden_74 (by decide) rfl ?_
      obtain ⟨n0, h⟩ := h
      exact snd_X6_findWiden_76 κ K hQ _ hL27 n0 _ _ _ _ _ _ _ _ _ _ _ _ h
    · have h := h.2 c2
      refine xr_aload_n (pc := 59) κ 0 (x := 0) dX6_findWiden_59 rfl rfl ?_
      refine xr_get (pc := 60) κ xc6 (k := 0) (f := 20) (v := .ref 14) kw_3_43 (by decide) rfl (by decide) rfl dX6_findWiden_60 ?_
      refine xr_iload (pc := 63) κ 10 (x := v10) dX6_findWiden_63 rfl ?_
      refine xr_iconst (pc := 65) κ (v := 0) dX6_findWiden_65 (by decide) ?_
      obtain ⟨i37, h⟩ := h
      refine xr_iast (pc := 66) κ (k := 14) (n := 12) (f := m_more t) (ω' := wM c (ms_more t (upd (m_more t) v10.toNatClampNeg (0 : Int32)))) (by decide) rfl rfl i37 (wMa_more _ _ _) dX6_findWiden_66 ?_
      refine xr_iinc (pc := 67) κ 10 [1, 2, 3, 4, 5, 6, 7, 8, 9, 10, 0] (lv' := [(0, .ref 0), (1, .int v1), (2, .int v2), (3, .int v3), (4, .int v4), (5, .int v5), (6, .int v6), (7, .int v7), (8, .int v8), (9, .int v9), (10, .int (v10 + 1))]) (x := v10) (v := v10 + 1) dX6_findWiden_67 rfl rfl (by decide) rfl ?_
      refine xr_goto (pc := 70) κ (tgt := 50) dX6_findWiden_70 (by decide) ?_
      exact ih _ _ _ _ _ _ _ _ _ _ _ _ h
def nd_X6_findWiden_27 (K : Int32 → CS → MT → Prop) : Nat → Int32 → Int32 → Int32 → Int32 → Int32 → CS → MT → Prop
  | 0 => fun _ _ _ _ _ _ _ => False
  | n + 1 => fun v1 v2 v3 v4 v5 c t =>
    (v4 ≤ v5 →
      K v3 c t) ∧
    (¬ v4 ≤ v5 →
      ∃ n50 : Nat, nd_X6_findWiden_50 K (fun v1 v2 v3 v4 v5 c t => nd_X6_findWiden_27 K n v1 v2 v3 v4 v5 c t) n50 v1 v2 v3 v4 v5 v5 (0 : Int32) (0 : Int32) (1 : Int32) (0 : Int32) c t)
set_option maxHeartbeats 4000000 in
set_option maxRecDepth 100000 in
theorem snd_X6_findWiden_27 {l : Launch} (κ : XC l xTM cX6_findWiden yX6_findWiden.cls 11 (some .int) 4) (K : Int32 → CS → MT → Prop) (hQ : xRet κ (fun v ω' => ∃ (r : Int32) (c' : CS) (t' : MT), v = some (.int r) ∧ ω' = wM c' t' ∧ K r c' t')) : ∀ (n : Nat) (v1 : Int32) (v2 : Int32) (v3 : Int32) (v4 : Int32) (v5 : Int32) (c : CS) (t : MT), nd_X6_findWiden_27 K n v1 v2 v3 v4 v5 c t → Wat κ 27 [(0, .ref 0), (1, .int v1), (2, .int v2), (3, .int v3), (4, .int v4), (5, .int v5)] [] (wM c t) := by
  intro n
  induction n with
  | zero => intro v1 v2 v3 v4 v5 c t h; exact h.elim
  | succ n ih =>
    intro v1 v2 v3 v4 v5 c t h
    unfold nd_X6_findWiden_27 at h
    refine xr_iload (pc := 27) κ 5 (x := v5) dX6_findWiden_27 rfl ?_
    refine xr_iload (pc := 29) κ 4 (x := v4) dX6_findWiden_29 rfl ?_
    refine xr_icmp_ge (pc := 31) κ (tgt := 327) dX6_findWiden_31 (by decide) (fun c1 => ?_) (fun c1 => ?_)
    · have h := h.1 c1
      refine xr_iload_n (pc := 327) κ 3 (x := v3) dX6_findWiden_327 rfl rfl ?_
      exact xr_iret (pc := 328) κ _ hQ dX6_findWiden_328 ⟨_, _, _, rfl, rfl, h⟩
    · have h := h.2 c1
      refine xr_iload (pc := 34) κ 5 (x := v5) dX6_findWiden_34 rfl ?_
      refine xr_istore (pc := 36) κ [1, 2, 3, 4, 5, 6, 0] (lv' := [(0, .ref 0), (1, .int v1), (2, .int v2), (3, .int v3), (4, .int v4), (5, .int v5), (6, .int v5)]) dX6_findWiden_36 (by decide) rfl ?_
      refine xr_iconst (pc := 38) κ (v := 0) dX6_findWiden_38 (by decide) ?_
      refine xr_istore (pc := 39) κ [1, 2, 3, 4, 5, 6, 7, 0] (lv' := [(0, .ref 0), (1, .int v1), (2, .int v2), (3, .int v3), (4, .int v4), (5, .int v5), (6, .int v5), (7, .int (0 : Int32))]) dX6_findWiden_39 (by decide) rfl ?_
      refine xr_iconst (pc := 41) κ (v := 0) dX6_findWiden_41 (by decide) ?_
      refine xr_istore (pc := 42) κ [1, 2, 3, 4, 5, 6, 7, 8, 0] (lv' := [(0, .ref 0), (1, .int v1), (2, .int v2), (3, .int v3), (4, .int v4), (5, .int v5), (6, .int v5), (7, .int (0 : Int32)), (8, .int (0 : Int32))]) dX6_findWiden_42 (by decide) rfl ?_
      refine xr_iconst (pc := 44) κ (v := 1) dX6_findWiden_44 (by decide) ?_
      refine xr_istore (pc := 45) κ [1, 2, 3, 4, 5, 6, 7, 8, 9, 0] (lv' := [(0, .ref 0), (1, .int v1), (2, .int v2), (3, .int v3), (4, .int v4), (5, .int v5), (6, .int v5), (7, .int (0 : Int32)), (8, .int (0 : Int32)), (9, .int (1 : Int32))]) dX6_findWiden_45 (by decide) rfl ?_
      refine xr_iconst (pc := 47) κ (v := 0) dX6_findWiden_47 (by decide) ?_
      refine xr_istore (pc := 48) κ [1, 2, 3, 4, 5, 6, 7, 8, 9, 10, 0] (lv' := [(0, .ref 0), (1, .int v1), (2, .int v2), (3, .int v3), (4, .int v4), (5, .int v5), (6, .int v5), (7, .int (0 : Int32)), (8, .int (0 : Int32)), (9, .int (1 : Int32)), (10, .int (0 : Int32))]) dX6_findWiden_48 (by decide) rfl ?_
      obtain ⟨n0, h⟩ := h
      exact snd_X6_findWiden_50 κ K hQ _ ih n0 _ _ _ _ _ _ _ _ _ _ _ _ h
def wp_X6_findWiden (lim : Int32) (u : Int32) (c : CS) (t : MT) (K : Int32 → CS → MT → Prop) : Prop :=
    ∃ n27 : Nat, nd_X6_findWiden_27 K n27 lim u (-1 : Int32) ((((c_wires c) + (1 : Int32)) * ((c_wires c) + (1 : Int32))) * ((c_wires c) + (1 : Int32))) (0 : Int32) c t
set_option maxHeartbeats 4000000 in
set_option maxRecDepth 100000 in
theorem snd_X6_findWiden {l : Launch} (lim : Int32) (u : Int32) (c : CS) (t : MT) (K : Int32 → CS → MT → Prop) (h : wp_X6_findWiden lim u c t K) : XM l xTM yX6_findWiden cX6_findWiden 11 (some .int) 4 [.ref 0, .int lim, .int u] (wM c t) (fun v ω' => ∃ (r : Int32) (c' : CS) (t' : MT), v = some (.int r) ∧ ω' = wM c' t' ∧ K r c' t') := by
    refine XM.of (by decide) (Nat.le_of_ble_eq_true rfl) (fun κ hQ => ?_)
    show Wat κ 0 [(0, .ref 0), (1, .int lim), (2, .int u)] [] (wM c t)
    unfold wp_X6_findWiden at h
    refine xr_iconst (pc := 0) κ (v := -1) dX6_findWiden_0 (by decide) ?_
    refine xr_istore_n (pc := 1) κ [1, 2, 3, 0] (lv' := [(0, .ref 0), (1, .int lim), (2, .int u), (3, .int (-1 : Int32))]) dX6_findWiden_1 rfl (by decide) rfl ?_
    refine xr_aload_n (pc := 2) κ 0 (x := 0) dX6_findWiden_2 rfl rfl ?_
    refine xr_get (pc := 3) κ xc6 (k := 0) (f := 1) (v := .int (c_wires c)) kw_3_24 (by decide) rfl (by decide) rfl dX6_findWiden_3 ?_
    refine xr_iconst (pc := 6) κ (v := 1) dX6_findWiden_6 (by decide) ?_
    refine xr_iadd (pc := 7) κ dX6_findWiden_7 ?_
    refine xr_aload_n (pc := 8) κ 0 (x := 0) dX6_findWiden_8 rfl rfl ?_
    refine xr_get (pc := 9) κ xc6 (k := 0) (f := 1) (v := .int (c_wires c)) kw_3_24 (by decide) rfl (by decide) rfl dX6_findWiden_9 ?_
    refine xr_iconst (pc := 12) κ (v := 1) dX6_findWiden_12 (by decide) ?_
    refine xr_iadd (pc := 13) κ dX6_findWiden_13 ?_
    refine xr_imul (pc := 14) κ dX6_findWiden_14 ?_
    refine xr_aload_n (pc := 15) κ 0 (x := 0) dX6_findWiden_15 rfl rfl ?_
    refine xr_get (pc := 16) κ xc6 (k := 0) (f := 1) (v := .int (c_wires c)) kw_3_24 (by decide) rfl (by decide) rfl dX6_findWiden_16 ?_
    refine xr_iconst (pc := 19) κ (v := 1) dX6_findWiden_19 (by decide) ?_
    refine xr_iadd (pc := 20) κ dX6_findWiden_20 ?_
    refine xr_imul (pc := 21) κ dX6_findWiden_21 ?_
    refine xr_istore (pc := 22) κ [1, 2, 3, 4, 0] (lv' := [(0, .ref 0), (1, .int lim), (2, .int u), (3, .int (-1 : Int32)), (4, .int ((((c_wires c) + (1 : Int32)) * ((c_wires c) + (1 : Int32))) * ((c_wires c) + (1 : Int32))))]) dX6_findWiden_22 (by decide) rfl ?_
    refine xr_iconst (pc := 24) κ (v := 0) dX6_findWiden_24 (by decide) ?_
    refine xr_istore (pc := 25) κ [1, 2, 3, 4, 5, 0] (lv' := [(0, .ref 0), (1, .int lim), (2, .int u), (3, .int (-1 : Int32)), (4, .int ((((c_wires c) + (1 : Int32)) * ((c_wires c) + (1 : Int32))) * ((c_wires c) + (1 : Int32)))), (5, .int (0 : Int32))]) dX6_findWiden_25 (by decide) rfl ?_
    obtain ⟨n0, h⟩ := h
    exact snd_X6_findWiden_27 κ K hQ n0 _ _ _ _ _ _ _ h
-- ChipVoltsModel.widen(II)I, level 5
def wp_X6_widen (lim : Int32) (u : Int32) (c : CS) (t : MT) (K : Int32 → CS → MT → Prop) : Prop :=
    wp_X6_in lim (0 : Int32) (1000 : Int32) (fun r1 =>
      (r1 = 0 →
        K (-2 : Int32) c t) ∧
      (¬ r1 = 0 →
        wp_X6_in u (0 : Int32) (3 : Int32) (fun r3 =>
          (¬ r3 = 0 →
            wp_X6_isFed c t (fun r5 c5_ t5_ =>
              (r5 = 0 →
                K (-3 : Int32) c5_ t5_) ∧
              (¬ r5 = 0 →
                wp_X6_findWiden lim u c5_ t5_ (fun r7 c7_ t7_ =>
                  K r7 c7_ t7_)))) ∧
          (r3 = 0 →
            K (-2 : Int32) c t))))
set_option maxHeartbeats 4000000 in
set_option maxRecDepth 100000 in
theorem snd_X6_widen {l : Launch} (lim : Int32) (u : Int32) (c : CS) (t : MT) (K : Int32 → CS → MT → Prop) (h : wp_X6_widen lim u c t K) : XM l xTM yX6_widen cX6_widen 3 (some .int) 5 [.ref 0, .int lim, .int u] (wM c t) (fun v ω' => ∃ (r : Int32) (c' : CS) (t' : MT), v = some (.int r) ∧ ω' = wM c' t' ∧ K r c' t') := by
    refine XM.of (by decide) (Nat.le_of_ble_eq_true rfl) (fun κ hQ => ?_)
    show Wat κ 0 [(0, .ref 0), (1, .int lim), (2, .int u)] [] (wM c t)
    unfold wp_X6_widen at h
    refine xr_iload_n (pc := 0) κ 1 (x := lim) dX6_widen_0 rfl rfl ?_
    refine xr_iconst (pc := 1) κ (v := 0) dX6_widen_1 (by decide) ?_
    refine xr_sipush (pc := 2) κ (v := 1000) dX6_widen_2 (by decide) ?_
    refine xr_callS (pc := 5) κ [.int lim, .int (0 : Int32), .int (1000 : Int32)] kw_3_106 tg_X6_in (snd_X6_in _ _ _ _ h) rfl (by decide) (by decide) (Nat.le_of_ble_eq_true rfl) dX6_widen_5 (fun v9 ω9 hk9 => ?_)
    obtain ⟨r1, rfl, e9, h⟩ := hk9
    rw [e9]
    show Wat κ 8 [(0, .ref 0), (1, .int lim), (2, .int u)] [.int r1] (wM c t)
    refine xr_if_eq (pc := 8) κ (tgt := 20) dX6_widen_8 (by decide) (fun c2 => ?_) (fun c2 => ?_)
    · have h := h.1 c2
      refine xr_bipush (pc := 20) κ (v := -2) dX6_widen_20 (by decide) ?_
      exact xr_iret (pc := 22) κ _ hQ dX6_widen_22 ⟨_, _, _, rfl, rfl, h⟩
    · have h := h.2 c2
      refine xr_iload_n (pc := 11) κ 2 (x := u) dX6_widen_11 rfl rfl ?_
      refine xr_iconst (pc := 12) κ (v := 0) dX6_widen_12 (by decide) ?_
      refine xr_iconst (pc := 13) κ (v := 3) dX6_widen_13 (by decide) ?_
      refine xr_callS (pc := 14) κ [.int u, .int (0 : Int32), .int (3 : Int32)] kw_3_106 tg_X6_in (snd_X6_in _ _ _ _ h) rfl (by decide) (by decide) (Nat.le_of_ble_eq_true rfl) dX6_widen_14 (fun v9 ω9 hk9 => ?_)
      obtain ⟨r3, rfl, e9, h⟩ := hk9
      rw [e9]
      show Wat κ 17 [(0, .ref 0), (1, .int lim), (2, .int u)] [.int r3] (wM c t)
      refine xr_if_ne (pc := 17) κ (tgt := 23) dX6_widen_17 (by decide) (fun c4 => ?_) (fun c4 => ?_)
      · have h := h.1 c4
        refine xr_aload_n (pc := 23) κ 0 (x := 0) dX6_widen_23 rfl rfl ?_
        refine xr_callV (pc := 24) κ [] kw_3_134 tg_X6_isFed (snd_X6_isFed  _ _ _ h) rfl (by decide) (by decide) (by decide) rfl (ci := 6) rfl rfl (Nat.le_of_ble_eq_true rfl) dX6_widen_24 (fun v9 ω9 hk9 => ?_)
        obtain ⟨r5, c5_, t5_, rfl, rfl, h⟩ := hk9
        skip
        show Wat κ 27 [(0, .ref 0), (1, .int lim), (2, .int u)] [.int r5] (wM c5_ t5_)
        refine xr_if_eq (pc := 27) κ (tgt := 39) dX6_widen_27 (by decide) (fun c6 => ?_) (fun c6 => ?_)
        · have h := h.1 c6
          refine xr_bipush (pc := 39) κ (v := -3) dX6_widen_39 (by decide) ?_
          exact xr_iret (pc := 41) κ _ hQ dX6_widen_41 ⟨_, _, _, rfl, rfl, h⟩
        · have h := h.2 c6
          refine xr_aload_n (pc := 30) κ 0 (x := 0) dX6_widen_30 rfl rfl ?_
          refine xr_iload_n (pc := 31) κ 1 (x := lim) dX6_widen_31 rfl rfl ?_
          refine xr_iload_n (pc := 32) κ 2 (x := u) dX6_widen_32 rfl rfl ?_
          refine xr_callV (pc := 33) κ [.int lim, .int u] kw_3_238 tg_X6_findWiden (snd_X6_findWiden _ _ _ _ _ h) rfl (by decide) (by decide) (by decide) rfl (ci := 6) rfl rfl (Nat.le_of_ble_eq_true rfl) dX6_widen_33 (fun v9 ω9 hk9 => ?_)
          obtain ⟨r7, c7_, t7_, rfl, rfl, h⟩ := hk9
          skip
          show Wat κ 36 [(0, .ref 0), (1, .int lim), (2, .int u)] [.int r7] (wM c7_ t7_)
          refine xr_goto (pc := 36) κ (tgt := 41) dX6_widen_36 (by decide) ?_
          exact xr_iret (pc := 41) κ _ hQ dX6_widen_41 ⟨_, _, _, rfl, rfl, h⟩
      · have h := h.2 c4
        refine xr_bipush (pc := 20) κ (v := -2) dX6_widen_20 (by decide) ?_
        exact xr_iret (pc := 22) κ _ hQ dX6_widen_22 ⟨_, _, _, rfl, rfl, h⟩
-- ChipVoltsModel.widened(III)I, level 5
def wp_X6_widened (lim : Int32) (u : Int32) (w : Int32) (c : CS) (t : MT) (K : Int32 → CS → MT → Prop) : Prop :=
    wp_X6_in lim (0 : Int32) (1000 : Int32) (fun r1 =>
      (r1 = 0 →
        K (-2 : Int32) c t) ∧
      (¬ r1 = 0 →
        wp_X6_in u (0 : Int32) (3 : Int32) (fun r3 =>
          (r3 = 0 →
            K (-2 : Int32) c t) ∧
          (¬ r3 = 0 →
            wp_X6_in w (0 : Int32) ((c_wires c) - (1 : Int32)) (fun r5 =>
              (¬ r5 = 0 →
                wp_X6_isFed c t (fun r7 c7_ t7_ =>
                  (¬ r7 = 0 →
                    wp_X6_findWiden lim u c7_ t7_ (fun r9 c9_ t9_ =>
                      (¬ r9 = (-1 : Int32) →
                        vp_in w 12 ∧
                        K (m_bestMore t9_ w.toNatClampNeg) c9_ t9_) ∧
                      (r9 = (-1 : Int32) →
                        K (-1 : Int32) c9_ t9_))) ∧
                  (r7 = 0 →
                    K (-3 : Int32) c7_ t7_))) ∧
              (r5 = 0 →
                K (-2 : Int32) c t))))))
set_option maxHeartbeats 4000000 in
set_option maxRecDepth 100000 in
theorem snd_X6_widened {l : Launch} (lim : Int32) (u : Int32) (w : Int32) (c : CS) (t : MT) (K : Int32 → CS → MT → Prop) (h : wp_X6_widened lim u w c t K) : XM l xTM yX6_widened cX6_widened 4 (some .int) 5 [.ref 0, .int lim, .int u, .int w] (wM c t) (fun v ω' => ∃ (r : Int32) (c' : CS) (t' : MT), v = some (.int r) ∧ ω' = wM c' t' ∧ K r c' t') := by
    refine XM.of (by decide) (Nat.le_of_ble_eq_true rfl) (fun κ hQ => ?_)
    show Wat κ 0 [(0, .ref 0), (1, .int lim), (2, .int u), (3, .int w)] [] (wM c t)
    unfold wp_X6_widened at h
    refine xr_iload_n (pc := 0) κ 1 (x := lim) dX6_widened_0 rfl rfl ?_
    refine xr_iconst (pc := 1) κ (v := 0) dX6_widened_1 (by decide) ?_
    refine xr_sipush (pc := 2) κ (v := 1000) dX6_widened_2 (by decide) ?_
    refine xr_callS (pc := 5) κ [.int lim, .int (0 : Int32), .int (1000 : Int32)] kw_3_106 tg_X6_in (snd_X6_in _ _ _ _ h) rfl (by decide) (by decide) (Nat.le_of_ble_eq_true rfl) dX6_widened_5 (fun v9 ω9 hk9 => ?_)
    obtain ⟨r1, rfl, e9, h⟩ := hk9
    rw [e9]
    show Wat κ 8 [(0, .ref 0), (1, .int lim), (2, .int u), (3, .int w)] [.int r1] (wM c t)
    refine xr_if_eq (pc := 8) κ (tgt := 34) dX6_widened_8 (by decide) (fun c2 => ?_) (fun c2 => ?_)
    · have h := h.1 c2
      refine xr_bipush (pc := 34) κ (v := -2) dX6_widened_34 (by decide) ?_
      exact xr_iret (pc := 36) κ _ hQ dX6_widened_36 ⟨_, _, _, rfl, rfl, h⟩
    · have h := h.2 c2
      refine xr_iload_n (pc := 11) κ 2 (x := u) dX6_widened_11 rfl rfl ?_
      refine xr_iconst (pc := 12) κ (v := 0) dX6_widened_12 (by decide) ?_
      refine xr_iconst (pc := 13) κ (v := 3) dX6_widened_13 (by decide) ?_
      refine xr_callS (pc := 14) κ [.int u, .int (0 : Int32), .int (3 : Int32)] kw_3_106 tg_X6_in (snd_X6_in _ _ _ _ h) rfl (by decide) (by decide) (Nat.le_of_ble_eq_true rfl) dX6_widened_14 (fun v9 ω9 hk9 => ?_)
      obtain ⟨r3, rfl, e9, h⟩ := hk9
      rw [e9]
      show Wat κ 17 [(0, .ref 0), (1, .int lim), (2, .int u), (3, .int w)] [.int r3] (wM c t)
      refine xr_if_eq (pc := 17) κ (tgt := 34) dX6_widened_17 (by decide) (fun c4 => ?_) (fun c4 => ?_)
      · have h := h.1 c4
        refine xr_bipush (pc := 34) κ (v := -2) dX6_widened_34 (by decide) ?_
        exact xr_iret (pc := 36) κ _ hQ dX6_widened_36 ⟨_, _, _, rfl, rfl, h⟩
      · have h := h.2 c4
        refine xr_iload_n (pc := 20) κ 3 (x := w) dX6_widened_20 rfl rfl ?_
        refine xr_iconst (pc := 21) κ (v := 0) dX6_widened_21 (by decide) ?_
        refine xr_aload_n (pc := 22) κ 0 (x := 0) dX6_widened_22 rfl rfl ?_
        refine xr_get (pc := 23) κ xc6 (k := 0) (f := 1) (v := .int (c_wires c)) kw_3_24 (by decide) rfl (by decide) rfl dX6_widened_23 ?_
        refine xr_iconst (pc := 26) κ (v := 1) dX6_widened_26 (by decide) ?_
        refine xr_isub (pc := 27) κ dX6_widened_27 ?_
        refine xr_callS (pc := 28) κ [.int w, .int (0 : Int32), .int ((c_wires c) - (1 : Int32))] kw_3_106 tg_X6_in (snd_X6_in _ _ _ _ h) rfl (by decide) (by decide) (Nat.le_of_ble_eq_true rfl) dX6_widened_28 (fun v9 ω9 hk9 => ?_)
        obtain ⟨r5, rfl, e9, h⟩ := hk9
        rw [e9]
        show Wat κ 31 [(0, .ref 0), (1, .int lim), (2, .int u), (3, .int w)] [.int r5] (wM c t)
        refine xr_if_ne (pc := 31) κ (tgt := 37) dX6_widened_31 (by decide) (fun c6 => ?_) (fun c6 => ?_)
        · have h := h.1 c6
          refine xr_aload_n (pc := 37) κ 0 (x := 0) dX6_widened_37 rfl rfl ?_
          refine xr_callV (pc := 38) κ [] kw_3_134 tg_X6_isFed (snd_X6_isFed  _ _ _ h) rfl (by decide) (by decide) (by decide) rfl (ci := 6) rfl rfl (Nat.le_of_ble_eq_true rfl) dX6_widened_38 (fun v9 ω9 hk9 => ?_)
          obtain ⟨r7, c7_, t7_, rfl, rfl, h⟩ := hk9
          skip
          show Wat κ 41 [(0, .ref 0), (1, .int lim), (2, .int u), (3, .int w)] [.int r7] (wM c7_ t7_)
          refine xr_if_ne (pc := 41) κ (tgt := 47) dX6_widened_41 (by decide) (fun c8 => ?_) (fun c8 => ?_)
          · have h := h.1 c8
            refine xr_aload_n (pc := 47) κ 0 (x := 0) dX6_widened_47 rfl rfl ?_
            refine xr_iload_n (pc := 48) κ 1 (x := lim) dX6_widened_48 rfl rfl ?_
            refine xr_iload_n (pc := 49) κ 2 (x := u) dX6_widened_49 rfl rfl ?_
            refine xr_callV (pc := 50) κ [.int lim, .int u] kw_3_238 tg_X6_findWiden (snd_X6_findWiden _ _ _ _ _ h) rfl (by decide) (by decide) (by decide) rfl (ci := 6) rfl rfl (Nat.le_of_ble_eq_true rfl) dX6_widened_50 (fun v9 ω9 hk9 => ?_)
            obtain ⟨r9, c9_, t9_, rfl, rfl, h⟩ := hk9
            skip
            show Wat κ 53 [(0, .ref 0), (1, .int lim), (2, .int u), (3, .int w)] [.int r9] (wM c9_ t9_)
            refine xr_iconst (pc := 53) κ (v := -1) dX6_widened_53 (by decide) ?_
            refine xr_icmp_ne (pc := 54) κ (tgt := 61) dX6_widened_54 (by decide) (fun c10 => ?_) (fun c10 => ?_)
            · have h := h.1 c10
              refine xr_aload_n (pc := 61) κ 0 (x := 0) dX6_widened_61 rfl rfl ?_
              refine xr_get (pc := 62) κ xc6 (k := 0) (f := 21) (v := .ref 15) kw_3_44 (by decide) rfl (by decide) rfl dX6_widened_62 ?_
              refine xr_iload_n (pc := 65) κ 3 (x := w) dX6_widened_65 rfl rfl ?_
              obtain ⟨i11, h⟩ := h
              refine xr_iald (pc := 66) κ (k := 15) (n := 12) (f := m_bestMore t9_) (by decide) rfl rfl i11 dX6_widened_66 ?_
              exact xr_iret (pc := 67) κ _ hQ dX6_widened_67 ⟨_, _, _, rfl, rfl, h⟩
            · have h := h.2 c10
              refine xr_iconst (pc := 57) κ (v := -1) dX6_widened_57 (by decide) ?_
              refine xr_goto (pc := 58) κ (tgt := 67) dX6_widened_58 (by decide) ?_
              exact xr_iret (pc := 67) κ _ hQ dX6_widened_67 ⟨_, _, _, rfl, rfl, h⟩
          · have h := h.2 c8
            refine xr_bipush (pc := 44) κ (v := -3) dX6_widened_44 (by decide) ?_
            exact xr_iret (pc := 46) κ _ hQ dX6_widened_46 ⟨_, _, _, rfl, rfl, h⟩
        · have h := h.2 c6
          refine xr_bipush (pc := 34) κ (v := -2) dX6_widened_34 (by decide) ?_
          exact xr_iret (pc := 36) κ _ hQ dX6_widened_36 ⟨_, _, _, rfl, rfl, h⟩
-- ChipVoltsModel.fallOf()J, level 2
def nd_X6_fallOf_88 (K : Int64 → CS → MT → Prop) (L25 : Int64 → Int32 → CS → MT → Prop) (v3 : Int32) (v4 : Int32) (s0 : Int64) (c : CS) (t : MT) : Prop :=
    vp_in v4 6 ∧
    vp_in (c_sits c v4.toNatClampNeg) 7 ∧
    vp_in v4 6 ∧
    vp_in (c_sits c v4.toNatClampNeg) 7 ∧
    L25 s0 (v3 + 1) c (ms_now t (upd (m_now t) (((c_sits c v4.toNatClampNeg)).toNatClampNeg) ((m_now t (((c_sits c v4.toNatClampNeg)).toNatClampNeg)) - ((2 : Int32) * (c_most c v4.toNatClampNeg)))))
set_option maxHeartbeats 4000000 in
set_option maxRecDepth 100000 in
theorem snd_X6_fallOf_88 {l : Launch} (κ : XC l xTM cX6_fallOf yX6_fallOf.cls 7 (some .long) 2) (K : Int64 → CS → MT → Prop) (hQ : xRet κ (fun v ω' => ∃ (r : Int64) (c' : CS) (t' : MT), v = some (.long r) ∧ ω' = wM c' t' ∧ K r c' t')) (L25 : Int64 → Int32 → CS → MT → Prop) (hL25 : ∀ (v1 : Int64) (v3 : Int32) (c : CS) (t : MT), L25 v1 v3 c t → Wat κ 25 [(0, .ref 0), (1, .long v1), (3, .int v3)] [] (wM c t)) (v3 : Int32) (v4 : Int32) (s0 : Int64) (c : CS) (t : MT) (h : nd_X6_fallOf_88 K L25 v3 v4 s0 c t) : Wat κ 88 [(0, .ref 0), (3, .int v3), (4, .int v4)] [.long s0] (wM c t) := by
    unfold nd_X6_fallOf_88 at h
    refine xr_lstore_n (pc := 88) κ [1, 0, 2, 3] (lv' := [(0, .ref 0), (1, .long s0), (3, .int v3), (4, .int v4)]) dX6_fallOf_88 rfl (by decide) rfl ?_
    refine xr_aload_n (pc := 89) κ 0 (x := 0) dX6_fallOf_89 rfl rfl ?_
    refine xr_get (pc := 90) κ xc6 (k := 0) (f := 24) (v := .ref 18) kw_3_47 (by decide) rfl (by decide) rfl dX6_fallOf_90 ?_
    refine xr_aload_n (pc := 93) κ 0 (x := 0) dX6_fallOf_93 rfl rfl ?_
    refine xr_get (pc := 94) κ xc6 (k := 0) (f := 9) (v := .ref 6) kw_3_32 (by decide) rfl (by decide) rfl dX6_fallOf_94 ?_
    refine xr_iload (pc := 97) κ 3 (x := v4) dX6_fallOf_97 rfl ?_
    obtain ⟨i10, h⟩ := h
    refine xr_iald (pc := 99) κ (k := 6) (n := 6) (f := c_sits c) (by decide) rfl rfl i10 dX6_fallOf_99 ?_
    refine xr_dup2 (pc := 100) κ rfl rfl dX6_fallOf_100 ?_
    obtain ⟨i11, h⟩ := h
    refine xr_iald (pc := 101) κ (k := 18) (n := 7) (f := m_now t) (by decide) rfl rfl i11 dX6_fallOf_101 ?_
    refine xr_iconst (pc := 102) κ (v := 2) dX6_fallOf_102 (by decide) ?_
    refine xr_aload_n (pc := 103) κ 0 (x := 0) dX6_fallOf_103 rfl rfl ?_
    refine xr_get (pc := 104) κ xc6 (k := 0) (f := 10) (v := .ref 7) kw_3_33 (by decide) rfl (by decide) rfl dX6_fallOf_104 ?_
    refine xr_iload (pc := 107) κ 3 (x := v4) dX6_fallOf_107 rfl ?_
    obtain ⟨i12, h⟩ := h
    refine xr_iald (pc := 109) κ (k := 7) (n := 6) (f := c_most c) (by decide) rfl rfl i12 dX6_fallOf_109 ?_
    refine xr_imul (pc := 110) κ dX6_fallOf_110 ?_
    refine xr_isub (pc := 111) κ dX6_fallOf_111 ?_
    obtain ⟨i13, h⟩ := h
    refine xr_iast (pc := 112) κ (k := 18) (n := 7) (f := m_now t) (ω' := wM c (ms_now t (upd (m_now t) (((c_sits c v4.toNatClampNeg)).toNatClampNeg) ((m_now t (((c_sits c v4.toNatClampNeg)).toNatClampNeg)) - ((2 : Int32) * (c_most c v4.toNatClampNeg)))))) (by decide) rfl rfl i13 (wMa_now _ _ _) dX6_fallOf_112 ?_
    refine xr_iinc (pc := 113) κ 2 [1, 2, 0, 3] (lv' := [(0, .ref 0), (1, .long s0), (3, .int (v3 + 1)), (4, .int v4)]) (x := v3) (v := v3 + 1) dX6_fallOf_113 rfl rfl (by decide) rfl ?_
    refine xr_goto (pc := 116) κ (tgt := 25) dX6_fallOf_116 (by decide) ?_
    refine xr_sub (pc := 25) κ [0, 1, 2] (lv' := [(0, .ref 0), (1, .long s0), (3, .int (v3 + 1))]) rfl ?_
    exact hL25 _ _ _ _ h
def nd_X6_fallOf_25 (K : Int64 → CS → MT → Prop) : Nat → Int64 → Int32 → CS → MT → Prop
  | 0 => fun _ _ _ _ => False
  | n + 1 => fun v1 v3 c t =>
    ((c_nb c) ≤ v3 →
      K v1 c t) ∧
    (¬ (c_nb c) ≤ v3 →
      vp_in v3 6 ∧
      vp_in (m_order t v3.toNatClampNeg) 6 ∧
      vp_in (c_sits c (((m_order t v3.toNatClampNeg)).toNatClampNeg)) 7 ∧
      vp_in (m_order t v3.toNatClampNeg) 6 ∧
      vp_in (c_sits c (((m_order t v3.toNatClampNeg)).toNatClampNeg)) 7 ∧
      wp_X6_mostFallN c (ms_now t (upd (m_now t) (((c_sits c (((m_order t v3.toNatClampNeg)).toNatClampNeg))).toNatClampNeg) ((m_now t (((c_sits c (((m_order t v3.toNatClampNeg)).toNatClampNeg))).toNatClampNeg)) + ((3 : Int32) * (c_most c (((m_order t v3.toNatClampNeg)).toNatClampNeg)))))) (fun r8 c8_ t8_ =>
        (r8 ≤ v1 →
          nd_X6_fallOf_88 K (fun v1 v3 c t => nd_X6_fallOf_25 K n v1 v3 c t) v3 (m_order t v3.toNatClampNeg) v1 c8_ t8_) ∧
        (¬ r8 ≤ v1 →
          nd_X6_fallOf_88 K (fun v1 v3 c t => nd_X6_fallOf_25 K n v1 v3 c t) v3 (m_order t v3.toNatClampNeg) r8 c8_ t8_)))
set_option maxHeartbeats 4000000 in
set_option maxRecDepth 100000 in
theorem snd_X6_fallOf_25 {l : Launch} (κ : XC l xTM cX6_fallOf yX6_fallOf.cls 7 (some .long) 2) (K : Int64 → CS → MT → Prop) (hQ : xRet κ (fun v ω' => ∃ (r : Int64) (c' : CS) (t' : MT), v = some (.long r) ∧ ω' = wM c' t' ∧ K r c' t')) : ∀ (n : Nat) (v1 : Int64) (v3 : Int32) (c : CS) (t : MT), nd_X6_fallOf_25 K n v1 v3 c t → Wat κ 25 [(0, .ref 0), (1, .long v1), (3, .int v3)] [] (wM c t) := by
  intro n
  induction n with
  | zero => intro v1 v3 c t h; exact h.elim
  | succ n ih =>
    intro v1 v3 c t h
    unfold nd_X6_fallOf_25 at h
    refine xr_iload_n (pc := 25) κ 2 (x := v3) dX6_fallOf_25 rfl rfl ?_
    refine xr_aload_n (pc := 26) κ 0 (x := 0) dX6_fallOf_26 rfl rfl ?_
    refine xr_get (pc := 27) κ xc6 (k := 0) (f := 8) (v := .int (c_nb c)) kw_3_31 (by decide) rfl (by decide) rfl dX6_fallOf_27 ?_
    refine xr_icmp_ge (pc := 30) κ (tgt := 119) dX6_fallOf_30 (by decide) (fun c2 => ?_) (fun c2 => ?_)
    · have h := h.1 c2
      refine xr_lload_n (pc := 119) κ 1 (x := v1) dX6_fallOf_119 rfl rfl ?_
      exact xr_lret (pc := 120) κ _ hQ dX6_fallOf_120 ⟨_, _, _, rfl, rfl, h⟩
    · have h := h.2 c2
      refine xr_aload_n (pc := 33) κ 0 (x := 0) dX6_fallOf_33 rfl rfl ?_
      refine xr_get (pc := 34) κ xc6 (k := 0) (f := 22) (v := .ref 16) kw_3_45 (by decide) rfl (by decide) rfl dX6_fallOf_34 ?_
      refine xr_iload_n (pc := 37) κ 2 (x := v3) dX6_fallOf_37 rfl rfl ?_
      obtain ⟨i3, h⟩ := h
      refine xr_iald (pc := 38) κ (k := 16) (n := 6) (f := m_order t) (by decide) rfl rfl i3 dX6_fallOf_38 ?_
      refine xr_istore (pc := 39) κ [1, 2, 3, 0] (lv' := [(0, .ref 0), (1, .long v1), (3, .int v3), (4, .int (m_order t v3.toNatClampNeg))]) dX6_fallOf_39 (by decide) rfl ?_
      refine xr_aload_n (pc := 41) κ 0 (x := 0) dX6_fallOf_41 rfl rfl ?_
      refine xr_get (pc := 42) κ xc6 (k := 0) (f := 24) (v := .ref 18) kw_3_47 (by decide) rfl (by decide) rfl dX6_fallOf_42 ?_
      refine xr_aload_n (pc := 45) κ 0 (x := 0) dX6_fallOf_45 rfl rfl ?_
      refine xr_get (pc := 46) κ xc6 (k := 0) (f := 9) (v := .ref 6) kw_3_32 (by decide) rfl (by decide) rfl dX6_fallOf_46 ?_
      refine xr_iload (pc := 49) κ 3 (x := (m_order t v3.toNatClampNeg)) dX6_fallOf_49 rfl ?_
      obtain ⟨i4, h⟩ := h
      refine xr_iald (pc := 51) κ (k := 6) (n := 6) (f := c_sits c) (by decide) rfl rfl i4 dX6_fallOf_51 ?_
      refine xr_dup2 (pc := 52) κ rfl rfl dX6_fallOf_52 ?_
      obtain ⟨i5, h⟩ := h
      refine xr_iald (pc := 53) κ (k := 18) (n := 7) (f := m_now t) (by decide) rfl rfl i5 dX6_fallOf_53 ?_
      refine xr_iconst (pc := 54) κ (v := 3) dX6_fallOf_54 (by decide) ?_
      refine xr_aload_n (pc := 55) κ 0 (x := 0) dX6_fallOf_55 rfl rfl ?_
      refine xr_get (pc := 56) κ xc6 (k := 0) (f := 10) (v := .ref 7) kw_3_33 (by decide) rfl (by decide) rfl dX6_fallOf_56 ?_
      refine xr_iload (pc := 59) κ 3 (x := (m_order t v3.toNatClampNeg)) dX6_fallOf_59 rfl ?_
      obtain ⟨i6, h⟩ := h
      refine xr_iald (pc := 61) κ (k := 7) (n := 6) (f := c_most c) (by decide) rfl rfl i6 dX6_fallOf_61 ?_
      refine xr_imul (pc := 62) κ dX6_fallOf_62 ?_
      refine xr_iadd (pc := 63) κ dX6_fallOf_63 ?_
      obtain ⟨i7, h⟩ := h
      refine xr_iast (pc := 64) κ (k := 18) (n := 7) (f := m_now t) (ω' := wM c (ms_now t (upd (m_now t) (((c_sits c (((m_order t v3.toNatClampNeg)).toNatClampNeg))).toNatClampNeg) ((m_now t (((c_sits c (((m_order t v3.toNatClampNeg)).toNatClampNeg))).toNatClampNeg)) + ((3 : Int32) * (c_most c (((m_order t v3.toNatClampNeg)).toNatClampNeg))))))) (by decide) rfl rfl i7 (wMa_now _ _ _) dX6_fallOf_64 ?_
      refine xr_aload_n (pc := 65) κ 0 (x := 0) dX6_fallOf_65 rfl rfl ?_
      refine xr_aload_n (pc := 66) κ 0 (x := 0) dX6_fallOf_66 rfl rfl ?_
      refine xr_get (pc := 67) κ xc6 (k := 0) (f := 24) (v := .ref 18) kw_3_47 (by decide) rfl (by decide) rfl dX6_fallOf_67 ?_
      refine xr_callV (pc := 70) κ [.ref 18] kw_3_215 tg_X6_mostFall (snd_X6_mostFallN  _ _ _ h) rfl (by decide) (by decide) (by decide) rfl (ci := 6) rfl rfl (Nat.le_of_ble_eq_true rfl) dX6_fallOf_70 (fun v9 ω9 hk9 => ?_)
      obtain ⟨r8, c8_, t8_, rfl, rfl, h⟩ := hk9
      skip
      show Wat κ 73 [(0, .ref 0), (1, .long v1), (3, .int v3), (4, .int (m_order t v3.toNatClampNeg))] [.long r8] (wM c8_ t8_)
      refine xr_lstore (pc := 73) κ [1, 2, 3, 4, 0] (lv' := [(0, .ref 0), (1, .long v1), (3, .int v3), (4, .int (m_order t v3.toNatClampNeg)), (5, .long r8)]) dX6_fallOf_73 (by decide) rfl ?_
      refine xr_lload (pc := 75) κ 4 (x := r8) dX6_fallOf_75 rfl ?_
      refine xr_lload_n (pc := 77) κ 1 (x := v1) dX6_fallOf_77 rfl rfl ?_
      refine xr_lcmp_le (pc := 78) κ (tgt := 87) dX6_fallOf_78 dX6_fallOf_79 (by decide) (fun c9 => ?_) (fun c9 => ?_)
      · have h := h.1 c9
        refine xr_lload_n (pc := 87) κ 1 (x := v1) dX6_fallOf_87 rfl rfl ?_
        refine xr_sub (pc := 88) κ [0, 2, 3] (lv' := [(0, .ref 0), (3, .int v3), (4, .int (m_order t v3.toNatClampNeg))]) rfl ?_
        exact snd_X6_fallOf_88 κ K hQ _ ih _ _ _ _ _ h
      · have h := h.2 c9
        refine xr_lload (pc := 82) κ 4 (x := r8) dX6_fallOf_82 rfl ?_
        refine xr_goto (pc := 84) κ (tgt := 88) dX6_fallOf_84 (by decide) ?_
        refine xr_sub (pc := 88) κ [0, 2, 3] (lv' := [(0, .ref 0), (3, .int v3), (4, .int (m_order t v3.toNatClampNeg))]) rfl ?_
        exact snd_X6_fallOf_88 κ K hQ _ ih _ _ _ _ _ h
def nd_X6_fallOf_4 (K : Int64 → CS → MT → Prop) : Nat → Int64 → Int32 → CS → MT → Prop
  | 0 => fun _ _ _ _ => False
  | n + 1 => fun v1 v3 c t =>
    ((7 : Int32) ≤ v3 →
      ∃ n25 : Nat, nd_X6_fallOf_25 K n25 v1 (0 : Int32) c t) ∧
    (¬ (7 : Int32) ≤ v3 →
      vp_in v3 7 ∧
      nd_X6_fallOf_4 K n v1 (v3 + 1) c (ms_now t (upd (m_now t) v3.toNatClampNeg (0 : Int32))))
set_option maxHeartbeats 4000000 in
set_option maxRecDepth 100000 in
theorem snd_X6_fallOf_4 {l : Launch} (κ : XC l xTM cX6_fallOf yX6_fallOf.cls 7 (some .long) 2) (K : Int64 → CS → MT → Prop) (hQ : xRet κ (fun v ω' => ∃ (r : Int64) (c' : CS) (t' : MT), v = some (.long r) ∧ ω' = wM c' t' ∧ K r c' t')) : ∀ (n : Nat) (v1 : Int64) (v3 : Int32) (c : CS) (t : MT), nd_X6_fallOf_4 K n v1 v3 c t → Wat κ 4 [(0, .ref 0), (1, .long v1), (3, .int v3)] [] (wM c t) := by
  intro n
  induction n with
  | zero => intro v1 v3 c t h; exact h.elim
  | succ n ih =>
    intro v1 v3 c t h
    unfold nd_X6_fallOf_4 at h
    refine xr_iload_n (pc := 4) κ 2 (x := v3) dX6_fallOf_4 rfl rfl ?_
    refine xr_bipush (pc := 5) κ (v := 7) dX6_fallOf_5 (by decide) ?_
    refine xr_icmp_ge (pc := 7) κ (tgt := 23) dX6_fallOf_7 (by decide) (fun c1 => ?_) (fun c1 => ?_)
    · have h := h.1 c1
      refine xr_iconst (pc := 23) κ (v := 0) dX6_fallOf_23 (by decide) ?_
      refine xr_istore_n (pc := 24) κ [1, 2, 0] (lv' := [(0, .ref 0), (1, .long v1), (3, .int (0 : Int32))]) dX6_fallOf_24 rfl (by decide) rfl ?_
      obtain ⟨n0, h⟩ := h
      exact snd_X6_fallOf_25 κ K hQ n0 _ _ _ _ h
    · have h := h.2 c1
      refine xr_aload_n (pc := 10) κ 0 (x := 0) dX6_fallOf_10 rfl rfl ?_
      refine xr_get (pc := 11) κ xc6 (k := 0) (f := 24) (v := .ref 18) kw_3_47 (by decide) rfl (by decide) rfl dX6_fallOf_11 ?_
      refine xr_iload_n (pc := 14) κ 2 (x := v3) dX6_fallOf_14 rfl rfl ?_
      refine xr_iconst (pc := 15) κ (v := 0) dX6_fallOf_15 (by decide) ?_
      obtain ⟨i14, h⟩ := h
      refine xr_iast (pc := 16) κ (k := 18) (n := 7) (f := m_now t) (ω' := wM c (ms_now t (upd (m_now t) v3.toNatClampNeg (0 : Int32)))) (by decide) rfl rfl i14 (wMa_now _ _ _) dX6_fallOf_16 ?_
      refine xr_iinc (pc := 17) κ 2 [1, 2, 0] (lv' := [(0, .ref 0), (1, .long v1), (3, .int (v3 + 1))]) (x := v3) (v := v3 + 1) dX6_fallOf_17 rfl rfl (by decide) rfl ?_
      refine xr_goto (pc := 20) κ (tgt := 4) dX6_fallOf_20 (by decide) ?_
      exact ih _ _ _ _ h
def wp_X6_fallOf (c : CS) (t : MT) (K : Int64 → CS → MT → Prop) : Prop :=
    ∃ n4 : Nat, nd_X6_fallOf_4 K n4 (0 : Int64) (0 : Int32) c t
set_option maxHeartbeats 4000000 in
set_option maxRecDepth 100000 in
theorem snd_X6_fallOf {l : Launch} (c : CS) (t : MT) (K : Int64 → CS → MT → Prop) (h : wp_X6_fallOf  c t K) : XM l xTM yX6_fallOf cX6_fallOf 7 (some .long) 2 [.ref 0] (wM c t) (fun v ω' => ∃ (r : Int64) (c' : CS) (t' : MT), v = some (.long r) ∧ ω' = wM c' t' ∧ K r c' t') := by
    refine XM.of (by decide) (Nat.le_of_ble_eq_true rfl) (fun κ hQ => ?_)
    show Wat κ 0 [(0, .ref 0)] [] (wM c t)
    unfold wp_X6_fallOf at h
    refine xr_lconst (pc := 0) κ (v := 0) dX6_fallOf_0 (by decide) ?_
    refine xr_lstore_n (pc := 1) κ [1, 0] (lv' := [(0, .ref 0), (1, .long (0 : Int64))]) dX6_fallOf_1 rfl (by decide) rfl ?_
    refine xr_iconst (pc := 2) κ (v := 0) dX6_fallOf_2 (by decide) ?_
    refine xr_istore_n (pc := 3) κ [1, 2, 0] (lv' := [(0, .ref 0), (1, .long (0 : Int64)), (3, .int (0 : Int32))]) dX6_fallOf_3 rfl (by decide) rfl ?_
    obtain ⟨n0, h⟩ := h
    exact snd_X6_fallOf_4 κ K hQ n0 _ _ _ _ h
-- ChipVoltsModel.exchange(II)V, level 0
def wp_X6_exchange (i : Int32) (j : Int32) (c : CS) (t : MT) (K : CS → MT → Prop) : Prop :=
    vp_in i 6 ∧
    vp_in j 6 ∧
    vp_in i 6 ∧
    vp_in j 6 ∧
    K c (ms_order t (upd (upd (m_order t) i.toNatClampNeg (m_order t j.toNatClampNeg)) j.toNatClampNeg (m_order t i.toNatClampNeg)))
set_option maxHeartbeats 4000000 in
set_option maxRecDepth 100000 in
theorem snd_X6_exchange {l : Launch} (i : Int32) (j : Int32) (c : CS) (t : MT) (K : CS → MT → Prop) (h : wp_X6_exchange i j c t K) : XM l xTM yX6_exchange cX6_exchange 4 (none) 0 [.ref 0, .int i, .int j] (wM c t) (fun v ω' => ∃ (c' : CS) (t' : MT), v = none ∧ ω' = wM c' t' ∧ K c' t') := by
    refine XM.of (by decide) (Nat.le_of_ble_eq_true rfl) (fun κ hQ => ?_)
    show Wat κ 0 [(0, .ref 0), (1, .int i), (2, .int j)] [] (wM c t)
    unfold wp_X6_exchange at h
    refine xr_aload_n (pc := 0) κ 0 (x := 0) dX6_exchange_0 rfl rfl ?_
    refine xr_get (pc := 1) κ xc6 (k := 0) (f := 22) (v := .ref 16) kw_3_45 (by decide) rfl (by decide) rfl dX6_exchange_1 ?_
    refine xr_iload_n (pc := 4) κ 1 (x := i) dX6_exchange_4 rfl rfl ?_
    obtain ⟨i1, h⟩ := h
    refine xr_iald (pc := 5) κ (k := 16) (n := 6) (f := m_order t) (by decide) rfl rfl i1 dX6_exchange_5 ?_
    refine xr_istore_n (pc := 6) κ [1, 2, 3, 0] (lv' := [(0, .ref 0), (1, .int i), (2, .int j), (3, .int (m_order t i.toNatClampNeg))]) dX6_exchange_6 rfl (by decide) rfl ?_
    refine xr_aload_n (pc := 7) κ 0 (x := 0) dX6_exchange_7 rfl rfl ?_
    refine xr_get (pc := 8) κ xc6 (k := 0) (f := 22) (v := .ref 16) kw_3_45 (by decide) rfl (by decide) rfl dX6_exchange_8 ?_
    refine xr_iload_n (pc := 11) κ 1 (x := i) dX6_exchange_11 rfl rfl ?_
    refine xr_aload_n (pc := 12) κ 0 (x := 0) dX6_exchange_12 rfl rfl ?_
    refine xr_get (pc := 13) κ xc6 (k := 0) (f := 22) (v := .ref 16) kw_3_45 (by decide) rfl (by decide) rfl dX6_exchange_13 ?_
    refine xr_iload_n (pc := 16) κ 2 (x := j) dX6_exchange_16 rfl rfl ?_
    obtain ⟨i2, h⟩ := h
    refine xr_iald (pc := 17) κ (k := 16) (n := 6) (f := m_order t) (by decide) rfl rfl i2 dX6_exchange_17 ?_
    obtain ⟨i3, h⟩ := h
    refine xr_iast (pc := 18) κ (k := 16) (n := 6) (f := m_order t) (ω' := wM c (ms_order t (upd (m_order t) i.toNatClampNeg (m_order t j.toNatClampNeg)))) (by decide) rfl rfl i3 (wMa_order _ _ _) dX6_exchange_18 ?_
    refine xr_aload_n (pc := 19) κ 0 (x := 0) dX6_exchange_19 rfl rfl ?_
    refine xr_get (pc := 20) κ xc6 (k := 0) (f := 22) (v := .ref 16) kw_3_45 (by decide) rfl (by decide) rfl dX6_exchange_20 ?_
    refine xr_iload_n (pc := 23) κ 2 (x := j) dX6_exchange_23 rfl rfl ?_
    refine xr_iload_n (pc := 24) κ 3 (x := (m_order t i.toNatClampNeg)) dX6_exchange_24 rfl rfl ?_
    obtain ⟨i4, h⟩ := h
    refine xr_iast (pc := 25) κ (k := 16) (n := 6) (f := upd (m_order t) i.toNatClampNeg (m_order t j.toNatClampNeg)) (ω' := wM c (ms_order t (upd (upd (m_order t) i.toNatClampNeg (m_order t j.toNatClampNeg)) j.toNatClampNeg (m_order t i.toNatClampNeg)))) (by decide) rfl rfl i4 (wMa_order _ _ _) dX6_exchange_25 ?_
    exact xr_vret (pc := 26) κ _ hQ dX6_exchange_26 ⟨_, _, rfl, rfl, h⟩
-- ChipVoltsModel.nextOrder()Z, level 1
def nd_X6_nextOrder_86 (K : Int32 → CS → MT → Prop) : Nat → Int32 → Int32 → CS → MT → Prop
  | 0 => fun _ _ _ _ => False
  | n + 1 => fun v3 v4 c t =>
    (v4 ≤ v3 →
      K (1 : Int32) c t) ∧
    (¬ v4 ≤ v3 →
      wp_X6_exchange v3 v4 c t (fun c8_ t8_ =>
        nd_X6_nextOrder_86 K n (v3 + 1) (v4 + (-1)) c8_ t8_))
set_option maxHeartbeats 4000000 in
set_option maxRecDepth 100000 in
theorem snd_X6_nextOrder_86 {l : Launch} (κ : XC l xTM cX6_nextOrder yX6_nextOrder.cls 5 (some .boolean) 1) (K : Int32 → CS → MT → Prop) (hQ : xRet κ (fun v ω' => ∃ (r : Int32) (c' : CS) (t' : MT), v = some (.int r) ∧ ω' = wM c' t' ∧ K r c' t')) : ∀ (n : Nat) (v3 : Int32) (v4 : Int32) (c : CS) (t : MT), nd_X6_nextOrder_86 K n v3 v4 c t → Wat κ 86 [(0, .ref 0), (3, .int v3), (4, .int v4)] [] (wM c t) := by
  intro n
  induction n with
  | zero => intro v3 v4 c t h; exact h.elim
  | succ n ih =>
    intro v3 v4 c t h
    unfold nd_X6_nextOrder_86 at h
    refine xr_iload_n (pc := 86) κ 1 (x := v3) dX6_nextOrder_86 rfl rfl ?_
    refine xr_iload (pc := 87) κ 2 (x := v4) dX6_nextOrder_87 rfl ?_
    refine xr_icmp_ge (pc := 89) κ (tgt := 108) dX6_nextOrder_89 (by decide) (fun c7 => ?_) (fun c7 => ?_)
    · have h := h.1 c7
      refine xr_iconst (pc := 108) κ (v := 1) dX6_nextOrder_108 (by decide) ?_
      exact xr_zret (pc := 109) κ _ hQ rfl dX6_nextOrder_109 ⟨_, _, _, rfl, rfl, h⟩
    · have h := h.2 c7
      refine xr_aload_n (pc := 92) κ 0 (x := 0) dX6_nextOrder_92 rfl rfl ?_
      refine xr_iload_n (pc := 93) κ 1 (x := v3) dX6_nextOrder_93 rfl rfl ?_
      refine xr_iload (pc := 94) κ 2 (x := v4) dX6_nextOrder_94 rfl ?_
      refine xr_callV (pc := 96) κ [.int v3, .int v4] kw_4_31 tg_X6_exchange (snd_X6_exchange _ _ _ _ _ h) rfl (by decide) (by decide) (by decide) rfl (ci := 6) rfl rfl (Nat.le_of_ble_eq_true rfl) dX6_nextOrder_96 (fun v9 ω9 hk9 => ?_)
      obtain ⟨c8_, t8_, rfl, rfl, h⟩ := hk9
      skip
      show Wat κ 99 [(0, .ref 0), (3, .int v3), (4, .int v4)] [] (wM c8_ t8_)
      refine xr_iinc (pc := 99) κ 1 [1, 0, 2] (lv' := [(0, .ref 0), (3, .int (v3 + 1)), (4, .int v4)]) (x := v3) (v := v3 + 1) dX6_nextOrder_99 rfl rfl (by decide) rfl ?_
      refine xr_iinc (pc := 102) κ 2 [1, 2, 0] (lv' := [(0, .ref 0), (3, .int (v3 + 1)), (4, .int (v4 + (-1)))]) (x := v4) (v := v4 + (-1)) dX6_nextOrder_102 rfl rfl (by decide) rfl ?_
      refine xr_goto (pc := 105) κ (tgt := 86) dX6_nextOrder_105 (by decide) ?_
      exact ih _ _ _ _ h
def nd_X6_nextOrder_47 (K : Int32 → CS → MT → Prop) : Nat → Int32 → Int32 → CS → MT → Prop
  | 0 => fun _ _ _ _ => False
  | n + 1 => fun v1 v2 c t =>
    vp_in v2 6 ∧
    vp_in v1 6 ∧
    ((m_order t v1.toNatClampNeg) ≤ (m_order t v2.toNatClampNeg) →
      wp_X6_exchange v1 v2 c t (fun c6_ t6_ =>
        ∃ n86 : Nat, nd_X6_nextOrder_86 K n86 (v1 + (1 : Int32)) ((c_nb c6_) - (1 : Int32)) c6_ t6_)) ∧
    (¬ (m_order t v1.toNatClampNeg) ≤ (m_order t v2.toNatClampNeg) →
      nd_X6_nextOrder_47 K n v1 (v2 + (-1)) c t)
set_option maxHeartbeats 4000000 in
set_option maxRecDepth 100000 in
theorem snd_X6_nextOrder_47 {l : Launch} (κ : XC l xTM cX6_nextOrder yX6_nextOrder.cls 5 (some .boolean) 1) (K : Int32 → CS → MT → Prop) (hQ : xRet κ (fun v ω' => ∃ (r : Int32) (c' : CS) (t' : MT), v = some (.int r) ∧ ω' = wM c' t' ∧ K r c' t')) : ∀ (n : Nat) (v1 : Int32) (v2 : Int32) (c : CS) (t : MT), nd_X6_nextOrder_47 K n v1 v2 c t → Wat κ 47 [(0, .ref 0), (1, .int v1), (2, .int v2)] [] (wM c t) := by
  intro n
  induction n with
  | zero => intro v1 v2 c t h; exact h.elim
  | succ n ih =>
    intro v1 v2 c t h
    unfold nd_X6_nextOrder_47 at h
    refine xr_aload_n (pc := 47) κ 0 (x := 0) dX6_nextOrder_47 rfl rfl ?_
    refine xr_get (pc := 48) κ xc6 (k := 0) (f := 22) (v := .ref 16) kw_3_45 (by decide) rfl (by decide) rfl dX6_nextOrder_48 ?_
    refine xr_iload_n (pc := 51) κ 2 (x := v2) dX6_nextOrder_51 rfl rfl ?_
    obtain ⟨i3, h⟩ := h
    refine xr_iald (pc := 52) κ (k := 16) (n := 6) (f := m_order t) (by decide) rfl rfl i3 dX6_nextOrder_52 ?_
    refine xr_aload_n (pc := 53) κ 0 (x := 0) dX6_nextOrder_53 rfl rfl ?_
    refine xr_get (pc := 54) κ xc6 (k := 0) (f := 22) (v := .ref 16) kw_3_45 (by decide) rfl (by decide) rfl dX6_nextOrder_54 ?_
    refine xr_iload_n (pc := 57) κ 1 (x := v1) dX6_nextOrder_57 rfl rfl ?_
    obtain ⟨i4, h⟩ := h
    refine xr_iald (pc := 58) κ (k := 16) (n := 6) (f := m_order t) (by decide) rfl rfl i4 dX6_nextOrder_58 ?_
    refine xr_icmp_ge (pc := 59) κ (tgt := 68) dX6_nextOrder_59 (by decide) (fun c5 => ?_) (fun c5 => ?_)
    · have h := h.1 c5
      refine xr_aload_n (pc := 68) κ 0 (x := 0) dX6_nextOrder_68 rfl rfl ?_
      refine xr_iload_n (pc := 69) κ 1 (x := v1) dX6_nextOrder_69 rfl rfl ?_
      refine xr_iload_n (pc := 70) κ 2 (x := v2) dX6_nextOrder_70 rfl rfl ?_
      refine xr_callV (pc := 71) κ [.int v1, .int v2] kw_4_31 tg_X6_exchange (snd_X6_exchange _ _ _ _ _ h) rfl (by decide) (by decide) (by decide) rfl (ci := 6) rfl rfl (Nat.le_of_ble_eq_true rfl) dX6_nextOrder_71 (fun v9 ω9 hk9 => ?_)
      obtain ⟨c6_, t6_, rfl, rfl, h⟩ := hk9
      skip
      show Wat κ 74 [(0, .ref 0), (1, .int v1), (2, .int v2)] [] (wM c6_ t6_)
      refine xr_iload_n (pc := 74) κ 1 (x := v1) dX6_nextOrder_74 rfl rfl ?_
      refine xr_iconst (pc := 75) κ (v := 1) dX6_nextOrder_75 (by decide) ?_
      refine xr_iadd (pc := 76) κ dX6_nextOrder_76 ?_
      refine xr_istore_n (pc := 77) κ [1, 2, 3, 0] (lv' := [(0, .ref 0), (1, .int v1), (2, .int v2), (3, .int (v1 + (1 : Int32)))]) dX6_nextOrder_77 rfl (by decide) rfl ?_
      refine xr_aload_n (pc := 78) κ 0 (x := 0) dX6_nextOrder_78 rfl rfl ?_
      refine xr_get (pc := 79) κ xc6 (k := 0) (f := 8) (v := .int (c_nb c6_)) kw_3_31 (by decide) rfl (by decide) rfl dX6_nextOrder_79 ?_
      refine xr_iconst (pc := 82) κ (v := 1) dX6_nextOrder_82 (by decide) ?_
      refine xr_isub (pc := 83) κ dX6_nextOrder_83 ?_
      refine xr_istore (pc := 84) κ [1, 2, 3, 4, 0] (lv' := [(0, .ref 0), (1, .int v1), (2, .int v2), (3, .int (v1 + (1 : Int32))), (4, .int ((c_nb c6_) - (1 : Int32)))]) dX6_nextOrder_84 (by decide) rfl ?_
      refine xr_sub (pc := 86) κ [0, 3, 4] (lv' := [(0, .ref 0), (3, .int (v1 + (1 : Int32))), (4, .int ((c_nb c6_) - (1 : Int32)))]) rfl ?_
      obtain ⟨n0, h⟩ := h
      exact snd_X6_nextOrder_86 κ K hQ n0 _ _ _ _ h
    · have h := h.2 c5
      refine xr_iinc (pc := 62) κ 2 [1, 2, 0] (lv' := [(0, .ref 0), (1, .int v1), (2, .int (v2 + (-1)))]) (x := v2) (v := v2 + (-1)) dX6_nextOrder_62 rfl rfl (by decide) rfl ?_
      refine xr_goto (pc := 65) κ (tgt := 47) dX6_nextOrder_65 (by decide) ?_
      exact ih _ _ _ _ h
def nd_X6_nextOrder_34 (K : Int32 → CS → MT → Prop) (v1 : Int32) (c : CS) (t : MT) : Prop :=
    (0 ≤ v1 →
      ∃ n47 : Nat, nd_X6_nextOrder_47 K n47 v1 ((c_nb c) - (1 : Int32)) c t) ∧
    (¬ 0 ≤ v1 →
      K (0 : Int32) c t)
set_option maxHeartbeats 4000000 in
set_option maxRecDepth 100000 in
theorem snd_X6_nextOrder_34 {l : Launch} (κ : XC l xTM cX6_nextOrder yX6_nextOrder.cls 5 (some .boolean) 1) (K : Int32 → CS → MT → Prop) (hQ : xRet κ (fun v ω' => ∃ (r : Int32) (c' : CS) (t' : MT), v = some (.int r) ∧ ω' = wM c' t' ∧ K r c' t')) (v1 : Int32) (c : CS) (t : MT) (h : nd_X6_nextOrder_34 K v1 c t) : Wat κ 34 [(0, .ref 0), (1, .int v1)] [] (wM c t) := by
    unfold nd_X6_nextOrder_34 at h
    refine xr_iload_n (pc := 34) κ 1 (x := v1) dX6_nextOrder_34 rfl rfl ?_
    refine xr_if_ge (pc := 35) κ (tgt := 40) dX6_nextOrder_35 (by decide) (fun c2 => ?_) (fun c2 => ?_)
    · have h := h.1 c2
      refine xr_aload_n (pc := 40) κ 0 (x := 0) dX6_nextOrder_40 rfl rfl ?_
      refine xr_get (pc := 41) κ xc6 (k := 0) (f := 8) (v := .int (c_nb c)) kw_3_31 (by decide) rfl (by decide) rfl dX6_nextOrder_41 ?_
      refine xr_iconst (pc := 44) κ (v := 1) dX6_nextOrder_44 (by decide) ?_
      refine xr_isub (pc := 45) κ dX6_nextOrder_45 ?_
      refine xr_istore_n (pc := 46) κ [1, 2, 0] (lv' := [(0, .ref 0), (1, .int v1), (2, .int ((c_nb c) - (1 : Int32)))]) dX6_nextOrder_46 rfl (by decide) rfl ?_
      obtain ⟨n0, h⟩ := h
      exact snd_X6_nextOrder_47 κ K hQ n0 _ _ _ _ h
    · have h := h.2 c2
      refine xr_iconst (pc := 38) κ (v := 0) dX6_nextOrder_38 (by decide) ?_
      exact xr_zret (pc := 39) κ _ hQ rfl dX6_nextOrder_39 ⟨_, _, _, rfl, rfl, h⟩
def nd_X6_nextOrder_7 (K : Int32 → CS → MT → Prop) : Nat → Int32 → CS → MT → Prop
  | 0 => fun _ _ _ => False
  | n + 1 => fun v1 c t =>
    (v1 < 0 →
      nd_X6_nextOrder_34 K v1 c t) ∧
    (¬ v1 < 0 →
      vp_in v1 6 ∧
      vp_in (v1 + (1 : Int32)) 6 ∧
      ((m_order t v1.toNatClampNeg) ≤ (m_order t (((v1 + (1 : Int32))).toNatClampNeg)) →
        nd_X6_nextOrder_34 K v1 c t) ∧
      (¬ (m_order t v1.toNatClampNeg) ≤ (m_order t (((v1 + (1 : Int32))).toNatClampNeg)) →
        nd_X6_nextOrder_7 K n (v1 + (-1)) c t))
set_option maxHeartbeats 4000000 in
set_option maxRecDepth 100000 in
theorem snd_X6_nextOrder_7 {l : Launch} (κ : XC l xTM cX6_nextOrder yX6_nextOrder.cls 5 (some .boolean) 1) (K : Int32 → CS → MT → Prop) (hQ : xRet κ (fun v ω' => ∃ (r : Int32) (c' : CS) (t' : MT), v = some (.int r) ∧ ω' = wM c' t' ∧ K r c' t')) : ∀ (n : Nat) (v1 : Int32) (c : CS) (t : MT), nd_X6_nextOrder_7 K n v1 c t → Wat κ 7 [(0, .ref 0), (1, .int v1)] [] (wM c t) := by
  intro n
  induction n with
  | zero => intro v1 c t h; exact h.elim
  | succ n ih =>
    intro v1 c t h
    unfold nd_X6_nextOrder_7 at h
    refine xr_iload_n (pc := 7) κ 1 (x := v1) dX6_nextOrder_7 rfl rfl ?_
    refine xr_if_lt (pc := 8) κ (tgt := 34) dX6_nextOrder_8 (by decide) (fun c1 => ?_) (fun c1 => ?_)
    · have h := h.1 c1
      exact snd_X6_nextOrder_34 κ K hQ _ _ _ h
    · have h := h.2 c1
      refine xr_aload_n (pc := 11) κ 0 (x := 0) dX6_nextOrder_11 rfl rfl ?_
      refine xr_get (pc := 12) κ xc6 (k := 0) (f := 22) (v := .ref 16) kw_3_45 (by decide) rfl (by decide) rfl dX6_nextOrder_12 ?_
      refine xr_iload_n (pc := 15) κ 1 (x := v1) dX6_nextOrder_15 rfl rfl ?_
      obtain ⟨i9, h⟩ := h
      refine xr_iald (pc := 16) κ (k := 16) (n := 6) (f := m_order t) (by decide) rfl rfl i9 dX6_nextOrder_16 ?_
      refine xr_aload_n (pc := 17) κ 0 (x := 0) dX6_nextOrder_17 rfl rfl ?_
      refine xr_get (pc := 18) κ xc6 (k := 0) (f := 22) (v := .ref 16) kw_3_45 (by decide) rfl (by decide) rfl dX6_nextOrder_18 ?_
      refine xr_iload_n (pc := 21) κ 1 (x := v1) dX6_nextOrder_21 rfl rfl ?_
      refine xr_iconst (pc := 22) κ (v := 1) dX6_nextOrder_22 (by decide) ?_
      refine xr_iadd (pc := 23) κ dX6_nextOrder_23 ?_
      obtain ⟨i10, h⟩ := h
      refine xr_iald (pc := 24) κ (k := 16) (n := 6) (f := m_order t) (by decide) rfl rfl i10 dX6_nextOrder_24 ?_
      refine xr_icmp_le (pc := 25) κ (tgt := 34) dX6_nextOrder_25 (by decide) (fun c11 => ?_) (fun c11 => ?_)
      · have h := h.1 c11
        exact snd_X6_nextOrder_34 κ K hQ _ _ _ h
      · have h := h.2 c11
        refine xr_iinc (pc := 28) κ 1 [1, 0] (lv' := [(0, .ref 0), (1, .int (v1 + (-1)))]) (x := v1) (v := v1 + (-1)) dX6_nextOrder_28 rfl rfl (by decide) rfl ?_
        refine xr_goto (pc := 31) κ (tgt := 7) dX6_nextOrder_31 (by decide) ?_
        exact ih _ _ _ h
def wp_X6_nextOrder (c : CS) (t : MT) (K : Int32 → CS → MT → Prop) : Prop :=
    ∃ n7 : Nat, nd_X6_nextOrder_7 K n7 ((c_nb c) - (2 : Int32)) c t
set_option maxHeartbeats 4000000 in
set_option maxRecDepth 100000 in
theorem snd_X6_nextOrder {l : Launch} (c : CS) (t : MT) (K : Int32 → CS → MT → Prop) (h : wp_X6_nextOrder  c t K) : XM l xTM yX6_nextOrder cX6_nextOrder 5 (some .boolean) 1 [.ref 0] (wM c t) (fun v ω' => ∃ (r : Int32) (c' : CS) (t' : MT), v = some (.int r) ∧ ω' = wM c' t' ∧ K r c' t') := by
    refine XM.of (by decide) (Nat.le_of_ble_eq_true rfl) (fun κ hQ => ?_)
    show Wat κ 0 [(0, .ref 0)] [] (wM c t)
    unfold wp_X6_nextOrder at h
    refine xr_aload_n (pc := 0) κ 0 (x := 0) dX6_nextOrder_0 rfl rfl ?_
    refine xr_get (pc := 1) κ xc6 (k := 0) (f := 8) (v := .int (c_nb c)) kw_3_31 (by decide) rfl (by decide) rfl dX6_nextOrder_1 ?_
    refine xr_iconst (pc := 4) κ (v := 2) dX6_nextOrder_4 (by decide) ?_
    refine xr_isub (pc := 5) κ dX6_nextOrder_5 ?_
    refine xr_istore_n (pc := 6) κ [1, 0] (lv' := [(0, .ref 0), (1, .int ((c_nb c) - (2 : Int32)))]) dX6_nextOrder_6 rfl (by decide) rfl ?_
    obtain ⟨n0, h⟩ := h
    exact snd_X6_nextOrder_7 κ K hQ n0 _ _ _ h
-- ChipVoltsModel.findWoken()V, level 3
def nd_X6_findWoken_105 (K : CS → MT → Prop) (L41 : Int32 → CS → MT → Prop) (c : CS) (t : MT) : Prop :=
    wp_X6_nextOrder c t (fun r7 c7_ t7_ =>
      L41 r7 c7_ t7_)
set_option maxHeartbeats 4000000 in
set_option maxRecDepth 100000 in
theorem snd_X6_findWoken_105 {l : Launch} (κ : XC l xTM cX6_findWoken yX6_findWoken.cls 5 (none) 3) (K : CS → MT → Prop) (hQ : xRet κ (fun v ω' => ∃ (c' : CS) (t' : MT), v = none ∧ ω' = wM c' t' ∧ K c' t')) (L41 : Int32 → CS → MT → Prop) (hL41 : ∀ (v1 : Int32) (c : CS) (t : MT), L41 v1 c t → Wat κ 41 [(0, .ref 0), (1, .int v1)] [] (wM c t)) (c : CS) (t : MT) (h : nd_X6_findWoken_105 K L41 c t) : Wat κ 105 [(0, .ref 0)] [] (wM c t) := by
    unfold nd_X6_findWoken_105 at h
    refine xr_aload_n (pc := 105) κ 0 (x := 0) dX6_findWoken_105 rfl rfl ?_
    refine xr_callV (pc := 106) κ [] kw_4_27 tg_X6_nextOrder (snd_X6_nextOrder  _ _ _ h) rfl (by decide) (by decide) (by decide) rfl (ci := 6) rfl rfl (Nat.le_of_ble_eq_true rfl) dX6_findWoken_106 (fun v9 ω9 hk9 => ?_)
    obtain ⟨r7, c7_, t7_, rfl, rfl, h⟩ := hk9
    skip
    show Wat κ 109 [(0, .ref 0)] [.int r7] (wM c7_ t7_)
    refine xr_istore_n (pc := 109) κ [1, 0] (lv' := [(0, .ref 0), (1, .int r7)]) dX6_findWoken_109 rfl (by decide) rfl ?_
    refine xr_goto (pc := 110) κ (tgt := 41) dX6_findWoken_110 (by decide) ?_
    exact hL41 _ _ _ h
def nd_X6_findWoken_76 (K : CS → MT → Prop) (L41 : Int32 → CS → MT → Prop) : Nat → Int32 → CS → MT → Prop
  | 0 => fun _ _ _ => False
  | n + 1 => fun v4 c t =>
    ((c_nb c) ≤ v4 →
      nd_X6_findWoken_105 K L41  c t) ∧
    (¬ (c_nb c) ≤ v4 →
      vp_in v4 6 ∧
      vp_in v4 6 ∧
      nd_X6_findWoken_76 K L41 n (v4 + 1) c (ms_bestOrder t (upd (m_bestOrder t) v4.toNatClampNeg (m_order t v4.toNatClampNeg))))
set_option maxHeartbeats 4000000 in
set_option maxRecDepth 100000 in
theorem snd_X6_findWoken_76 {l : Launch} (κ : XC l xTM cX6_findWoken yX6_findWoken.cls 5 (none) 3) (K : CS → MT → Prop) (hQ : xRet κ (fun v ω' => ∃ (c' : CS) (t' : MT), v = none ∧ ω' = wM c' t' ∧ K c' t')) (L41 : Int32 → CS → MT → Prop) (hL41 : ∀ (v1 : Int32) (c : CS) (t : MT), L41 v1 c t → Wat κ 41 [(0, .ref 0), (1, .int v1)] [] (wM c t)) : ∀ (n : Nat) (v4 : Int32) (c : CS) (t : MT), nd_X6_findWoken_76 K L41 n v4 c t → Wat κ 76 [(0, .ref 0), (4, .int v4)] [] (wM c t) := by
  intro n
  induction n with
  | zero => intro v4 c t h; exact h.elim
  | succ n ih =>
    intro v4 c t h
    unfold nd_X6_findWoken_76 at h
    refine xr_iload (pc := 76) κ 1 (x := v4) dX6_findWoken_76 rfl ?_
    refine xr_aload_n (pc := 78) κ 0 (x := 0) dX6_findWoken_78 rfl rfl ?_
    refine xr_get (pc := 79) κ xc6 (k := 0) (f := 8) (v := .int (c_nb c)) kw_3_31 (by decide) rfl (by decide) rfl dX6_findWoken_79 ?_
    refine xr_icmp_ge (pc := 82) κ (tgt := 105) dX6_findWoken_82 (by decide) (fun c6 => ?_) (fun c6 => ?_)
    · have h := h.1 c6
      refine xr_sub (pc := 105) κ [0] (lv' := [(0, .ref 0)]) rfl ?_
      exact snd_X6_findWoken_105 κ K hQ _ hL41  _ _ h
    · have h := h.2 c6
      refine xr_aload_n (pc := 85) κ 0 (x := 0) dX6_findWoken_85 rfl rfl ?_
      refine xr_get (pc := 86) κ xc6 (k := 0) (f := 23) (v := .ref 17) kw_3_46 (by decide) rfl (by decide) rfl dX6_findWoken_86 ?_
      refine xr_iload (pc := 89) κ 1 (x := v4) dX6_findWoken_89 rfl ?_
      refine xr_aload_n (pc := 91) κ 0 (x := 0) dX6_findWoken_91 rfl rfl ?_
      refine xr_get (pc := 92) κ xc6 (k := 0) (f := 22) (v := .ref 16) kw_3_45 (by decide) rfl (by decide) rfl dX6_findWoken_92 ?_
      refine xr_iload (pc := 95) κ 1 (x := v4) dX6_findWoken_95 rfl ?_
      obtain ⟨i8, h⟩ := h
      refine xr_iald (pc := 97) κ (k := 16) (n := 6) (f := m_order t) (by decide) rfl rfl i8 dX6_findWoken_97 ?_
      obtain ⟨i9, h⟩ := h
      refine xr_iast (pc := 98) κ (k := 17) (n := 6) (f := m_bestOrder t) (ω' := wM c (ms_bestOrder t (upd (m_bestOrder t) v4.toNatClampNeg (m_order t v4.toNatClampNeg)))) (by decide) rfl rfl i9 (wMa_bestOrder _ _ _) dX6_findWoken_98 ?_
      refine xr_iinc (pc := 99) κ 1 [1, 0] (lv' := [(0, .ref 0), (4, .int (v4 + 1))]) (x := v4) (v := v4 + 1) dX6_findWoken_99 rfl rfl (by decide) rfl ?_
      refine xr_goto (pc := 102) κ (tgt := 76) dX6_findWoken_102 (by decide) ?_
      exact ih _ _ _ h
def nd_X6_findWoken_68 (K : CS → MT → Prop) (L41 : Int32 → CS → MT → Prop) (v2 : Int64) (c : CS) (t : MT) : Prop :=
    ∃ n76 : Nat, nd_X6_findWoken_76 K L41 n76 (0 : Int32) c (ms_woken t v2)
set_option maxHeartbeats 4000000 in
set_option maxRecDepth 100000 in
theorem snd_X6_findWoken_68 {l : Launch} (κ : XC l xTM cX6_findWoken yX6_findWoken.cls 5 (none) 3) (K : CS → MT → Prop) (hQ : xRet κ (fun v ω' => ∃ (c' : CS) (t' : MT), v = none ∧ ω' = wM c' t' ∧ K c' t')) (L41 : Int32 → CS → MT → Prop) (hL41 : ∀ (v1 : Int32) (c : CS) (t : MT), L41 v1 c t → Wat κ 41 [(0, .ref 0), (1, .int v1)] [] (wM c t)) (v2 : Int64) (c : CS) (t : MT) (h : nd_X6_findWoken_68 K L41 v2 c t) : Wat κ 68 [(0, .ref 0), (2, .long v2)] [] (wM c t) := by
    unfold nd_X6_findWoken_68 at h
    refine xr_aload_n (pc := 68) κ 0 (x := 0) dX6_findWoken_68 rfl rfl ?_
    refine xr_lload_n (pc := 69) κ 1 (x := v2) dX6_findWoken_69 rfl rfl ?_
    refine xr_put (pc := 70) κ xc6 (k := 0) (f := 25) (v := .long v2) (ω' := wM c (ms_woken t v2)) kw_3_48 (by decide) rfl (by decide) rfl (fun _ => rfl) (fun _ => rfl) (Nat.le_of_ble_eq_true rfl) (wMf_woken _ _ _) dX6_findWoken_70 ?_
    refine xr_iconst (pc := 73) κ (v := 0) dX6_findWoken_73 (by decide) ?_
    refine xr_istore (pc := 74) κ [1, 2, 0] (lv' := [(0, .ref 0), (2, .long v2), (4, .int (0 : Int32))]) dX6_findWoken_74 (by decide) rfl ?_
    refine xr_sub (pc := 76) κ [0, 2] (lv' := [(0, .ref 0), (4, .int (0 : Int32))]) rfl ?_
    obtain ⟨n0, h⟩ := h
    exact snd_X6_findWoken_76 κ K hQ _ hL41 n0 _ _ _ h
def nd_X6_findWoken_41 (K : CS → MT → Prop) : Nat → Int32 → CS → MT → Prop
  | 0 => fun _ _ _ => False
  | n + 1 => fun v1 c t =>
    (v1 = 0 →
      K c t) ∧
    (¬ v1 = 0 →
      wp_X6_fallOf c t (fun r4 c4_ t4_ =>
        ((m_woken t4_) < (0 : Int64) →
          nd_X6_findWoken_68 K (fun v1 c t => nd_X6_findWoken_41 K n v1 c t) r4 c4_ t4_) ∧
        (¬ (m_woken t4_) < (0 : Int64) →
          ((m_woken t4_) ≤ r4 →
            nd_X6_findWoken_105 K (fun v1 c t => nd_X6_findWoken_41 K n v1 c t)  c4_ t4_) ∧
          (¬ (m_woken t4_) ≤ r4 →
            nd_X6_findWoken_68 K (fun v1 c t => nd_X6_findWoken_41 K n v1 c t) r4 c4_ t4_))))
set_option maxHeartbeats 4000000 in
set_option maxRecDepth 100000 in
theorem snd_X6_findWoken_41 {l : Launch} (κ : XC l xTM cX6_findWoken yX6_findWoken.cls 5 (none) 3) (K : CS → MT → Prop) (hQ : xRet κ (fun v ω' => ∃ (c' : CS) (t' : MT), v = none ∧ ω' = wM c' t' ∧ K c' t')) : ∀ (n : Nat) (v1 : Int32) (c : CS) (t : MT), nd_X6_findWoken_41 K n v1 c t → Wat κ 41 [(0, .ref 0), (1, .int v1)] [] (wM c t) := by
  intro n
  induction n with
  | zero => intro v1 c t h; exact h.elim
  | succ n ih =>
    intro v1 c t h
    unfold nd_X6_findWoken_41 at h
    refine xr_iload_n (pc := 41) κ 1 (x := v1) dX6_findWoken_41 rfl rfl ?_
    refine xr_if_eq (pc := 42) κ (tgt := 113) dX6_findWoken_42 (by decide) (fun c3 => ?_) (fun c3 => ?_)
    · have h := h.1 c3
      exact xr_vret (pc := 113) κ _ hQ dX6_findWoken_113 ⟨_, _, rfl, rfl, h⟩
    · have h := h.2 c3
      refine xr_aload_n (pc := 45) κ 0 (x := 0) dX6_findWoken_45 rfl rfl ?_
      refine xr_callV (pc := 46) κ [] kw_4_23 tg_X6_fallOf (snd_X6_fallOf  _ _ _ h) rfl (by decide) (by decide) (by decide) rfl (ci := 6) rfl rfl (Nat.le_of_ble_eq_true rfl) dX6_findWoken_46 (fun v9 ω9 hk9 => ?_)
      obtain ⟨r4, c4_, t4_, rfl, rfl, h⟩ := hk9
      skip
      show Wat κ 49 [(0, .ref 0), (1, .int v1)] [.long r4] (wM c4_ t4_)
      refine xr_lstore_n (pc := 49) κ [1, 2, 0] (lv' := [(0, .ref 0), (1, .int v1), (2, .long r4)]) dX6_findWoken_49 rfl (by decide) rfl ?_
      refine xr_aload_n (pc := 50) κ 0 (x := 0) dX6_findWoken_50 rfl rfl ?_
      refine xr_get (pc := 51) κ xc6 (k := 0) (f := 25) (v := .long (m_woken t4_)) kw_3_48 (by decide) rfl (by decide) rfl dX6_findWoken_51 ?_
      refine xr_lconst (pc := 54) κ (v := 0) dX6_findWoken_54 (by decide) ?_
      refine xr_lcmp_lt (pc := 55) κ (tgt := 68) dX6_findWoken_55 dX6_findWoken_56 (by decide) (fun c5 => ?_) (fun c5 => ?_)
      · have h := h.1 c5
        refine xr_sub (pc := 68) κ [0, 2] (lv' := [(0, .ref 0), (2, .long r4)]) rfl ?_
        exact snd_X6_findWoken_68 κ K hQ _ ih _ _ _ h
      · have h := h.2 c5
        refine xr_lload_n (pc := 59) κ 2 (x := r4) dX6_findWoken_59 rfl rfl ?_
        refine xr_aload_n (pc := 60) κ 0 (x := 0) dX6_findWoken_60 rfl rfl ?_
        refine xr_get (pc := 61) κ xc6 (k := 0) (f := 25) (v := .long (m_woken t4_)) kw_3_48 (by decide) rfl (by decide) rfl dX6_findWoken_61 ?_
        refine xr_lcmp_ge (pc := 64) κ (tgt := 105) dX6_findWoken_64 dX6_findWoken_65 (by decide) (fun c10 => ?_) (fun c10 => ?_)
        · have h := h.1 c10
          refine xr_sub (pc := 105) κ [0] (lv' := [(0, .ref 0)]) rfl ?_
          exact snd_X6_findWoken_105 κ K hQ _ ih  _ _ h
        · have h := h.2 c10
          refine xr_sub (pc := 68) κ [0, 2] (lv' := [(0, .ref 0), (2, .long r4)]) rfl ?_
          exact snd_X6_findWoken_68 κ K hQ _ ih _ _ _ h
def nd_X6_findWoken_11 (K : CS → MT → Prop) : Nat → Int32 → CS → MT → Prop
  | 0 => fun _ _ _ => False
  | n + 1 => fun v1 c t =>
    ((c_nb c) ≤ v1 →
      ∃ n41 : Nat, nd_X6_findWoken_41 K n41 (1 : Int32) c (ms_woken t (-1 : Int64))) ∧
    (¬ (c_nb c) ≤ v1 →
      vp_in v1 6 ∧
      nd_X6_findWoken_11 K n (v1 + 1) c (ms_order t (upd (m_order t) v1.toNatClampNeg v1)))
set_option maxHeartbeats 4000000 in
set_option maxRecDepth 100000 in
theorem snd_X6_findWoken_11 {l : Launch} (κ : XC l xTM cX6_findWoken yX6_findWoken.cls 5 (none) 3) (K : CS → MT → Prop) (hQ : xRet κ (fun v ω' => ∃ (c' : CS) (t' : MT), v = none ∧ ω' = wM c' t' ∧ K c' t')) : ∀ (n : Nat) (v1 : Int32) (c : CS) (t : MT), nd_X6_findWoken_11 K n v1 c t → Wat κ 11 [(0, .ref 0), (1, .int v1)] [] (wM c t) := by
  intro n
  induction n with
  | zero => intro v1 c t h; exact h.elim
  | succ n ih =>
    intro v1 c t h
    unfold nd_X6_findWoken_11 at h
    refine xr_iload_n (pc := 11) κ 1 (x := v1) dX6_findWoken_11 rfl rfl ?_
    refine xr_aload_n (pc := 12) κ 0 (x := 0) dX6_findWoken_12 rfl rfl ?_
    refine xr_get (pc := 13) κ xc6 (k := 0) (f := 8) (v := .int (c_nb c)) kw_3_31 (by decide) rfl (by decide) rfl dX6_findWoken_13 ?_
    refine xr_icmp_ge (pc := 16) κ (tgt := 32) dX6_findWoken_16 (by decide) (fun c2 => ?_) (fun c2 => ?_)
    · have h := h.1 c2
      refine xr_aload_n (pc := 32) κ 0 (x := 0) dX6_findWoken_32 rfl rfl ?_
      refine xr_ldc2 (pc := 33) κ (v := -1) kw_4_22 dX6_findWoken_33 ?_
      refine xr_put (pc := 36) κ xc6 (k := 0) (f := 25) (v := .long (-1 : Int64)) (ω' := wM c (ms_woken t (-1 : Int64))) kw_3_48 (by decide) rfl (by decide) rfl (fun _ => rfl) (fun _ => rfl) (Nat.le_of_ble_eq_true rfl) (wMf_woken _ _ _) dX6_findWoken_36 ?_
      refine xr_iconst (pc := 39) κ (v := 1) dX6_findWoken_39 (by decide) ?_
      refine xr_istore_n (pc := 40) κ [1, 0] (lv' := [(0, .ref 0), (1, .int (1 : Int32))]) dX6_findWoken_40 rfl (by decide) rfl ?_
      obtain ⟨n0, h⟩ := h
      exact snd_X6_findWoken_41 κ K hQ n0 _ _ _ h
    · have h := h.2 c2
      refine xr_aload_n (pc := 19) κ 0 (x := 0) dX6_findWoken_19 rfl rfl ?_
      refine xr_get (pc := 20) κ xc6 (k := 0) (f := 22) (v := .ref 16) kw_3_45 (by decide) rfl (by decide) rfl dX6_findWoken_20 ?_
      refine xr_iload_n (pc := 23) κ 1 (x := v1) dX6_findWoken_23 rfl rfl ?_
      refine xr_iload_n (pc := 24) κ 1 (x := v1) dX6_findWoken_24 rfl rfl ?_
      obtain ⟨i11, h⟩ := h
      refine xr_iast (pc := 25) κ (k := 16) (n := 6) (f := m_order t) (ω' := wM c (ms_order t (upd (m_order t) v1.toNatClampNeg v1))) (by decide) rfl rfl i11 (wMa_order _ _ _) dX6_findWoken_25 ?_
      refine xr_iinc (pc := 26) κ 1 [1, 0] (lv' := [(0, .ref 0), (1, .int (v1 + 1))]) (x := v1) (v := v1 + 1) dX6_findWoken_26 rfl rfl (by decide) rfl ?_
      refine xr_goto (pc := 29) κ (tgt := 11) dX6_findWoken_29 (by decide) ?_
      exact ih _ _ _ h
def wp_X6_findWoken (c : CS) (t : MT) (K : CS → MT → Prop) : Prop :=
    wp_X6_findResist (c_pads c) (-1 : Int32) c t (fun c1_ t1_ =>
      ∃ n11 : Nat, nd_X6_findWoken_11 K n11 (0 : Int32) c1_ t1_)
set_option maxHeartbeats 4000000 in
set_option maxRecDepth 100000 in
theorem snd_X6_findWoken {l : Launch} (c : CS) (t : MT) (K : CS → MT → Prop) (h : wp_X6_findWoken  c t K) : XM l xTM yX6_findWoken cX6_findWoken 5 (none) 3 [.ref 0] (wM c t) (fun v ω' => ∃ (c' : CS) (t' : MT), v = none ∧ ω' = wM c' t' ∧ K c' t') := by
    refine XM.of (by decide) (Nat.le_of_ble_eq_true rfl) (fun κ hQ => ?_)
    show Wat κ 0 [(0, .ref 0)] [] (wM c t)
    unfold wp_X6_findWoken at h
    refine xr_aload_n (pc := 0) κ 0 (x := 0) dX6_findWoken_0 rfl rfl ?_
    refine xr_aload_n (pc := 1) κ 0 (x := 0) dX6_findWoken_1 rfl rfl ?_
    refine xr_get (pc := 2) κ xc6 (k := 0) (f := 6) (v := .int (c_pads c)) kw_3_29 (by decide) rfl (by decide) rfl dX6_findWoken_2 ?_
    refine xr_iconst (pc := 5) κ (v := -1) dX6_findWoken_5 (by decide) ?_
    refine xr_callV (pc := 6) κ [.int (c_pads c), .int (-1 : Int32)] kw_3_143 tg_X6_findResist (snd_X6_findResist _ _ _ _ _ h) rfl (by decide) (by decide) (by decide) rfl (ci := 6) rfl rfl (Nat.le_of_ble_eq_true rfl) dX6_findWoken_6 (fun v9 ω9 hk9 => ?_)
    obtain ⟨c1_, t1_, rfl, rfl, h⟩ := hk9
    skip
    show Wat κ 9 [(0, .ref 0)] [] (wM c1_ t1_)
    refine xr_iconst (pc := 9) κ (v := 0) dX6_findWoken_9 (by decide) ?_
    refine xr_istore_n (pc := 10) κ [1, 0] (lv' := [(0, .ref 0), (1, .int (0 : Int32))]) dX6_findWoken_10 rfl (by decide) rfl ?_
    obtain ⟨n0, h⟩ := h
    exact snd_X6_findWoken_11 κ K hQ n0 _ _ _ h
-- ChipVoltsModel.woken(I)I, level 4
def wp_X6_woken (i : Int32) (c : CS) (t : MT) (K : Int32 → CS → MT → Prop) : Prop :=
    wp_X6_isFed c t (fun r1 c1_ t1_ =>
      (¬ r1 = 0 →
        wp_X6_findWoken c1_ t1_ (fun c3_ t3_ =>
          wp_X6_in i (0 : Int32) ((c_nb c3_) - (1 : Int32)) (fun r4 =>
            (r4 = 0 →
              K (-1 : Int32) c3_ t3_) ∧
            (¬ r4 = 0 →
              vp_in i 6 ∧
              K (m_bestOrder t3_ i.toNatClampNeg) c3_ t3_)))) ∧
      (r1 = 0 →
        K (-3 : Int32) c1_ t1_))
set_option maxHeartbeats 4000000 in
set_option maxRecDepth 100000 in
theorem snd_X6_woken {l : Launch} (i : Int32) (c : CS) (t : MT) (K : Int32 → CS → MT → Prop) (h : wp_X6_woken i c t K) : XM l xTM yX6_woken cX6_woken 2 (some .int) 4 [.ref 0, .int i] (wM c t) (fun v ω' => ∃ (r : Int32) (c' : CS) (t' : MT), v = some (.int r) ∧ ω' = wM c' t' ∧ K r c' t') := by
    refine XM.of (by decide) (Nat.le_of_ble_eq_true rfl) (fun κ hQ => ?_)
    show Wat κ 0 [(0, .ref 0), (1, .int i)] [] (wM c t)
    unfold wp_X6_woken at h
    refine xr_aload_n (pc := 0) κ 0 (x := 0) dX6_woken_0 rfl rfl ?_
    refine xr_callV (pc := 1) κ [] kw_3_134 tg_X6_isFed (snd_X6_isFed  _ _ _ h) rfl (by decide) (by decide) (by decide) rfl (ci := 6) rfl rfl (Nat.le_of_ble_eq_true rfl) dX6_woken_1 (fun v9 ω9 hk9 => ?_)
    obtain ⟨r1, c1_, t1_, rfl, rfl, h⟩ := hk9
    skip
    show Wat κ 4 [(0, .ref 0), (1, .int i)] [.int r1] (wM c1_ t1_)
    refine xr_if_ne (pc := 4) κ (tgt := 10) dX6_woken_4 (by decide) (fun c2 => ?_) (fun c2 => ?_)
    · have h := h.1 c2
      refine xr_aload_n (pc := 10) κ 0 (x := 0) dX6_woken_10 rfl rfl ?_
      refine xr_callV (pc := 11) κ [] kw_4_18 tg_X6_findWoken (snd_X6_findWoken  _ _ _ h) rfl (by decide) (by decide) (by decide) rfl (ci := 6) rfl rfl (Nat.le_of_ble_eq_true rfl) dX6_woken_11 (fun v9 ω9 hk9 => ?_)
      obtain ⟨c3_, t3_, rfl, rfl, h⟩ := hk9
      skip
      show Wat κ 14 [(0, .ref 0), (1, .int i)] [] (wM c3_ t3_)
      refine xr_iload_n (pc := 14) κ 1 (x := i) dX6_woken_14 rfl rfl ?_
      refine xr_iconst (pc := 15) κ (v := 0) dX6_woken_15 (by decide) ?_
      refine xr_aload_n (pc := 16) κ 0 (x := 0) dX6_woken_16 rfl rfl ?_
      refine xr_get (pc := 17) κ xc6 (k := 0) (f := 8) (v := .int (c_nb c3_)) kw_3_31 (by decide) rfl (by decide) rfl dX6_woken_17 ?_
      refine xr_iconst (pc := 20) κ (v := 1) dX6_woken_20 (by decide) ?_
      refine xr_isub (pc := 21) κ dX6_woken_21 ?_
      refine xr_callS (pc := 22) κ [.int i, .int (0 : Int32), .int ((c_nb c3_) - (1 : Int32))] kw_3_106 tg_X6_in (snd_X6_in _ _ _ _ h) rfl (by decide) (by decide) (Nat.le_of_ble_eq_true rfl) dX6_woken_22 (fun v9 ω9 hk9 => ?_)
      obtain ⟨r4, rfl, e9, h⟩ := hk9
      rw [e9]
      show Wat κ 25 [(0, .ref 0), (1, .int i)] [.int r4] (wM c3_ t3_)
      refine xr_if_eq (pc := 25) κ (tgt := 37) dX6_woken_25 (by decide) (fun c5 => ?_) (fun c5 => ?_)
      · have h := h.1 c5
        refine xr_iconst (pc := 37) κ (v := -1) dX6_woken_37 (by decide) ?_
        exact xr_iret (pc := 38) κ _ hQ dX6_woken_38 ⟨_, _, _, rfl, rfl, h⟩
      · have h := h.2 c5
        refine xr_aload_n (pc := 28) κ 0 (x := 0) dX6_woken_28 rfl rfl ?_
        refine xr_get (pc := 29) κ xc6 (k := 0) (f := 23) (v := .ref 17) kw_3_46 (by decide) rfl (by decide) rfl dX6_woken_29 ?_
        refine xr_iload_n (pc := 32) κ 1 (x := i) dX6_woken_32 rfl rfl ?_
        obtain ⟨i6, h⟩ := h
        refine xr_iald (pc := 33) κ (k := 17) (n := 6) (f := m_bestOrder t3_) (by decide) rfl rfl i6 dX6_woken_33 ?_
        refine xr_goto (pc := 34) κ (tgt := 38) dX6_woken_34 (by decide) ?_
        exact xr_iret (pc := 38) κ _ hQ dX6_woken_38 ⟨_, _, _, rfl, rfl, h⟩
    · have h := h.2 c2
      refine xr_bipush (pc := 7) κ (v := -3) dX6_woken_7 (by decide) ?_
      exact xr_iret (pc := 9) κ _ hQ dX6_woken_9 ⟨_, _, _, rfl, rfl, h⟩
-- ChipVoltsModel.wokenFall(I)J, level 4
def wp_X6_wokenFall (what : Int32) (c : CS) (t : MT) (K : Int64 → CS → MT → Prop) : Prop :=
    wp_X6_in what (0 : Int32) (1 : Int32) (fun r1 =>
      (¬ r1 = 0 →
        wp_X6_isFed c t (fun r3 c3_ t3_ =>
          (¬ r3 = 0 →
            wp_X6_findWoken c3_ t3_ (fun c5_ t5_ =>
              wp_X6_lowest (m_woken t5_) (m_under t5_) what (fun r6 =>
                K r6 c5_ t5_))) ∧
          (r3 = 0 →
            K (-3 : Int64) c3_ t3_))) ∧
      (r1 = 0 →
        K (-2 : Int64) c t))
set_option maxHeartbeats 4000000 in
set_option maxRecDepth 100000 in
theorem snd_X6_wokenFall {l : Launch} (what : Int32) (c : CS) (t : MT) (K : Int64 → CS → MT → Prop) (h : wp_X6_wokenFall what c t K) : XM l xTM yX6_wokenFall cX6_wokenFall 2 (some .long) 4 [.ref 0, .int what] (wM c t) (fun v ω' => ∃ (r : Int64) (c' : CS) (t' : MT), v = some (.long r) ∧ ω' = wM c' t' ∧ K r c' t') := by
    refine XM.of (by decide) (Nat.le_of_ble_eq_true rfl) (fun κ hQ => ?_)
    show Wat κ 0 [(0, .ref 0), (1, .int what)] [] (wM c t)
    unfold wp_X6_wokenFall at h
    refine xr_iload_n (pc := 0) κ 1 (x := what) dX6_wokenFall_0 rfl rfl ?_
    refine xr_iconst (pc := 1) κ (v := 0) dX6_wokenFall_1 (by decide) ?_
    refine xr_iconst (pc := 2) κ (v := 1) dX6_wokenFall_2 (by decide) ?_
    refine xr_callS (pc := 3) κ [.int what, .int (0 : Int32), .int (1 : Int32)] kw_3_106 tg_X6_in (snd_X6_in _ _ _ _ h) rfl (by decide) (by decide) (Nat.le_of_ble_eq_true rfl) dX6_wokenFall_3 (fun v9 ω9 hk9 => ?_)
    obtain ⟨r1, rfl, e9, h⟩ := hk9
    rw [e9]
    show Wat κ 6 [(0, .ref 0), (1, .int what)] [.int r1] (wM c t)
    refine xr_if_ne (pc := 6) κ (tgt := 13) dX6_wokenFall_6 (by decide) (fun c2 => ?_) (fun c2 => ?_)
    · have h := h.1 c2
      refine xr_aload_n (pc := 13) κ 0 (x := 0) dX6_wokenFall_13 rfl rfl ?_
      refine xr_callV (pc := 14) κ [] kw_3_134 tg_X6_isFed (snd_X6_isFed  _ _ _ h) rfl (by decide) (by decide) (by decide) rfl (ci := 6) rfl rfl (Nat.le_of_ble_eq_true rfl) dX6_wokenFall_14 (fun v9 ω9 hk9 => ?_)
      obtain ⟨r3, c3_, t3_, rfl, rfl, h⟩ := hk9
      skip
      show Wat κ 17 [(0, .ref 0), (1, .int what)] [.int r3] (wM c3_ t3_)
      refine xr_if_ne (pc := 17) κ (tgt := 24) dX6_wokenFall_17 (by decide) (fun c4 => ?_) (fun c4 => ?_)
      · have h := h.1 c4
        refine xr_aload_n (pc := 24) κ 0 (x := 0) dX6_wokenFall_24 rfl rfl ?_
        refine xr_callV (pc := 25) κ [] kw_4_18 tg_X6_findWoken (snd_X6_findWoken  _ _ _ h) rfl (by decide) (by decide) (by decide) rfl (ci := 6) rfl rfl (Nat.le_of_ble_eq_true rfl) dX6_wokenFall_25 (fun v9 ω9 hk9 => ?_)
        obtain ⟨c5_, t5_, rfl, rfl, h⟩ := hk9
        skip
        show Wat κ 28 [(0, .ref 0), (1, .int what)] [] (wM c5_ t5_)
        refine xr_aload_n (pc := 28) κ 0 (x := 0) dX6_wokenFall_28 rfl rfl ?_
        refine xr_get (pc := 29) κ xc6 (k := 0) (f := 25) (v := .long (m_woken t5_)) kw_3_48 (by decide) rfl (by decide) rfl dX6_wokenFall_29 ?_
        refine xr_aload_n (pc := 32) κ 0 (x := 0) dX6_wokenFall_32 rfl rfl ?_
        refine xr_get (pc := 33) κ xc6 (k := 0) (f := 17) (v := .long (m_under t5_)) kw_3_40 (by decide) rfl (by decide) rfl dX6_wokenFall_33 ?_
        refine xr_iload_n (pc := 36) κ 1 (x := what) dX6_wokenFall_36 rfl rfl ?_
        refine xr_callS (pc := 37) κ [.long (m_woken t5_), .long (m_under t5_), .int what] kw_3_167 tg_X6_lowest (snd_X6_lowest _ _ _ _ h) rfl (by decide) (by decide) (Nat.le_of_ble_eq_true rfl) dX6_wokenFall_37 (fun v9 ω9 hk9 => ?_)
        obtain ⟨r6, rfl, e9, h⟩ := hk9
        rw [e9]
        show Wat κ 40 [(0, .ref 0), (1, .int what)] [.long r6] (wM c5_ t5_)
        exact xr_lret (pc := 40) κ _ hQ dX6_wokenFall_40 ⟨_, _, _, rfl, rfl, h⟩
      · have h := h.2 c4
        refine xr_ldc2 (pc := 20) κ (v := -3) kw_3_142 dX6_wokenFall_20 ?_
        exact xr_lret (pc := 23) κ _ hQ dX6_wokenFall_23 ⟨_, _, _, rfl, rfl, h⟩
    · have h := h.2 c2
      refine xr_ldc2 (pc := 9) κ (v := -2) kw_3_133 dX6_wokenFall_9 ?_
      exact xr_lret (pc := 12) κ _ hQ dX6_wokenFall_12 ⟨_, _, _, rfl, rfl, h⟩
-- ChipVoltsModel.count(I)I, level 2
def wp_X6_count (what : Int32) (c : CS) (t : MT) (K : Int32 → CS → MT → Prop) : Prop :=
    (what = nI 0 →
      K (c_n c) c t) ∧
    (what = nI 1 →
      K (c_wires c) c t) ∧
    (what = nI 2 →
      wp_X6_bits (c_pads c) (fun r2 =>
        K r2 c t)) ∧
    (what = nI 3 →
      K (c_nb c) c t) ∧
    (what = nI 4 →
      K (c_budget c) c t) ∧
    (what = nI 5 →
      wp_X6_isFed c t (fun r3 c3_ t3_ =>
        (r3 = 0 →
          K (0 : Int32) c3_ t3_) ∧
        (¬ r3 = 0 →
          K (1 : Int32) c3_ t3_))) ∧
    ((∀ j : Nat, j < 6 → ¬ what = nI j) →
      K (-2 : Int32) c t)
set_option maxHeartbeats 4000000 in
set_option maxRecDepth 100000 in
theorem snd_X6_count {l : Launch} (what : Int32) (c : CS) (t : MT) (K : Int32 → CS → MT → Prop) (h : wp_X6_count what c t K) : XM l xTM yX6_count cX6_count 2 (some .int) 2 [.ref 0, .int what] (wM c t) (fun v ω' => ∃ (r : Int32) (c' : CS) (t' : MT), v = some (.int r) ∧ ω' = wM c' t' ∧ K r c' t') := by
    refine XM.of (by decide) (Nat.le_of_ble_eq_true rfl) (fun κ hQ => ?_)
    show Wat κ 0 [(0, .ref 0), (1, .int what)] [] (wM c t)
    unfold wp_X6_count at h
    refine xr_iload_n (pc := 0) κ 1 (x := what) dX6_count_0 rfl rfl ?_
    refine xr_tsw (pc := 1) κ 6 (fun j => [40, 45, 50, 58, 63, 68].getD j 0) 81 dX6_count_1 (by decide) (by decide) (by decide) (by decide) (fun j hj ej => ?_) (fun c1 => ?_)
    rotate_left
    · have h := h.2.2.2.2.2.2 c1
      refine xr_bipush (pc := 81) κ (v := -2) dX6_count_81 (by decide) ?_
      exact xr_iret (pc := 83) κ _ hQ dX6_count_83 ⟨_, _, _, rfl, rfl, h⟩
    rcases (show j = 0 ∨ j = 1 ∨ j = 2 ∨ j = 3 ∨ j = 4 ∨ j = 5 by omega) with rfl | rfl | rfl | rfl | rfl | rfl
    · have h := h.1 ej
      refine xr_aload_n (pc := 40) κ 0 (x := 0) dX6_count_40 rfl rfl ?_
      refine xr_get (pc := 41) κ xc6 (k := 0) (f := 0) (v := .int (c_n c)) kw_3_23 (by decide) rfl (by decide) rfl dX6_count_41 ?_
      exact xr_iret (pc := 44) κ _ hQ dX6_count_44 ⟨_, _, _, rfl, rfl, h⟩
    · have h := h.2.1 ej
      refine xr_aload_n (pc := 45) κ 0 (x := 0) dX6_count_45 rfl rfl ?_
      refine xr_get (pc := 46) κ xc6 (k := 0) (f := 1) (v := .int (c_wires c)) kw_3_24 (by decide) rfl (by decide) rfl dX6_count_46 ?_
      exact xr_iret (pc := 49) κ _ hQ dX6_count_49 ⟨_, _, _, rfl, rfl, h⟩
    · have h := h.2.2.1 ej
      refine xr_aload_n (pc := 50) κ 0 (x := 0) dX6_count_50 rfl rfl ?_
      refine xr_get (pc := 51) κ xc6 (k := 0) (f := 6) (v := .int (c_pads c)) kw_3_29 (by decide) rfl (by decide) rfl dX6_count_51 ?_
      refine xr_callS (pc := 54) κ [.int (c_pads c)] kw_3_231 tg_X6_bits (snd_X6_bits _ _ h) rfl (by decide) (by decide) (Nat.le_of_ble_eq_true rfl) dX6_count_54 (fun v9 ω9 hk9 => ?_)
      obtain ⟨r2, rfl, e9, h⟩ := hk9
      rw [e9]
      show Wat κ 57 [(0, .ref 0), (1, .int what)] [.int r2] (wM c t)
      exact xr_iret (pc := 57) κ _ hQ dX6_count_57 ⟨_, _, _, rfl, rfl, h⟩
    · have h := h.2.2.2.1 ej
      refine xr_aload_n (pc := 58) κ 0 (x := 0) dX6_count_58 rfl rfl ?_
      refine xr_get (pc := 59) κ xc6 (k := 0) (f := 8) (v := .int (c_nb c)) kw_3_31 (by decide) rfl (by decide) rfl dX6_count_59 ?_
      exact xr_iret (pc := 62) κ _ hQ dX6_count_62 ⟨_, _, _, rfl, rfl, h⟩
    · have h := h.2.2.2.2.1 ej
      refine xr_aload_n (pc := 63) κ 0 (x := 0) dX6_count_63 rfl rfl ?_
      refine xr_get (pc := 64) κ xc6 (k := 0) (f := 11) (v := .int (c_budget c)) kw_3_34 (by decide) rfl (by decide) rfl dX6_count_64 ?_
      exact xr_iret (pc := 67) κ _ hQ dX6_count_67 ⟨_, _, _, rfl, rfl, h⟩
    · have h := h.2.2.2.2.2.1 ej
      refine xr_aload_n (pc := 68) κ 0 (x := 0) dX6_count_68 rfl rfl ?_
      refine xr_callV (pc := 69) κ [] kw_3_134 tg_X6_isFed (snd_X6_isFed  _ _ _ h) rfl (by decide) (by decide) (by decide) rfl (ci := 6) rfl rfl (Nat.le_of_ble_eq_true rfl) dX6_count_69 (fun v9 ω9 hk9 => ?_)
      obtain ⟨r3, c3_, t3_, rfl, rfl, h⟩ := hk9
      skip
      show Wat κ 72 [(0, .ref 0), (1, .int what)] [.int r3] (wM c3_ t3_)
      refine xr_if_eq (pc := 72) κ (tgt := 79) dX6_count_72 (by decide) (fun c4 => ?_) (fun c4 => ?_)
      · have h := h.1 c4
        refine xr_iconst (pc := 79) κ (v := 0) dX6_count_79 (by decide) ?_
        exact xr_iret (pc := 80) κ _ hQ dX6_count_80 ⟨_, _, _, rfl, rfl, h⟩
      · have h := h.2 c4
        refine xr_iconst (pc := 75) κ (v := 1) dX6_count_75 (by decide) ?_
        refine xr_goto (pc := 76) κ (tgt := 80) dX6_count_76 (by decide) ?_
        exact xr_iret (pc := 80) κ _ hQ dX6_count_80 ⟨_, _, _, rfl, rfl, h⟩
-- ChipVoltsModel.digest()J, level 4
def nd_X6_digest_165 (K : Int64 → CS → MT → Prop) : Nat → Int64 → Int32 → CS → MT → Prop
  | 0 => fun _ _ _ _ => False
  | n + 1 => fun v1 v3 c t =>
    ((c_nb c) ≤ v3 →
      K v1 c t) ∧
    (¬ (c_nb c) ≤ v3 →
      vp_in v3 6 ∧
      vp_in v3 6 ∧
      nd_X6_digest_165 K n (((31 : Int64) * (((31 : Int64) * v1) + (Int32.toInt64 (c_sits c v3.toNatClampNeg)))) + (Int32.toInt64 (c_most c v3.toNatClampNeg))) (v3 + 1) c t)
set_option maxHeartbeats 4000000 in
set_option maxRecDepth 100000 in
theorem snd_X6_digest_165 {l : Launch} (κ : XC l xTM cX6_digest yX6_digest.cls 4 (some .long) 4) (K : Int64 → CS → MT → Prop) (hQ : xRet κ (fun v ω' => ∃ (r : Int64) (c' : CS) (t' : MT), v = some (.long r) ∧ ω' = wM c' t' ∧ K r c' t')) : ∀ (n : Nat) (v1 : Int64) (v3 : Int32) (c : CS) (t : MT), nd_X6_digest_165 K n v1 v3 c t → Wat κ 165 [(0, .ref 0), (1, .long v1), (3, .int v3)] [] (wM c t) := by
  intro n
  induction n with
  | zero => intro v1 v3 c t h; exact h.elim
  | succ n ih =>
    intro v1 v3 c t h
    unfold nd_X6_digest_165 at h
    refine xr_iload_n (pc := 165) κ 2 (x := v3) dX6_digest_165 rfl rfl ?_
    refine xr_aload_n (pc := 166) κ 0 (x := 0) dX6_digest_166 rfl rfl ?_
    refine xr_get (pc := 167) κ xc6 (k := 0) (f := 8) (v := .int (c_nb c)) kw_3_31 (by decide) rfl (by decide) rfl dX6_digest_167 ?_
    refine xr_icmp_ge (pc := 170) κ (tgt := 205) dX6_digest_170 (by decide) (fun c4 => ?_) (fun c4 => ?_)
    · have h := h.1 c4
      refine xr_lload_n (pc := 205) κ 1 (x := v1) dX6_digest_205 rfl rfl ?_
      exact xr_lret (pc := 206) κ _ hQ dX6_digest_206 ⟨_, _, _, rfl, rfl, h⟩
    · have h := h.2 c4
      refine xr_ldc2 (pc := 173) κ (v := 31) kw_4_48 dX6_digest_173 ?_
      refine xr_ldc2 (pc := 176) κ (v := 31) kw_4_48 dX6_digest_176 ?_
      refine xr_lload_n (pc := 179) κ 1 (x := v1) dX6_digest_179 rfl rfl ?_
      refine xr_lmul (pc := 180) κ dX6_digest_180 ?_
      refine xr_aload_n (pc := 181) κ 0 (x := 0) dX6_digest_181 rfl rfl ?_
      refine xr_get (pc := 182) κ xc6 (k := 0) (f := 9) (v := .ref 6) kw_3_32 (by decide) rfl (by decide) rfl dX6_digest_182 ?_
      refine xr_iload_n (pc := 185) κ 2 (x := v3) dX6_digest_185 rfl rfl ?_
      obtain ⟨i5, h⟩ := h
      refine xr_iald (pc := 186) κ (k := 6) (n := 6) (f := c_sits c) (by decide) rfl rfl i5 dX6_digest_186 ?_
      refine xr_i2l (pc := 187) κ dX6_digest_187 ?_
      refine xr_ladd (pc := 188) κ dX6_digest_188 ?_
      refine xr_lmul (pc := 189) κ dX6_digest_189 ?_
      refine xr_aload_n (pc := 190) κ 0 (x := 0) dX6_digest_190 rfl rfl ?_
      refine xr_get (pc := 191) κ xc6 (k := 0) (f := 10) (v := .ref 7) kw_3_33 (by decide) rfl (by decide) rfl dX6_digest_191 ?_
      refine xr_iload_n (pc := 194) κ 2 (x := v3) dX6_digest_194 rfl rfl ?_
      obtain ⟨i6, h⟩ := h
      refine xr_iald (pc := 195) κ (k := 7) (n := 6) (f := c_most c) (by decide) rfl rfl i6 dX6_digest_195 ?_
      refine xr_i2l (pc := 196) κ dX6_digest_196 ?_
      refine xr_ladd (pc := 197) κ dX6_digest_197 ?_
      refine xr_lstore_n (pc := 198) κ [1, 0, 2] (lv' := [(0, .ref 0), (1, .long (((31 : Int64) * (((31 : Int64) * v1) + (Int32.toInt64 (c_sits c v3.toNatClampNeg)))) + (Int32.toInt64 (c_most c v3.toNatClampNeg)))), (3, .int v3)]) dX6_digest_198 rfl (by decide) rfl ?_
      refine xr_iinc (pc := 199) κ 2 [1, 2, 0] (lv' := [(0, .ref 0), (1, .long (((31 : Int64) * (((31 : Int64) * v1) + (Int32.toInt64 (c_sits c v3.toNatClampNeg)))) + (Int32.toInt64 (c_most c v3.toNatClampNeg)))), (3, .int (v3 + 1))]) (x := v3) (v := v3 + 1) dX6_digest_199 rfl rfl (by decide) rfl ?_
      refine xr_goto (pc := 202) κ (tgt := 165) dX6_digest_202 (by decide) ?_
      exact ih _ _ _ _ h
def nd_X6_digest_99 (K : Int64 → CS → MT → Prop) : Nat → Int64 → Int32 → CS → MT → Prop
  | 0 => fun _ _ _ _ => False
  | n + 1 => fun v1 v3 c t =>
    ((c_wires c) ≤ v3 →
      ∃ n165 : Nat, nd_X6_digest_165 K n165 v1 (0 : Int32) c t) ∧
    (¬ (c_wires c) ≤ v3 →
      vp_in v3 12 ∧
      vp_in v3 12 ∧
      vp_in v3 12 ∧
      vp_in v3 12 ∧
      nd_X6_digest_99 K n (((31 : Int64) * (((31 : Int64) * (((31 : Int64) * (((31 : Int64) * v1) + (Int32.toInt64 (c_from c v3.toNatClampNeg)))) + (Int32.toInt64 (c_to c v3.toNatClampNeg)))) + (Int32.toInt64 (c_wide c v3.toNatClampNeg)))) + (Int32.toInt64 (c_price c v3.toNatClampNeg))) (v3 + 1) c t)
set_option maxHeartbeats 4000000 in
set_option maxRecDepth 100000 in
theorem snd_X6_digest_99 {l : Launch} (κ : XC l xTM cX6_digest yX6_digest.cls 4 (some .long) 4) (K : Int64 → CS → MT → Prop) (hQ : xRet κ (fun v ω' => ∃ (r : Int64) (c' : CS) (t' : MT), v = some (.long r) ∧ ω' = wM c' t' ∧ K r c' t')) : ∀ (n : Nat) (v1 : Int64) (v3 : Int32) (c : CS) (t : MT), nd_X6_digest_99 K n v1 v3 c t → Wat κ 99 [(0, .ref 0), (1, .long v1), (3, .int v3)] [] (wM c t) := by
  intro n
  induction n with
  | zero => intro v1 v3 c t h; exact h.elim
  | succ n ih =>
    intro v1 v3 c t h
    unfold nd_X6_digest_99 at h
    refine xr_iload_n (pc := 99) κ 2 (x := v3) dX6_digest_99 rfl rfl ?_
    refine xr_aload_n (pc := 100) κ 0 (x := 0) dX6_digest_100 rfl rfl ?_
    refine xr_get (pc := 101) κ xc6 (k := 0) (f := 1) (v := .int (c_wires c)) kw_3_24 (by decide) rfl (by decide) rfl dX6_digest_101 ?_
    refine xr_icmp_ge (pc := 104) κ (tgt := 163) dX6_digest_104 (by decide) (fun c3 => ?_) (fun c3 => ?_)
    · have h := h.1 c3
      refine xr_iconst (pc := 163) κ (v := 0) dX6_digest_163 (by decide) ?_
      refine xr_istore_n (pc := 164) κ [1, 2, 0] (lv' := [(0, .ref 0), (1, .long v1), (3, .int (0 : Int32))]) dX6_digest_164 rfl (by decide) rfl ?_
      obtain ⟨n0, h⟩ := h
      exact snd_X6_digest_165 κ K hQ n0 _ _ _ _ h
    · have h := h.2 c3
      refine xr_ldc2 (pc := 107) κ (v := 31) kw_4_48 dX6_digest_107 ?_
      refine xr_ldc2 (pc := 110) κ (v := 31) kw_4_48 dX6_digest_110 ?_
      refine xr_ldc2 (pc := 113) κ (v := 31) kw_4_48 dX6_digest_113 ?_
      refine xr_ldc2 (pc := 116) κ (v := 31) kw_4_48 dX6_digest_116 ?_
      refine xr_lload_n (pc := 119) κ 1 (x := v1) dX6_digest_119 rfl rfl ?_
      refine xr_lmul (pc := 120) κ dX6_digest_120 ?_
      refine xr_aload_n (pc := 121) κ 0 (x := 0) dX6_digest_121 rfl rfl ?_
      refine xr_get (pc := 122) κ xc6 (k := 0) (f := 2) (v := .ref 1) kw_3_25 (by decide) rfl (by decide) rfl dX6_digest_122 ?_
      refine xr_iload_n (pc := 125) κ 2 (x := v3) dX6_digest_125 rfl rfl ?_
      obtain ⟨i7, h⟩ := h
      refine xr_iald (pc := 126) κ (k := 1) (n := 12) (f := c_from c) (by decide) rfl rfl i7 dX6_digest_126 ?_
      refine xr_i2l (pc := 127) κ dX6_digest_127 ?_
      refine xr_ladd (pc := 128) κ dX6_digest_128 ?_
      refine xr_lmul (pc := 129) κ dX6_digest_129 ?_
      refine xr_aload_n (pc := 130) κ 0 (x := 0) dX6_digest_130 rfl rfl ?_
      refine xr_get (pc := 131) κ xc6 (k := 0) (f := 3) (v := .ref 2) kw_3_26 (by decide) rfl (by decide) rfl dX6_digest_131 ?_
      refine xr_iload_n (pc := 134) κ 2 (x := v3) dX6_digest_134 rfl rfl ?_
      obtain ⟨i8, h⟩ := h
      refine xr_iald (pc := 135) κ (k := 2) (n := 12) (f := c_to c) (by decide) rfl rfl i8 dX6_digest_135 ?_
      refine xr_i2l (pc := 136) κ dX6_digest_136 ?_
      refine xr_ladd (pc := 137) κ dX6_digest_137 ?_
      refine xr_lmul (pc := 138) κ dX6_digest_138 ?_
      refine xr_aload_n (pc := 139) κ 0 (x := 0) dX6_digest_139 rfl rfl ?_
      refine xr_get (pc := 140) κ xc6 (k := 0) (f := 4) (v := .ref 3) kw_3_27 (by decide) rfl (by decide) rfl dX6_digest_140 ?_
      refine xr_iload_n (pc := 143) κ 2 (x := v3) dX6_digest_143 rfl rfl ?_
      obtain ⟨i9, h⟩ := h
      refine xr_iald (pc := 144) κ (k := 3) (n := 12) (f := c_wide c) (by decide) rfl rfl i9 dX6_digest_144 ?_
      refine xr_i2l (pc := 145) κ dX6_digest_145 ?_
      refine xr_ladd (pc := 146) κ dX6_digest_146 ?_
      refine xr_lmul (pc := 147) κ dX6_digest_147 ?_
      refine xr_aload_n (pc := 148) κ 0 (x := 0) dX6_digest_148 rfl rfl ?_
      refine xr_get (pc := 149) κ xc6 (k := 0) (f := 5) (v := .ref 4) kw_3_28 (by decide) rfl (by decide) rfl dX6_digest_149 ?_
      refine xr_iload_n (pc := 152) κ 2 (x := v3) dX6_digest_152 rfl rfl ?_
      obtain ⟨i10, h⟩ := h
      refine xr_iald (pc := 153) κ (k := 4) (n := 12) (f := c_price c) (by decide) rfl rfl i10 dX6_digest_153 ?_
      refine xr_i2l (pc := 154) κ dX6_digest_154 ?_
      refine xr_ladd (pc := 155) κ dX6_digest_155 ?_
      refine xr_lstore_n (pc := 156) κ [1, 0, 2] (lv' := [(0, .ref 0), (1, .long (((31 : Int64) * (((31 : Int64) * (((31 : Int64) * (((31 : Int64) * v1) + (Int32.toInt64 (c_from c v3.toNatClampNeg)))) + (Int32.toInt64 (c_to c v3.toNatClampNeg)))) + (Int32.toInt64 (c_wide c v3.toNatClampNeg)))) + (Int32.toInt64 (c_price c v3.toNatClampNeg)))), (3, .int v3)]) dX6_digest_156 rfl (by decide) rfl ?_
      refine xr_iinc (pc := 157) κ 2 [1, 2, 0] (lv' := [(0, .ref 0), (1, .long (((31 : Int64) * (((31 : Int64) * (((31 : Int64) * (((31 : Int64) * v1) + (Int32.toInt64 (c_from c v3.toNatClampNeg)))) + (Int32.toInt64 (c_to c v3.toNatClampNeg)))) + (Int32.toInt64 (c_wide c v3.toNatClampNeg)))) + (Int32.toInt64 (c_price c v3.toNatClampNeg)))), (3, .int (v3 + 1))]) (x := v3) (v := v3 + 1) dX6_digest_157 rfl rfl (by decide) rfl ?_
      refine xr_goto (pc := 160) κ (tgt := 99) dX6_digest_160 (by decide) ?_
      exact ih _ _ _ _ h
def nd_X6_digest_33 (K : Int64 → CS → MT → Prop) : Nat → Int64 → Int32 → CS → MT → Prop
  | 0 => fun _ _ _ _ => False
  | n + 1 => fun v1 v3 c t =>
    ((c_n c) ≤ v3 →
      ∃ n99 : Nat, nd_X6_digest_99 K n99 v1 (0 : Int32) c t) ∧
    (¬ (c_n c) ≤ v3 →
      vp_in v3 7 ∧
      wp_X6_fall v3 (0 : Int32) c t (fun r12 c12_ t12_ =>
        wp_X6_fall v3 (1 : Int32) c12_ t12_ (fun r13 c13_ t13_ =>
          nd_X6_digest_33 K n (((31 : Int64) * (((31 : Int64) * (((31 : Int64) * (((31 : Int64) * v1) + (Int32.toInt64 (c_pulls c v3.toNatClampNeg)))) + (Int32.toInt64 (((c_pads c) >>> (v3 &&& 31)) &&& (1 : Int32))))) + r12)) + r13) (v3 + 1) c13_ t13_)))
set_option maxHeartbeats 4000000 in
set_option maxRecDepth 100000 in
theorem snd_X6_digest_33 {l : Launch} (κ : XC l xTM cX6_digest yX6_digest.cls 4 (some .long) 4) (K : Int64 → CS → MT → Prop) (hQ : xRet κ (fun v ω' => ∃ (r : Int64) (c' : CS) (t' : MT), v = some (.long r) ∧ ω' = wM c' t' ∧ K r c' t')) : ∀ (n : Nat) (v1 : Int64) (v3 : Int32) (c : CS) (t : MT), nd_X6_digest_33 K n v1 v3 c t → Wat κ 33 [(0, .ref 0), (1, .long v1), (3, .int v3)] [] (wM c t) := by
  intro n
  induction n with
  | zero => intro v1 v3 c t h; exact h.elim
  | succ n ih =>
    intro v1 v3 c t h
    unfold nd_X6_digest_33 at h
    refine xr_iload_n (pc := 33) κ 2 (x := v3) dX6_digest_33 rfl rfl ?_
    refine xr_aload_n (pc := 34) κ 0 (x := 0) dX6_digest_34 rfl rfl ?_
    refine xr_get (pc := 35) κ xc6 (k := 0) (f := 0) (v := .int (c_n c)) kw_3_23 (by decide) rfl (by decide) rfl dX6_digest_35 ?_
    refine xr_icmp_ge (pc := 38) κ (tgt := 97) dX6_digest_38 (by decide) (fun c2 => ?_) (fun c2 => ?_)
    · have h := h.1 c2
      refine xr_iconst (pc := 97) κ (v := 0) dX6_digest_97 (by decide) ?_
      refine xr_istore_n (pc := 98) κ [1, 2, 0] (lv' := [(0, .ref 0), (1, .long v1), (3, .int (0 : Int32))]) dX6_digest_98 rfl (by decide) rfl ?_
      obtain ⟨n0, h⟩ := h
      exact snd_X6_digest_99 κ K hQ n0 _ _ _ _ h
    · have h := h.2 c2
      refine xr_ldc2 (pc := 41) κ (v := 31) kw_4_48 dX6_digest_41 ?_
      refine xr_ldc2 (pc := 44) κ (v := 31) kw_4_48 dX6_digest_44 ?_
      refine xr_ldc2 (pc := 47) κ (v := 31) kw_4_48 dX6_digest_47 ?_
      refine xr_ldc2 (pc := 50) κ (v := 31) kw_4_48 dX6_digest_50 ?_
      refine xr_lload_n (pc := 53) κ 1 (x := v1) dX6_digest_53 rfl rfl ?_
      refine xr_lmul (pc := 54) κ dX6_digest_54 ?_
      refine xr_aload_n (pc := 55) κ 0 (x := 0) dX6_digest_55 rfl rfl ?_
      refine xr_get (pc := 56) κ xc6 (k := 0) (f := 7) (v := .ref 5) kw_3_30 (by decide) rfl (by decide) rfl dX6_digest_56 ?_
      refine xr_iload_n (pc := 59) κ 2 (x := v3) dX6_digest_59 rfl rfl ?_
      obtain ⟨i11, h⟩ := h
      refine xr_iald (pc := 60) κ (k := 5) (n := 7) (f := c_pulls c) (by decide) rfl rfl i11 dX6_digest_60 ?_
      refine xr_i2l (pc := 61) κ dX6_digest_61 ?_
      refine xr_ladd (pc := 62) κ dX6_digest_62 ?_
      refine xr_lmul (pc := 63) κ dX6_digest_63 ?_
      refine xr_aload_n (pc := 64) κ 0 (x := 0) dX6_digest_64 rfl rfl ?_
      refine xr_get (pc := 65) κ xc6 (k := 0) (f := 6) (v := .int (c_pads c)) kw_3_29 (by decide) rfl (by decide) rfl dX6_digest_65 ?_
      refine xr_iload_n (pc := 68) κ 2 (x := v3) dX6_digest_68 rfl rfl ?_
      refine xr_ishr (pc := 69) κ dX6_digest_69 ?_
      refine xr_iconst (pc := 70) κ (v := 1) dX6_digest_70 (by decide) ?_
      refine xr_iand (pc := 71) κ dX6_digest_71 ?_
      refine xr_i2l (pc := 72) κ dX6_digest_72 ?_
      refine xr_ladd (pc := 73) κ dX6_digest_73 ?_
      refine xr_lmul (pc := 74) κ dX6_digest_74 ?_
      refine xr_aload_n (pc := 75) κ 0 (x := 0) dX6_digest_75 rfl rfl ?_
      refine xr_iload_n (pc := 76) κ 2 (x := v3) dX6_digest_76 rfl rfl ?_
      refine xr_iconst (pc := 77) κ (v := 0) dX6_digest_77 (by decide) ?_
      refine xr_callV (pc := 78) κ [.int v3, .int (0 : Int32)] kw_4_50 tg_X6_fall (snd_X6_fall _ _ _ _ _ h) rfl (by decide) (by decide) (by decide) rfl (ci := 6) rfl rfl (Nat.le_of_ble_eq_true rfl) dX6_digest_78 (fun v9 ω9 hk9 => ?_)
      obtain ⟨r12, c12_, t12_, rfl, rfl, h⟩ := hk9
      skip
      show Wat κ 81 [(0, .ref 0), (1, .long v1), (3, .int v3)] [.long r12, .long ((31 : Int64) * (((31 : Int64) * (((31 : Int64) * v1) + (Int32.toInt64 (c_pulls c v3.toNatClampNeg)))) + (Int32.toInt64 (((c_pads c) >>> (v3 &&& 31)) &&& (1 : Int32))))), .long (31 : Int64)] (wM c12_ t12_)
      refine xr_ladd (pc := 81) κ dX6_digest_81 ?_
      refine xr_lmul (pc := 82) κ dX6_digest_82 ?_
      refine xr_aload_n (pc := 83) κ 0 (x := 0) dX6_digest_83 rfl rfl ?_
      refine xr_iload_n (pc := 84) κ 2 (x := v3) dX6_digest_84 rfl rfl ?_
      refine xr_iconst (pc := 85) κ (v := 1) dX6_digest_85 (by decide) ?_
      refine xr_callV (pc := 86) κ [.int v3, .int (1 : Int32)] kw_4_50 tg_X6_fall (snd_X6_fall _ _ _ _ _ h) rfl (by decide) (by decide) (by decide) rfl (ci := 6) rfl rfl (Nat.le_of_ble_eq_true rfl) dX6_digest_86 (fun v9 ω9 hk9 => ?_)
      obtain ⟨r13, c13_, t13_, rfl, rfl, h⟩ := hk9
      skip
      show Wat κ 89 [(0, .ref 0), (1, .long v1), (3, .int v3)] [.long r13, .long ((31 : Int64) * (((31 : Int64) * (((31 : Int64) * (((31 : Int64) * v1) + (Int32.toInt64 (c_pulls c v3.toNatClampNeg)))) + (Int32.toInt64 (((c_pads c) >>> (v3 &&& 31)) &&& (1 : Int32))))) + r12))] (wM c13_ t13_)
      refine xr_ladd (pc := 89) κ dX6_digest_89 ?_
      refine xr_lstore_n (pc := 90) κ [1, 0, 2] (lv' := [(0, .ref 0), (1, .long (((31 : Int64) * (((31 : Int64) * (((31 : Int64) * (((31 : Int64) * v1) + (Int32.toInt64 (c_pulls c v3.toNatClampNeg)))) + (Int32.toInt64 (((c_pads c) >>> (v3 &&& 31)) &&& (1 : Int32))))) + r12)) + r13)), (3, .int v3)]) dX6_digest_90 rfl (by decide) rfl ?_
      refine xr_iinc (pc := 91) κ 2 [1, 2, 0] (lv' := [(0, .ref 0), (1, .long (((31 : Int64) * (((31 : Int64) * (((31 : Int64) * (((31 : Int64) * v1) + (Int32.toInt64 (c_pulls c v3.toNatClampNeg)))) + (Int32.toInt64 (((c_pads c) >>> (v3 &&& 31)) &&& (1 : Int32))))) + r12)) + r13)), (3, .int (v3 + 1))]) (x := v3) (v := v3 + 1) dX6_digest_91 rfl rfl (by decide) rfl ?_
      refine xr_goto (pc := 94) κ (tgt := 33) dX6_digest_94 (by decide) ?_
      exact ih _ _ _ _ h
def nd_X6_digest_6 (K : Int64 → CS → MT → Prop) : Nat → Int64 → Int32 → CS → MT → Prop
  | 0 => fun _ _ _ _ => False
  | n + 1 => fun v1 v3 c t =>
    ((6 : Int32) ≤ v3 →
      ∃ n33 : Nat, nd_X6_digest_33 K n33 v1 (0 : Int32) c t) ∧
    (¬ (6 : Int32) ≤ v3 →
      wp_X6_count v3 c t (fun r14 c14_ t14_ =>
        nd_X6_digest_6 K n (((31 : Int64) * v1) + (Int32.toInt64 r14)) (v3 + 1) c14_ t14_))
set_option maxHeartbeats 4000000 in
set_option maxRecDepth 100000 in
theorem snd_X6_digest_6 {l : Launch} (κ : XC l xTM cX6_digest yX6_digest.cls 4 (some .long) 4) (K : Int64 → CS → MT → Prop) (hQ : xRet κ (fun v ω' => ∃ (r : Int64) (c' : CS) (t' : MT), v = some (.long r) ∧ ω' = wM c' t' ∧ K r c' t')) : ∀ (n : Nat) (v1 : Int64) (v3 : Int32) (c : CS) (t : MT), nd_X6_digest_6 K n v1 v3 c t → Wat κ 6 [(0, .ref 0), (1, .long v1), (3, .int v3)] [] (wM c t) := by
  intro n
  induction n with
  | zero => intro v1 v3 c t h; exact h.elim
  | succ n ih =>
    intro v1 v3 c t h
    unfold nd_X6_digest_6 at h
    refine xr_iload_n (pc := 6) κ 2 (x := v3) dX6_digest_6 rfl rfl ?_
    refine xr_bipush (pc := 7) κ (v := 6) dX6_digest_7 (by decide) ?_
    refine xr_icmp_ge (pc := 9) κ (tgt := 31) dX6_digest_9 (by decide) (fun c1 => ?_) (fun c1 => ?_)
    · have h := h.1 c1
      refine xr_iconst (pc := 31) κ (v := 0) dX6_digest_31 (by decide) ?_
      refine xr_istore_n (pc := 32) κ [1, 2, 0] (lv' := [(0, .ref 0), (1, .long v1), (3, .int (0 : Int32))]) dX6_digest_32 rfl (by decide) rfl ?_
      obtain ⟨n0, h⟩ := h
      exact snd_X6_digest_33 κ K hQ n0 _ _ _ _ h
    · have h := h.2 c1
      refine xr_ldc2 (pc := 12) κ (v := 31) kw_4_48 dX6_digest_12 ?_
      refine xr_lload_n (pc := 15) κ 1 (x := v1) dX6_digest_15 rfl rfl ?_
      refine xr_lmul (pc := 16) κ dX6_digest_16 ?_
      refine xr_aload_n (pc := 17) κ 0 (x := 0) dX6_digest_17 rfl rfl ?_
      refine xr_iload_n (pc := 18) κ 2 (x := v3) dX6_digest_18 rfl rfl ?_
      refine xr_callV (pc := 19) κ [.int v3] kw_4_49 tg_X6_count (snd_X6_count _ _ _ _ h) rfl (by decide) (by decide) (by decide) rfl (ci := 6) rfl rfl (Nat.le_of_ble_eq_true rfl) dX6_digest_19 (fun v9 ω9 hk9 => ?_)
      obtain ⟨r14, c14_, t14_, rfl, rfl, h⟩ := hk9
      skip
      show Wat κ 22 [(0, .ref 0), (1, .long v1), (3, .int v3)] [.int r14, .long ((31 : Int64) * v1)] (wM c14_ t14_)
      refine xr_i2l (pc := 22) κ dX6_digest_22 ?_
      refine xr_ladd (pc := 23) κ dX6_digest_23 ?_
      refine xr_lstore_n (pc := 24) κ [1, 0, 2] (lv' := [(0, .ref 0), (1, .long (((31 : Int64) * v1) + (Int32.toInt64 r14))), (3, .int v3)]) dX6_digest_24 rfl (by decide) rfl ?_
      refine xr_iinc (pc := 25) κ 2 [1, 2, 0] (lv' := [(0, .ref 0), (1, .long (((31 : Int64) * v1) + (Int32.toInt64 r14))), (3, .int (v3 + 1))]) (x := v3) (v := v3 + 1) dX6_digest_25 rfl rfl (by decide) rfl ?_
      refine xr_goto (pc := 28) κ (tgt := 6) dX6_digest_28 (by decide) ?_
      exact ih _ _ _ _ h
def wp_X6_digest (c : CS) (t : MT) (K : Int64 → CS → MT → Prop) : Prop :=
    ∃ n6 : Nat, nd_X6_digest_6 K n6 (191 : Int64) (0 : Int32) c t
set_option maxHeartbeats 4000000 in
set_option maxRecDepth 100000 in
theorem snd_X6_digest {l : Launch} (c : CS) (t : MT) (K : Int64 → CS → MT → Prop) (h : wp_X6_digest  c t K) : XM l xTM yX6_digest cX6_digest 4 (some .long) 4 [.ref 0] (wM c t) (fun v ω' => ∃ (r : Int64) (c' : CS) (t' : MT), v = some (.long r) ∧ ω' = wM c' t' ∧ K r c' t') := by
    refine XM.of (by decide) (Nat.le_of_ble_eq_true rfl) (fun κ hQ => ?_)
    show Wat κ 0 [(0, .ref 0)] [] (wM c t)
    unfold wp_X6_digest at h
    refine xr_ldc2 (pc := 0) κ (v := 191) kw_4_47 dX6_digest_0 ?_
    refine xr_lstore_n (pc := 3) κ [1, 0] (lv' := [(0, .ref 0), (1, .long (191 : Int64))]) dX6_digest_3 rfl (by decide) rfl ?_
    refine xr_iconst (pc := 4) κ (v := 0) dX6_digest_4 (by decide) ?_
    refine xr_istore_n (pc := 5) κ [1, 2, 0] (lv' := [(0, .ref 0), (1, .long (191 : Int64)), (3, .int (0 : Int32))]) dX6_digest_5 rfl (by decide) rfl ?_
    obtain ⟨n0, h⟩ := h
    exact snd_X6_digest_6 κ K hQ n0 _ _ _ _ h
