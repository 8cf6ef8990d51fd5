/-! WIDENED: the reference's steps -/
section MW
variable {c : CS} {t : MT} {p b : List Nat} {lim many : Int32}
theorem ahead6 {K : Int32 → CS → MT → Prop} (hC : CI c) (hp : srt (kE c) p) (hb : srt (kE c) b) (hpl : p.length ≤ 3) (hbl : b.length ≤ 3) (hmany : many.toInt = p.length) (hm : ∀ w, w < kE c → (m_more t w).toInt = lc p w) (hbm : ∀ w, w < kE c → (m_bestMore t w).toInt = lc b w)
    (h1 : (p.length < b.length ∨ (p.length = b.length ∧ bef p b)) → K 1 c t) (h0 : ¬ (p.length < b.length ∨ (p.length = b.length ∧ bef p b)) → K 0 c t) : wp_X6_isAhead many c t K := by
  have h12 := hC.e12
  show ∃ n4 : Nat, nd_X6_isAhead_4 K n4 many (0 : Int32) (nI 0) c t
  refine upto (fun n i (a : Int32) => nd_X6_isAhead_4 K n many a (nI i) c t) (fun i a => a.toInt = lb b i) (kE c) 0 0 (by omega) (lb_0 b).symm ?_ ?_
  · intro n a ha
    rw [lb_all (srt_mem hb)] at ha
    refine ⟨fun _ => ⟨fun e => ?_, fun e => ?_⟩, fun h => absurd (show c_wires c ≤ nI (kE c) from by rw [← hC.ew]; exact Int32.le_refl _) h⟩
    · have hl : p.length = b.length := by
        have := congrArg Int32.toInt e
        rw [hmany, ha] at this; omega
      show ∃ n45 : Nat, nd_X6_isAhead_45 K n45 (nI 0) c t
      refine upto (fun n i (_ : Unit) => nd_X6_isAhead_45 K n (nI i) c t) (fun i _ => ∀ v, v < i → lc p v = lc b v) (kE c) 0 () (by omega) (fun v h => by omega) ?_ ?_
      · intro n _ hv
        refine ⟨fun _ => h0 ?_, fun h => absurd (show c_wires c ≤ nI (kE c) from by rw [← hC.ew]; exact Int32.le_refl _) h⟩
        rintro (y | ⟨_, y⟩)
        · omega
        · exact bef_no hp hb hv y
      · intro n i _ hi _ hv hW
        have v12 : vp_in (nI i) 12 := vi (by omega) (by omega)
        have ci : (nI i).toNatClampNeg = i := cl_ (by omega)
        refine ⟨fun h => absurd h (by rw [hC.ew]; exact nI_ge hi (by omega)), fun _ => ⟨v12, v12, ?_⟩⟩
        rw [ci]
        have e1 := hm i hi
        have e2 := hbm i hi
        refine ⟨fun e => ?_, fun e => ⟨v12, v12, fun z => ?_, fun z => ?_⟩⟩
        · rw [nI_1]
          refine hW () (fun v hv' => ?_)
          by_cases q : v = i
          · rw [q, ← e1, ← e2, e]
          · exact hv v (by omega)
        · have hne : lc p i ≠ lc b i := fun q => e (i_inj (by rw [e1, e2, q]))
          have z' := Int32.le_iff_toInt_le.mp z
          rw [e1, e2] at z'
          refine h0 ?_
          rintro (y | ⟨_, y⟩)
          · omega
          · have := (bef_at hp hb hl hv hne).mp y
            omega
        · have hne : lc p i ≠ lc b i := fun q => e (i_inj (by rw [e1, e2, q]))
          have z' : ¬ (m_more t i).toInt ≤ (m_bestMore t i).toInt := fun y => z (Int32.le_iff_toInt_le.mpr y)
          rw [e1, e2] at z'
          exact h1 (.inr ⟨hl, (bef_at hp hb hl hv hne).mpr (by omega)⟩)
    · have hl : p.length ≠ b.length := fun q => e (i_inj (by rw [hmany, ha, q]))
      refine ⟨fun z => h0 ?_, fun z => h1 (.inl ?_)⟩
      · have z' := Int32.le_iff_toInt_le.mp z
        rw [hmany, ha] at z'
        rintro (y | ⟨y, _⟩) <;> omega
      · have z' : ¬ a.toInt ≤ many.toInt := fun y => z (Int32.le_iff_toInt_le.mpr y)
        rw [hmany, ha] at z'
        omega
  · intro n i a hi _ ha hW
    have ci : (nI i).toNatClampNeg = i := cl_ (by omega)
    refine ⟨fun h => absurd h (by rw [hC.ew]; exact nI_ge hi (by omega)), fun _ => ⟨vi (by omega) (by omega), ?_⟩⟩
    rw [ci, nI_1]
    have k1 := lb_len b i
    have k2 := lc_nn b i
    have k3 := lb_len b (i + 1)
    have k4 : 0 ≤ lb b (i + 1) := by
      have : ∀ (l : List Nat) (w : Nat), 0 ≤ lb l w := fun l w => by
        induction l with
        | nil => exact Int.le_refl _
        | cons a l ih =>
          show 0 ≤ lb l w + (if a < w then 1 else 0)
          split <;> omega
      exact this b _
    rw [lb_up] at k3 k4
    exact hW _ (by rw [lb_up]; exact i_add ha (hbm i hi) (by omega) (by omega))
/-- the core with more -/
def cmo (c : CS) (g : Nat → Int32) (i w : Nat) : Int32 := if w < i then c_wide c w + g w else c_wide c w
theorem cmo_up (g : Nat → Int32) (i : Nat) : upd (cmo c g i) i (cmo c g i i + g i) = cmo c g (i + 1) := by
  funext w
  by_cases e : w = i
  · subst e
    rw [up_s]
    unfold cmo
    rw [if_neg (by omega), if_pos (by omega)]
  · rw [up_n e]
    unfold cmo
    by_cases h : w < i
    · rw [if_pos h, if_pos (by omega)]
    · rw [if_neg h, if_neg (by omega)]
/-- and taken back below i -/
def cmb (c : CS) (g : Nat → Int32) (i w : Nat) : Int32 := if w < i then c_wide c w else cmo c g (kE c) w
theorem cmb_up (g : Nat → Int32) {i : Nat} (hi : i < kE c) : upd (cmb c g i) i (cmb c g i i - g i) = cmb c g (i + 1) := by
  funext w
  by_cases e : w = i
  · subst e
    rw [up_s]
    unfold cmb cmo
    rw [if_neg (by omega), if_pos (by omega), if_pos (by omega), Int32.add_sub_cancel]
  · rw [up_n e]
    unfold cmb
    by_cases h : w < i
    · rw [if_pos h, if_pos (by omega)]
    · rw [if_neg h, if_neg (by omega)]
theorem cmb_all (g : Nat → Int32) : cmb c g (kE c) = c_wide c := by
  funext w
  unfold cmb cmo
  by_cases h : w < kE c
  · rw [if_pos h]
  · rw [if_neg h, if_neg h]
theorem CI.wide {f : Nat → Int32} (hC : CI c) (hf : ∀ w, w < kE c → 1 ≤ (f w).toInt ∧ (f w).toInt ≤ 6) : CI (cs_wide c f) := by
  obtain ⟨h1, h2, h3, h4⟩ := hC
  refine ⟨h1, h2, fun w hw => ?_, h4⟩
  obtain ⟨a, b, d, _, e⟩ := h3 w hw
  exact ⟨a, b, d, hf w hw, e⟩
theorem within6 {K : Int32 → CS → MT → Prop} (hC : CI c) (hF : FedC c) (hok : okw c p) (hpl : p.length ≤ 3) (hl : 0 ≤ lim.toInt ∧ lim.toInt ≤ 1000) (hm : ∀ w, w < kE c → (m_more t w).toInt = lc p w)
    (h1 : wi c lim.toInt p → ∀ t', m_more t' = m_more t → m_bestMore t' = m_bestMore t → K 1 c t') (h0 : ¬ wi c lim.toInt p → ∀ t', m_more t' = m_more t → m_bestMore t' = m_bestMore t → K 0 c t') : wp_X6_isWithin lim c t K := by
  have h12 := hC.e12
  have hsum : ∀ w, w < kE c → (cmo c (m_more t) (kE c) w).toInt = kW c w + lc p w := fun w hw => by
    unfold cmo
    rw [if_pos hw]
    have k1 := hok w hw
    have k2 := lc_nn p w
    have k3 := (hC.2.2.1 w hw).2.2.2.1
    exact i_add rfl (hm w hw) (by show _ ≤ kW c w + _; omega) (by show kW c w + _ ≤ _; omega)
  have hC' : CI (cs_wide c (cmo c (m_more t) (kE c))) := hC.wide (fun w hw => by
    rw [hsum w hw]
    have k1 := hok w hw
    have k2 := lc_nn p w
    have k3 := (hC.2.2.1 w hw).2.2.2.1
    omega)
  have hL : kL (cs_wide c (cmo c (m_more t) (kE c))) (-1) = kLw c p := by
    show lp (kE c) (kF c) (kT c) _ = lp (kE c) (kF c) (kT c) _
    refine lp_congr (fun w hw => ?_)
    rw [wB_none _ (by omega)]
    show (cmo c (m_more t) (kE c) w).toInt = wB c (-1) w + lc p w
    rw [hsum w hw, wB_none _ (by omega)]
  have start : ∃ n, nd_X6_isWithin_2 K n lim (nI 0) (cs_wide c (cmo c (m_more t) 0)) t := by
    refine upto (fun n i (_ : Unit) => nd_X6_isWithin_2 K n lim (nI i) (cs_wide c (cmo c (m_more t) i)) t) (fun _ _ => True) (kE c) 0 () (by omega) trivial ?_ ?_
    · intro n _ _
      refine ⟨fun _ => ?_, fun h => absurd (show c_wires c ≤ nI (kE c) from by rw [← hC.ew]; exact Int32.le_refl _) h⟩
      obtain ⟨k0, hk0, hpad⟩ := gpad hC hF
      show wp_X6_findResist (c_pads c) (-1 : Int32) (cs_wide c (cmo c (m_more t) (kE c))) t _
      rw [hC.ep]
      refine find_ok hC' hC.b128 hk0 hpad (fun t' he hR => most_ok hC' hR hk0 hpad (fun r hr => ?_))
      have hu := hR.1
      rw [hL] at hu
      have hu : (m_under t').toInt = wiD c p := hu
      have hr : r.toInt = mx (kN c) (fl (kN c) (kL (cs_wide c (cmo c (m_more t) (kE c))) (-1)) (cS (kB c)) (kQ c)) := hr
      rw [hL] at hr
      have hr : r.toInt = wiM c p := hr
      have hDb := wiD_b hC hF hok
      have hmul := mul_bd (x := lim.toInt) (y := wiD c p) (A := 1000) (B := 255000000) (by omega) (by omega)
      have hpr : ((Int32.toInt64 lim) * (m_under t')).toInt = lim.toInt * wiD c p := l_mul (l_of rfl) hu (by omega) (by omega)
      have hback : ∀ s0 : Int32, narrow .boolean (.int s0) = .int s0 → (∀ t', m_more t' = m_more t → m_bestMore t' = m_bestMore t → K s0 c t') → nd_X6_isWithin_64 K s0 (cs_wide c (cmo c (m_more t) (kE c))) t' := fun s0 hn hK => by
        have e0 : cmo c (m_more t) (kE c) = cmb c (m_more t) 0 := by
          funext w
          unfold cmb
          rw [if_neg (by omega)]
        rw [e0]
        show ∃ n67 : Nat, nd_X6_isWithin_67 K n67 s0 (nI 0) (cs_wide c (cmb c (m_more t) 0)) t'
        refine upto (fun n i (_ : Unit) => nd_X6_isWithin_67 K n s0 (nI i) (cs_wide c (cmb c (m_more t) i)) t') (fun _ _ => True) (kE c) 0 () (by omega) trivial ?_ ?_
        · intro n _ _
          refine ⟨fun _ => ⟨hn, ?_⟩, fun h => absurd (show c_wires c ≤ nI (kE c) from by rw [← hC.ew]; exact Int32.le_refl _) h⟩
          rw [cmb_all]
          exact hK t' he.2.2.2.1 he.2.2.2.2.1
        · intro n i _ hi _ _ hW
          have v12 : vp_in (nI i) 12 := vi (by omega) (by omega)
          have ci : (nI i).toNatClampNeg = i := cl_ (by omega)
          refine ⟨fun h => absurd h (by show ¬ c_wires c ≤ _; rw [hC.ew]; exact nI_ge hi (by omega)), fun _ => ⟨v12, v12, v12, ?_⟩⟩
          rw [ci, nI_1]
          show nd_X6_isWithin_67 K n s0 (nI (i + 1)) (cs_wide c (upd (cmb c (m_more t) i) i (cmb c (m_more t) i i - m_more t' i))) t'
          rw [he.2.2.2.1, cmb_up _ hi]
          exact hW () trivial
      refine ⟨fun h => hback 0 rfl (h0 (fun q => ?_)), fun h => hback 1 rfl (h1 ?_)⟩
      · have h' := Int64.lt_iff_toInt_lt.mp h
        rw [hpr, hr] at h'
        unfold wi at q
        omega
      · have h' : ¬ ((Int32.toInt64 lim) * (m_under t')).toInt < r.toInt := fun y => h (Int64.lt_iff_toInt_lt.mpr y)
        rw [hpr, hr] at h'
        unfold wi
        omega
    · intro n i _ hi _ _ hW
      have v12 : vp_in (nI i) 12 := vi (by omega) (by omega)
      have ci : (nI i).toNatClampNeg = i := cl_ (by omega)
      refine ⟨fun h => absurd h (by show ¬ c_wires c ≤ _; rw [hC.ew]; exact nI_ge hi (by omega)), fun _ => ⟨v12, v12, v12, ?_⟩⟩
      rw [ci, nI_1]
      show nd_X6_isWithin_2 K n lim (nI (i + 1)) (cs_wide c (upd (cmo c (m_more t) i) i (cmo c (m_more t) i i + m_more t i))) t
      rw [cmo_up]
      exact hW () trivial
  have e0 : cmo c (m_more t) 0 = c_wide c := by
    funext w
    unfold cmo
    rw [if_neg (by omega)]
  rw [e0] at start
  exact start
end MW
