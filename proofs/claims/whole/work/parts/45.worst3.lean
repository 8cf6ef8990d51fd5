/-! THE WORST: the reference's walk, and the three calls -/
theorem i_lel {a b : Int32} {x y : Int} (ha : a.toInt = x) (hb : b.toInt = y) : a ≤ b ↔ x ≤ y := by rw [Int32.le_iff_toInt_le, ha, hb]
theorem l_lel {a b : Int64} {x y : Int} (ha : a.toInt = x) (hb : b.toInt = y) : a ≤ b ↔ x ≤ y := by rw [Int64.le_iff_toInt_le, ha, hb]
theorem hx_pos {f : Nat → Int} {n : Nat} (h : f n ≤ f (hx n f)) : hx (n + 1) f = hx n f := if_pos h
theorem hx_neg {f : Nat → Int} {n : Nat} (h : ¬ f n ≤ f (hx n f)) : hx (n + 1) f = n := if_neg h
section WO3
variable {c : CS} {x : XT} {t : MT} {k : Nat} {what bl kk : Int32}
theorem worst6 {K : Int64 → CS → MT → Prop} (hC : CI c) (hF : FedC c) (hk : k < kN c) (hR : resI c (-1) (kB c) t) (hK : ∀ (r : Int64) (p : Nat → Int32), r.toInt = gX c k → (∀ b, b < kK c → (p b).toInt = (gW c k (kK c)).1 b) → K r c (ms_gets t p)) : wp_X6_findWorst (nI k) c t K := by
  have h6 := hC.b6
  have h7 := hC.n7
  have hRk : ∀ b, b < kK c → (m_resist t (7 * k + kS c b)).toInt = gr c k b := fun b hb => hR.2 k _ hk (hC.blk hb).1.1
  show ∃ n10 : Nat, nd_X6_findWorst_10 K n10 (nI k) (c_budget c) (0 : Int64) (nI 0) c (ms_gets t (m_gets t))
  refine upto (fun n i (p : Nat → Int32) => nd_X6_findWorst_10 K n (nI k) (c_budget c) (0 : Int64) (nI i) c (ms_gets t p)) (fun i p => ∀ b, b < i → (p b).toInt = -1) (kK c) 0 _ (by omega) (fun b h => by omega) ?_ ?_
  · intro n p hp
    refine ⟨fun _ => ?_, fun h => absurd (show c_nb c ≤ nI (kK c) from by rw [← hC.eb]; exact Int32.le_refl _) h⟩
    refine upto (fun n i (s : Int32 × Int64 × (Nat → Int32)) => nd_X6_findWorst_36 K n (nI k) s.1 s.2.1 (nI i) c (ms_gets t s.2.2)) (fun i s => s.1.toInt = (gW c k i).2 ∧ s.2.1.toInt = wU (kK c) (gr c k) (gW c k i).1 ∧ ∀ b, b < kK c → (s.2.2 b).toInt = (gW c k i).1 b) (kK c) 0 (c_budget c, 0, p) (by omega) ⟨rfl, ?_, hp⟩ ?_ ?_
    · rw [l0]
      exact (sm_zero (fun b _ => if_pos rfl)).symm
    · rintro n ⟨l, a, q⟩ ⟨_, ha, hq⟩
      refine ⟨fun _ => hK a q ?_ hq, fun h => absurd (show c_nb c ≤ nI (kK c) from by rw [← hC.eb]; exact Int32.le_refl _) h⟩
      refine Eq.trans ha (sm_congr (fun b hb => ?_))
      have := gW_all (k := k) hC b hb
      show (if (gW c k (kK c)).1 b = -1 then 0 else _) = _
      rw [if_neg (by omega)]
    · rintro n i ⟨l, a, q⟩ hi _ ⟨hl, ha, hq⟩ hW
      simp only at hl ha hq
      refine ⟨fun h => absurd h (by rw [hC.eb]; exact nI_ge hi (by omega)), fun _ => ?_⟩
      show ∃ n51 : Nat, nd_X6_findWorst_51 K (fun v1 v2 v3 v5 c t => nd_X6_findWorst_36 K n v1 v2 v3 v5 c t) n51 (nI k) l a (nI i) (rp none) (nI 0) c (ms_gets t q)
      obtain ⟨b, e, hb, hgb⟩ := gW_next (k := k) hC hi
      have hok := gW_ok (k := k) hC (i := i) (by omega)
      have hwu := wU_abs hC hF hk (g := (gW c k i).1) hok.2.2 (m := kK c) (Nat.le_refl _)
      have hst : gW c k (i + 1) = (ug (gW c k i).1 b (mnI (gW c k i).2 (kM c b)), (gW c k i).2 - mnI (gW c k i).2 (kM c b)) := wT_some e
      refine upto (fun n' j (o : Option Nat) => nd_X6_findWorst_51 K (fun v1 v2 v3 v5 c t => nd_X6_findWorst_36 K n v1 v2 v3 v5 c t) n' (nI k) l a (nI i) (rp o) (nI j) c (ms_gets t q)) (fun j o => o = nx (gr c k) (gW c k i).1 j) (kK c) 0 none (by omega) rfl ?_ ?_
      · rintro n' o rfl
        rw [e, show rp (some b) = nI b from rfl]
        refine ⟨fun _ => ?_, fun h => absurd (show c_nb c ≤ nI (kK c) from by rw [← hC.eb]; exact Int32.le_refl _) h⟩
        have cb : (nI b).toNatClampNeg = b := cl_ (by omega)
        have vb : vp_in (nI b) 6 := vi (by omega) (by omega)
        obtain ⟨⟨s1, s2⟩, hm⟩ := hC.blk hb
        have hr1 := gr_b hC hF hk hb
        have hput : ∀ v : Int32, v.toInt = mnI (gW c k i).2 (kM c b) → nd_X6_findWorst_153 K (fun v1 v2 v3 v5 c t => nd_X6_findWorst_36 K n v1 v2 v3 v5 c t) (nI k) l a (nI i) (nI b) v (nI b) c (ms_gets t q) := fun v hv => by
          have hmn : 0 ≤ mnI (gW c k i).2 (kM c b) ∧ mnI (gW c k i).2 (kM c b) ≤ 20 := by unfold mnI; split <;> omega
          have h2 := mul_bd (x := mnI (gW c k i).2 (kM c b)) (y := gr c k b) (A := 20) (B := 25200000) (by omega) hr1
          unfold nd_X6_findWorst_153
          rw [cb, s2, nI_7]
          refine ⟨vb, vb, vb, vb, vi (by omega) (by omega), ?_⟩
          rw [cl_ (by omega), nI_1, up_s]
          refine hW (_, _, _) ⟨?_, ?_, fun j hj => ?_⟩
          · rw [hst]
            exact i_sub hl hv (by omega) (by omega)
          · rw [hst]
            show _ = sm (kK c) (fun j => if ug (gW c k i).1 b (mnI (gW c k i).2 (kM c b)) j = -1 then 0 else ug (gW c k i).1 b (mnI (gW c k i).2 (kM c b)) j * gr c k j)
            rw [sm_ug hb (fun j z => if z = -1 then 0 else z * gr c k j), if_pos hgb, if_neg (by omega), Int.sub_zero]
            exact l_add ha (l_mul (l_of hv) (hRk b hb) (by omega) (by omega)) (by show _ ≤ sm (kK c) _ + _; omega) (by show sm (kK c) _ + _ ≤ _; omega)
          · rw [hst]
            show (upd q b _ j).toInt = ug _ b _ j
            unfold ug
            by_cases z : j = b
            · subst z; rw [up_s, if_pos rfl]; exact hv
            · rw [up_n z, if_neg z]; exact hq j hj
        show vp_in (nI b) 6 ∧ (l ≤ c_most c (nI b).toNatClampNeg → _) ∧ (¬ l ≤ c_most c (nI b).toNatClampNeg → vp_in (nI b) 6 ∧ _)
        have hle : l ≤ c_most c b ↔ (gW c k i).2 ≤ kM c b := i_lel hl rfl
        rw [cb]
        refine ⟨vb, fun z => hput l ?_, fun z => ⟨vb, hput _ ?_⟩⟩
        · unfold mnI; rw [if_pos (hle.mp z)]; exact hl
        · unfold mnI; rw [if_neg (fun y => z (hle.mpr y))]; rfl
      · rintro n' j o hj _ rfl hW'
        have vj6 : vp_in (nI j) 6 := vi (by omega) (by omega)
        have cj : (nI j).toNatClampNeg = j := cl_ (by omega)
        have hgj := hq j hj
        obtain ⟨⟨s1, s2⟩, -⟩ := hC.blk hj
        refine ⟨fun h => absurd h (by rw [hC.eb]; exact nI_ge hj (by omega)), fun _ => ⟨vj6, ?_⟩⟩
        show (¬ q (nI j).toNatClampNeg = (-1 : Int32) → _) ∧ (q (nI j).toNatClampNeg = (-1 : Int32) → _)
        rw [cj]
        refine ⟨fun z => ?_, fun z => ?_⟩
        · have e' : ¬ (gW c k i).1 j = -1 := fun y => z (i_inj (by rw [hgj, y]; decide))
          show nd_X6_findWorst_51 K _ n' (nI k) l a (nI i) _ (nI j + 1) c _
          rw [nI_1]
          refine hW' _ ?_
          show nx (gr c k) (gW c k i).1 j = (if (gW c k i).1 j = -1 then _ else _)
          rw [if_neg e']
        · have e' : (gW c k i).1 j = -1 := by rw [← hgj, z]; decide
          cases qn : nx (gr c k) (gW c k i).1 j with
          | none =>
            refine ⟨fun _ => ?_, fun y => absurd rfl y⟩
            show nd_X6_findWorst_51 K _ n' (nI k) l a (nI i) (rp (some j)) (nI j + 1) c _
            rw [nI_1]
            refine hW' _ ?_
            show some j = (if (gW c k i).1 j = -1 then _ else _)
            rw [if_pos e', qn]
          | some d =>
            have hd := nx_some qn
            have cd : (nI d).toNatClampNeg = d := cl_ (by omega)
            obtain ⟨⟨s1', s2'⟩, -⟩ := hC.blk (b := d) (by omega)
            refine ⟨fun y => absurd y (nI_nm1 (by omega)), fun _ => ?_⟩
            show vp_in (nI j) 6 ∧ vp_in (((7 : Int32) * nI k) + (c_sits c j)) 49 ∧ vp_in (nI d) 6 ∧ vp_in (((7 : Int32) * nI k) + (c_sits c (nI d).toNatClampNeg)) 49 ∧ ((m_resist t (((((7 : Int32) * nI k) + (c_sits c j))).toNatClampNeg)) ≤ (m_resist t (((((7 : Int32) * nI k) + (c_sits c (nI d).toNatClampNeg))).toNatClampNeg)) → nd_X6_findWorst_51 K (fun v1 v2 v3 v5 c t => nd_X6_findWorst_36 K n v1 v2 v3 v5 c t) n' (nI k) l a (nI i) (nI d) (nI j + 1) c (ms_gets t q)) ∧ (¬ (m_resist t (((((7 : Int32) * nI k) + (c_sits c j))).toNatClampNeg)) ≤ (m_resist t (((((7 : Int32) * nI k) + (c_sits c (nI d).toNatClampNeg))).toNatClampNeg)) → nd_X6_findWorst_51 K (fun v1 v2 v3 v5 c t => nd_X6_findWorst_36 K n v1 v2 v3 v5 c t) n' (nI k) l a (nI i) (nI j) (nI j + 1) c (ms_gets t q))
            rw [cd, s2, s2', nI_7, nI_7, nI_1, cl_ (by omega), cl_ (by omega)]
            have hle := l_lel (hRk j hj) (hRk d (by omega))
            refine ⟨vj6, vi (by omega) (by omega), vi (by omega) (by omega), vi (by omega) (by omega), fun y => ?_, fun y => ?_⟩
            · refine hW' (some d) ?_
              show some d = (if (gW c k i).1 j = -1 then _ else _)
              rw [if_pos e', qn]
              show some d = if _ then _ else _
              rw [if_pos (hle.mp y)]
            · refine hW' (some j) ?_
              show some j = (if (gW c k i).1 j = -1 then _ else _)
              rw [if_pos e', qn]
              show some j = if _ then _ else _
              rw [if_neg (fun z => y (hle.mpr z))]
  · intro n i p hi _ hp hW
    refine ⟨fun h => absurd h (by rw [hC.eb]; exact nI_ge hi (by omega)), fun _ => ⟨vi (by omega) (by omega), ?_⟩⟩
    rw [cl_ (by omega), nI_1]
    refine hW (upd p i (-1)) (fun b hb => ?_)
    by_cases z : b = i
    · subst z; rw [up_s]; exact m1'
    · rw [up_n z]; exact hp b (by omega)
theorem ag_worst (hC : CI c) : AGI c (fun x K => wp_X5_worst kk bl c x K) (fun t K => wp_X6_worst kk bl c t K) := by
  by_cases hk : isN (kN c) kk
  case neg => exact AGI.mk' hC (-2) (fun x K hK => kn5_0 hC hk ⟨fun _ => hK x, fun q => absurd rfl q⟩) (fun t K hK => kn6_0 hC hk ⟨fun _ => hK t, fun q => absurd rfl q⟩)
  by_cases hw : isN (kK c) bl
  case neg => exact AGI.mk' hC (-2) (fun x K hK => kn5_1 hC hk ⟨fun e => absurd e n10, fun _ => bl5_0 hC hw ⟨fun q => absurd rfl q, fun _ => hK x⟩⟩) (fun t K hK => kn6_1 hC hk ⟨fun e => absurd e n10, fun _ => bl6_0 hC hw ⟨fun q => absurd rfl q, fun _ => hK t⟩⟩)
  by_cases hF : FedC c
  case neg => exact AGI.mk' hC (-3) (fun x K hK => kn5_1 hC hk ⟨fun e => absurd e n10, fun _ => bl5_1 hC hw ⟨fun _ => set5 hC (fun q => absurd q hF) (fun _ x' => ⟨fun q => absurd rfl q, fun _ => hK x'⟩), fun e => absurd e n10⟩⟩) (fun t K hK => kn6_1 hC hk ⟨fun e => absurd e n10, fun _ => bl6_1 hC hw ⟨fun _ => fed_ok hC (fun q => absurd q hF) (fun _ => ⟨fun q => absurd rfl q, fun _ => hK t⟩), fun e => absurd e n10⟩⟩)
  obtain ⟨i, hi, rfl⟩ := hk
  have hk : isN (kN c) (nI i) := ⟨i, hi, rfl⟩
  obtain ⟨b, hb, rfl⟩ := hw
  have hw : isN (kK c) (nI b) := ⟨b, hb, rfl⟩
  have h6 := hC.b6
  have cb : (nI b).toNatClampNeg = b := cl_ (by omega)
  have vb : vp_in (nI b) 6 := vi (by omega) (by omega)
  refine AGI.mk' hC (Int32.ofInt ((gW c i (kK c)).1 b)) (fun x K hK => kn5_1 hC hk ⟨fun e => absurd e n10, fun _ => bl5_1 hC hw ⟨fun _ => set5 hC (fun _ x' hx => ⟨fun _ => share5 hC hi hx.2 (fun p hp => ⟨vb, ?_⟩), fun e => absurd e n10⟩) (fun q => absurd hF q), fun e => absurd e n10⟩⟩) (fun t K hK => kn6_1 hC hk ⟨fun e => absurd e n10, fun _ => bl6_1 hC hw ⟨fun _ => fed_ok hC (fun _ => ⟨fun _ => res6 hC hF (fun t' _ hR => worst6 hC hF hi hR (fun r p _ hp => ⟨vb, ?_⟩)), fun e => absurd e n10⟩) (fun q => absurd hF q), fun e => absurd e n10⟩⟩)
  · rw [cb, show x_gets (xs_gets x' p) b = Int32.ofInt ((gW c i (kK c)).1 b) from i_is (hp b hb)]
    exact hK _
  · rw [cb, show m_gets (ms_gets t' p) b = Int32.ofInt ((gW c i (kK c)).1 b) from i_is (hp b hb)]
    exact hK _
theorem ag_worstFall (hC : CI c) : AGL c (fun x K => wp_X5_worstFall kk what c x K) (fun t K => wp_X6_worstFall kk what c t K) := by
  by_cases hk : isN (kN c) kk
  case neg => exact AGL.mk' hC (-2) (fun x K hK => kn5_0 hC hk ⟨fun _ => hK x, fun q => absurd rfl q⟩) (fun t K hK => kn6_0 hC hk ⟨fun _ => hK t, fun q => absurd rfl q⟩)
  by_cases hw : what = 0 ∨ what = 1
  case neg => exact AGL.mk' hC (-2) (fun x K hK => kn5_1 hC hk ⟨fun e => absurd e n10, fun _ => pt5_0 hw ⟨fun q => absurd rfl q, fun _ => hK x⟩⟩) (fun t K hK => kn6_1 hC hk ⟨fun e => absurd e n10, fun _ => pt6_0 hw ⟨fun q => absurd rfl q, fun _ => hK t⟩⟩)
  by_cases hF : FedC c
  case neg => exact AGL.mk' hC (-3) (fun x K hK => kn5_1 hC hk ⟨fun e => absurd e n10, fun _ => pt5_1 hw ⟨fun _ => set5 hC (fun q => absurd q hF) (fun _ x' => ⟨fun q => absurd rfl q, fun _ => hK x'⟩), fun e => absurd e n10⟩⟩) (fun t K hK => kn6_1 hC hk ⟨fun e => absurd e n10, fun _ => pt6_1 hw ⟨fun _ => fed_ok hC (fun q => absurd q hF) (fun _ => ⟨fun q => absurd rfl q, fun _ => hK t⟩), fun e => absurd e n10⟩⟩)
  obtain ⟨i, hi, rfl⟩ := hk
  have hk : isN (kN c) (nI i) := ⟨i, hi, rfl⟩
  have hD := gD_b hC hF
  have hX : -3024000000 ≤ gX c i ∧ gX c i ≤ 3024000000 := gX_b hC hF hi (Nat.le_refl _)
  refine AGL.mk' hC (Int64.ofInt (lowA (gX c i) (gD c) what)) (fun x K hK => kn5_1 hC hk ⟨fun e => absurd e n10, fun _ => pt5_1 hw ⟨fun _ => set5 hC (fun _ x' hx => ⟨fun _ => above5 hC hF hi hx.2 (fun r p hr => ?_), fun e => absurd e n10⟩) (fun q => absurd hF q), fun e => absurd e n10⟩⟩) (fun t K hK => kn6_1 hC hk ⟨fun e => absurd e n10, fun _ => pt6_1 hw ⟨fun _ => fed_ok hC (fun _ => ⟨fun _ => res6 hC hF (fun t' _ hR => worst6 hC hF hi hR (fun r p hr _ => ?_)), fun e => absurd e n10⟩) (fun q => absurd hF q), fun e => absurd e n10⟩⟩)
  · exact part_ok (x := gX c i) (y := gD c) hr hx.1.2.1 hD.1 (by omega) (by omega) (fun r hr => by rw [l_is hr]; exact hK _)
  · exact low_ok (x := gX c i) (y := gD c) hr hR.1 hD.1 (by omega) (by omega) (fun r hr => by rw [l_is hr]; exact hK _)
theorem ag_worstKnot (hC : CI c) : AGI c (fun x K => wp_X5_worstKnot c x K) (fun t K => wp_X6_worstKnot c t K) := by
  by_cases hF : FedC c
  case neg => exact AGI.mk' hC (-3) (fun x K hK => set5 hC (fun q => absurd q hF) (fun _ x' => ⟨fun q => absurd rfl q, fun _ => hK x'⟩)) (fun t K hK => fed_ok hC (fun q => absurd q hF) (fun _ => ⟨fun q => absurd rfl q, fun _ => hK t⟩))
  have h7 := hC.n7
  have hx1 : (0 : Nat) = hx 1 (gX c) := by unfold hx hx; split <;> rfl
  refine AGI.mk' hC (nI (hx (kN c) (gX c))) (fun x K hK => set5 hC (fun _ x' hx' => ⟨fun _ => ?_, fun e => absurd e n10⟩) (fun q => absurd hF q)) (fun t K hK => fed_ok hC (fun _ => ⟨fun _ => res6 hC hF (fun t' _ hR => ?_), fun e => absurd e n10⟩) (fun q => absurd hF q))
  · refine above5 (k := 0) hC hF (by omega) hx'.2 (fun r p hr => ?_)
    show ∃ n28 : Nat, nd_X5_worstKnot_28 K n28 (nI 0) r (nI 1) c (xs_gets x' p)
    refine upto (fun n i (s : Nat × Int64 × (Nat → Int32)) => nd_X5_worstKnot_28 K n (nI s.1) s.2.1 (nI i) c (xs_gets x' s.2.2)) (fun i s => s.1 = hx i (gX c) ∧ s.2.1.toInt = gX c (hx i (gX c))) (kN c) 1 (0, r, p) (by omega) ⟨hx1, by rw [← hx1]; exact hr⟩ ?_ ?_
    · rintro n ⟨v, a, q⟩ ⟨hv, _⟩
      simp only at hv
      subst hv
      exact ⟨fun _ => hK _, fun h => absurd (show c_n c ≤ nI (kN c) from by rw [← hC.en]; exact Int32.le_refl _) h⟩
    · rintro n i ⟨v, a, q⟩ hi h1i ⟨hv, ha⟩ hW
      simp only at hv ha
      subst hv
      refine ⟨fun h => absurd h (by rw [hC.en]; exact nI_ge hi (by omega)), fun _ => ?_⟩
      refine above5 (x := xs_gets x' q) hC hF hi hx'.2 (fun r' p' hr' => ?_)
      have hle := l_lel hr' ha
      refine ⟨fun h => ?_, fun h => ?_⟩
      · show nd_X5_worstKnot_28 K n _ a (nI i + 1) c (xs_gets x' p')
        rw [nI_1]
        refine hW (hx i (gX c), a, p') ⟨?_, ?_⟩
        · exact (hx_pos (hle.mp h)).symm
        · rw [hx_pos (hle.mp h)]; exact ha
      · show nd_X5_worstKnot_28 K n (nI i) r' (nI i + 1) c (xs_gets x' p')
        rw [nI_1]
        refine hW (i, r', p') ⟨?_, ?_⟩
        · exact (hx_neg (fun z => h (hle.mpr z))).symm
        · rw [hx_neg (fun z => h (hle.mpr z))]; exact hr'
  · show ∃ n23 : Nat, nd_X6_worstKnot_23 K n23 (nI 0) (nI 1) c (ms_gets t' (m_gets t'))
    refine upto (fun n i (s : Nat × (Nat → Int32)) => nd_X6_worstKnot_23 K n (nI s.1) (nI i) c (ms_gets t' s.2)) (fun i s => s.1 = hx i (gX c)) (kN c) 1 (0, _) (by omega) hx1 ?_ ?_
    · rintro n ⟨v, q⟩ hv
      simp only at hv
      subst hv
      exact ⟨fun _ => hK _, fun h => absurd (show c_n c ≤ nI (kN c) from by rw [← hC.en]; exact Int32.le_refl _) h⟩
    · rintro n i ⟨v, q⟩ hi h1i hv hW
      simp only at hv
      subst hv
      have hlt := hx_lt (f := gX c) (n := i) (by omega)
      refine ⟨fun h => absurd h (by rw [hC.en]; exact nI_ge hi (by omega)), fun _ => ?_⟩
      refine worst6 (t := ms_gets t' q) hC hF hi hR (fun r1 p1 hr1 _ => worst6 (t := ms_gets t' p1) hC hF (show hx i (gX c) < kN c by omega) hR (fun r2 p2 hr2 _ => ?_))
      have hle := l_lel hr1 hr2
      refine ⟨fun h => ?_, fun h => ?_⟩
      · show nd_X6_worstKnot_23 K n _ (nI i + 1) c (ms_gets t' p2)
        rw [nI_1]
        refine hW (hx i (gX c), p2) ?_
        exact (hx_pos (hle.mp h)).symm
      · show nd_X6_worstKnot_23 K n (nI i) (nI i + 1) c (ms_gets t' p2)
        rw [nI_1]
        refine hW (i, p2) ?_
        exact (hx_neg (fun z => h (hle.mpr z))).symm
end WO3
