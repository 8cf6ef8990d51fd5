/-! ONE ANSWER FOR BOTH: open, weakest -/
theorem lp_congr {E : Nat} {fa ta : Nat → Nat} {wd wd' : Nat → Int} (h : ∀ u, u < E → wd u = wd' u) : lp E fa ta wd = lp E fa ta wd' := by
  funext i j
  exact sm_congr (fun u hu => by rw [h u hu])
theorem i_neg {a : Int32} {x : Int} (ha : a.toInt = x) (h1 : -2000000000 ≤ x) (h2 : x ≤ 2000000000) : (-a).toInt = -x := by
  have e : -a = 0 - a := (Int32.zero_sub a).symm
  rw [e, i_sub i0' ha (by omega) (by omega)]
  omega
def FedO (c : CS) (w : Nat) : Prop := Fed (kN c) (kE c) (kF c) (kT c) (wB c (nI w)) (bt7 (kB c))
def oD (c : CS) (w : Nat) : Int := Dn (kN c) (kL c (nI w)) (cS (kB c))
def oM (c : CS) (w : Nat) : Int := mx (kN c) (fallN c (nI w) (kB c) (kQ c))
section OP
variable {c : CS} {x : XT} {t : MT} {w : Nat} {ww what : Int32}
theorem wB_o {u : Nat} (hu : u < 2000000000) (hw : w < 2000000000) : wB c (nI w) u = if u = w then 0 else kW c u := by
  unfold wB
  by_cases e : u = w
  · rw [if_pos (by rw [e]), if_pos e]
  · rw [if_neg (fun q => e ((nI_eq (by omega) (by omega)).mp q)), if_neg e]
theorem kL_o (hC : CI c) (hw : w < kE c) : lp (kE c) (kF c) (kT c) (wdp (wB c (-1)) w (-kW c w)) = kL c (nI w) := by
  have h12 := hC.e12
  have : lp (kE c) (kF c) (kT c) (wdp (wB c (-1)) w (-kW c w)) = lp (kE c) (kF c) (kT c) (wB c (nI w)) := lp_congr (fun u hu => by
    rw [wB_o (by omega) (by omega)]
    unfold wdp
    rw [wB_none c (by omega)]
    by_cases e : u = w
    · subst e; rw [if_pos rfl, if_pos rfl]; omega
    · rw [if_neg e, if_neg e])
  rw [this]; rfl
theorem NetOK.wdo (hC : CI c) (hw : w < kE c) : NetOK (kN c) (kE c) (kF c) (kT c) (wdp (wB c (-1)) w (-kW c w)) := by
  have h := hC.net (nI w)
  have h12 := hC.e12
  refine ⟨h.1, h.2.1, h.2.2.1, h.2.2.2.1, fun u hu => ?_⟩
  have := h.2.2.2.2 u hu
  have e : wdp (wB c (-1)) w (-kW c w) u = wB c (nI w) u := by
    rw [wB_o (by omega) (by omega)]
    unfold wdp
    rw [wB_none c (by omega)]
    by_cases e : u = w
    · subst e; rw [if_pos rfl, if_pos rfl]; omega
    · rw [if_neg e, if_neg e]
  rw [e]; exact this
theorem FedO.all (hC : CI c) (hw : w < kE c) (h : FedO c w) : FedC c := by
  have h12 := hC.e12
  intro g g1 g2
  refine h g (fun u hu hz => g1 u hu ?_) g2
  rw [wB_o (by omega) (by omega)] at hz
  rw [wB_none c (by omega)]
  by_cases e : u = w
  · rw [if_pos e] at hz; exact absurd rfl hz
  · rw [if_neg e] at hz; exact hz
theorem FedO.pos (hC : CI c) (h : FedO c w) : 0 < oD c w := by
  have hN := hC.net (nI w)
  exact Dn_pos (S := cS (kB c)) hN.2.2.1 hN.2.2.2.1 (fun w hw => (hN.2.2.2.2 w hw).1) (by rw [nots]; exact h)
theorem FedO.of (hC : CI c) (h : 0 < oD c w) : FedO c w := by
  have hN := hC.net (nI w)
  refine Classical.byContradiction (fun hF => ?_)
  have : oD c w = 0 := Dn_unfed (S := cS (kB c)) hN.2.2.1 hN.2.2.2.1 (by rw [nots]; exact hF)
  omega
theorem oD_b (hC : CI c) (h : FedO c w) : 0 < oD c w ∧ oD c w ≤ 255000000 := by
  obtain ⟨k0, hk0, hp⟩ := Fed.pad h (show 0 < kN c by have := hC.n7; omega)
  exact ⟨h.pos hC, (Dn_bound (hC.net (nI w)) hk0 (cS_f hp)).2⟩
theorem oM_b (hC : CI c) (h : FedO c w) : 0 ≤ oM c w ∧ oM c w ≤ 17640000000 := by
  obtain ⟨k0, hk0, hp⟩ := Fed.pad h (show 0 < kN c by have := hC.n7; omega)
  have h7 := hC.n7
  refine mx_abs (by omega) (fun i hi => ?_)
  have h := fl_abs (hC.net (nI w)) hk0 (cS_f hp) hi (Q := 100) (by omega) (fun j hj => hC.2.2.2.1 j (by omega)) (m := kN c) (Nat.le_refl _)
  have h' : -(25200000 * 100 * (kN c : Int)) ≤ fallN c (nI w) (kB c) (kQ c) i ∧ fallN c (nI w) (kB c) (kQ c) i ≤ 25200000 * 100 * (kN c : Int) := h
  omega
theorem fl_pad {n : Nat} {L : Nat → Nat → Int} {S : Nat → Bool} {q : Nat → Int} {k : Nat} (h : S k = false) : fl n L S q k = 0 := sm_zero (fun j _ => by rw [Rn_pad (.inl h), Int.zero_mul])
theorem open5 {K : Int32 → CS → XT → Prop} (hC : CI c) (hF : FedC c) (hw : w < kE c) (hx : ST c (kB c) (x_bal x 0)) (h1 : FedO c w → ∀ b', SA (kN c) (kL c (nI w)) (cS (kB c)) (kQ c) b' → K 1 c (xsb x 1 b')) (h0 : ¬ FedO c w → ∀ b', K 0 c (xsb x 1 b')) : wp_X5_opened (nI w) c x K := by
  have h12 := hC.e12
  have v12 : vp_in (nI w) 12 := vi (by omega) (by omega)
  obtain ⟨⟨f1, f2⟩, ⟨t1, t2⟩, hne, hwd, -⟩ := hC.2.2.1 w hw
  obtain ⟨k0, hk0, hp⟩ := gpad hC hF
  have hD := gD_b hC hF
  have h7 := hC.n7
  refine ⟨v12, v12, v12, ?_⟩
  rw [cl_ (by omega), f2, t2]
  refine alter_ok (S := cS (kB c)) (q := kQ c) (mi := -kW c w) (by decide) (hC.net (-1)) (NetOK.wdo hC hw) hw hne (i_neg rfl (by show (-2000000000 : Int) ≤ kW c w; omega) (by show kW c w ≤ (2000000000 : Int); omega)) (by omega) hk0 (cS_f hp) (fun j hj => hC.2.2.2.1 j (by omega)) hD.1 hx.1 hx.2 (fun hle b' => ⟨nb0, h0 (fun hFo => ?_) b'⟩) (fun hlt b' hb' _ => ⟨nb1, h1 (FedO.of hC ?_) b' ?_⟩)
  · have := hFo.pos hC
    rw [kL_o hC hw] at hle
    unfold oD at this
    omega
  · rw [kL_o hC hw] at hlt; exact hlt
  · rw [kL_o hC hw] at hb'; exact hb'
theorem ohigh5 {K : Int64 → CS → XT → Prop} (hC : CI c) (hFo : FedO c w) {tb : Nat} (hx : SA (kN c) (kL c (nI w)) (cS (kB c)) (kQ c) (x_bal x tb)) (hK : ∀ r : Int64, r.toInt = oM c w → K r c x) : wp_X0_highestAbove tb c x K := by
  obtain ⟨k0, hk0, hp⟩ := Fed.pad hFo (show 0 < kN c by have := hC.n7; omega)
  have h7 := hC.n7
  refine habove_ok (f := fl (kN c) (kL c (nI w)) (cS (kB c)) (kQ c)) (n := kN c) (by omega) h7.2 hx.1 hx.2.2 (fun r hr => hK r ?_)
  rw [hr, mx_hx hk0 (fl_pad (cS_f hp))]
  rfl
theorem lead6 {K : Int32 → CS → MT → Prop} (hC : CI c) (h1 : FedO c w → K 1 c t) (h0 : ¬ FedO c w → K 0 c t) : wp_X6_leadsTo (c_pads c) (nI w) c t K := by
  rw [hC.ep]
  exact leads_ok hC hC.2.2.2.2.1.1 h1 h0
theorem FedO.np (hC : CI c) (h : FedO c w) : ¬ c_pads c = 0 := fun e => by
  obtain ⟨k0, hk0, hp⟩ := Fed.pad h (show 0 < kN c by have := hC.n7; omega)
  have : kB c = 0 := by unfold kB; rw [e]; decide
  rw [this] at hp
  unfold bt7 at hp
  rw [Nat.zero_testBit] at hp; cases hp
theorem ores6 {K : CS → MT → Prop} (hC : CI c) (hF : FedO c w) (h : ∀ t', eqR t t' → resI c (nI w) (kB c) t' → K c t') : wp_X6_findResist (c_pads c) (nI w) c t K := by
  obtain ⟨k0, hk0, hp⟩ := Fed.pad hF (show 0 < kN c by have := hC.n7; omega)
  rw [hC.ep]
  exact find_ok hC hC.b128 hk0 hp h
theorem omost6 {K : Int64 → CS → MT → Prop} (hC : CI c) (hF : FedO c w) (hR : resI c (nI w) (kB c) t) (hK : ∀ r : Int64, r.toInt = oM c w → K r c t) : wp_X6_mostFall c t K := by
  obtain ⟨k0, hk0, hp⟩ := Fed.pad hF (show 0 < kN c by have := hC.n7; omega)
  exact most_ok hC hR hk0 hp hK
theorem ag_open (hC : CI c) : AGL c (fun x K => wp_X5_open ww what c x K) (fun t K => wp_X6_open ww what c t K) := by
  by_cases hk : isN (kE c) ww
  case neg => exact AGL.mk' hC (-2) (fun x K hK => wi5_0 hC hk ⟨fun _ => hK x, fun q => absurd rfl q⟩) (fun t K hK => wi6_0 hC hk ⟨fun _ => hK t, fun q => absurd rfl q⟩)
  by_cases hw : what = 0 ∨ what = 1
  case neg => exact AGL.mk' hC (-2) (fun x K hK => wi5_1 hC hk ⟨fun e => absurd e n10, fun _ => pt5_0 hw ⟨fun q => absurd rfl q, fun _ => hK x⟩⟩) (fun t K hK => wi6_1 hC hk ⟨fun e => absurd e n10, fun _ => pt6_0 hw ⟨fun q => absurd rfl q, fun _ => hK t⟩⟩)
  obtain ⟨w, hwi, rfl⟩ := hk
  have hk : isN (kE c) (nI w) := ⟨w, hwi, rfl⟩
  by_cases hFo : FedO c w
  case neg =>
    refine AGL.mk' hC (-3) (fun x K hK => wi5_1 hC hk ⟨fun e => absurd e n10, fun _ => pt5_1 hw ⟨fun _ => set5 hC (fun hF x' hx => ⟨fun e => absurd e n10, fun _ => open5 hC hF hwi hx (fun q => absurd q hFo) (fun _ b' => ⟨fun q => absurd rfl q, fun _ => hK _⟩)⟩) (fun _ x' => ⟨fun _ => hK x', fun q => absurd rfl q⟩), fun e => absurd e n10⟩⟩) (fun t K hK => wi6_1 hC hk ⟨fun e => absurd e n10, fun _ => pt6_1 hw ⟨fun _ => ⟨fun _ => hK t, fun _ => lead6 hC (fun q => absurd q hFo) (fun _ => ⟨fun q => absurd rfl q, fun _ => hK t⟩)⟩, fun e => absurd e n10⟩⟩)
  have hF := hFo.all hC hwi
  have hD := oD_b hC hFo
  have hM := oM_b hC hFo
  refine AGL.mk' hC (Int64.ofInt (lowA (oM c w) (oD c w) what)) (fun x K hK => wi5_1 hC hk ⟨fun e => absurd e n10, fun _ => pt5_1 hw ⟨fun _ => set5 hC (fun hF x' hx => ⟨fun e => absurd e n10, fun _ => open5 hC hF hwi hx (fun _ b' hb' => ⟨fun _ => ohigh5 hC hFo (by rw [xsb_get]; exact hb') (fun r hr => ?_), fun e => absurd e n10⟩) (fun q => absurd hFo q)⟩) (fun q => absurd hF q), fun e => absurd e n10⟩⟩) (fun t K hK => wi6_1 hC hk ⟨fun e => absurd e n10, fun _ => pt6_1 hw ⟨fun _ => ⟨fun q => absurd q (hFo.np hC), fun _ => lead6 hC (fun _ => ⟨fun _ => ores6 hC hFo (fun t' _ hR => omost6 hC hFo hR (fun r hr => ?_)), fun e => absurd e n10⟩) (fun q => absurd hFo q)⟩, fun e => absurd e n10⟩⟩)
  · rw [xsb_get]
    exact part_ok (x := oM c w) (y := oD c w) hr hb'.2.1 hD.1 (by omega) (by omega) (fun r hr => by rw [l_is hr]; exact hK _)
  · exact low_ok (x := oM c w) (y := oD c w) hr hR.1 hD.1 (by omega) (by omega) (fun r hr => by rw [l_is hr]; exact hK _)
end OP
