/-! ONE ANSWER FOR BOTH: fall, greatest, flow, resist -/
theorem w01 {what : Int32} : ((0 : Int32) ≤ what ∧ what ≤ (1 : Int32)) ↔ (what = 0 ∨ what = 1) := by
  constructor
  · intro h
    have hr := rng h
    rw [i0', i1'] at hr
    by_cases e : what.toInt = 0
    · exact .inl (i_inj (by rw [e]; decide))
    · exact .inr (i_inj (by rw [i1']; omega))
  · rintro (rfl | rfl) <;> decide
theorem pt5_1 {K : Int32 → Prop} {what : Int32} (h : what = 0 ∨ what = 1) (hK : K 1) : wp_X5_isPart what K := by
  rcases h with rfl | rfl
  · exact ⟨fun _ => hK, fun q => absurd rfl q⟩
  · exact ⟨fun q => absurd q (by decide), fun _ => ⟨fun q => absurd rfl q, fun _ => hK⟩⟩
theorem pt5_0 {K : Int32 → Prop} {what : Int32} (h : ¬ (what = 0 ∨ what = 1)) (hK : K 0) : wp_X5_isPart what K := ⟨fun q => absurd (.inl q) h, fun _ => ⟨fun _ => hK, fun q => absurd (.inr q) h⟩⟩
theorem pt6_1 {K : Int32 → Prop} {what : Int32} (h : what = 0 ∨ what = 1) (hK : K 1) : wp_X6_in what (0 : Int32) (1 : Int32) K := in_ok (fun _ => hK) (fun q => absurd (w01.mpr h) q)
theorem pt6_0 {K : Int32 → Prop} {what : Int32} (h : ¬ (what = 0 ∨ what = 1)) (hK : K 0) : wp_X6_in what (0 : Int32) (1 : Int32) K := in_ok (fun q => absurd (w01.mp q) h) (fun _ => hK)
section AG3
variable {c : CS} {x : XT} {t : MT} {k w a b what : Int32}
/-- the one number below, the falls, R -/
def gD (c : CS) : Int := Dn (kN c) (kL c (-1)) (cS (kB c))
def gF (c : CS) (k : Nat) : Int := fallN c (-1) (kB c) (kQ c) k
def gR (c : CS) (i j : Nat) : Int := Rn (kN c) (kL c (-1)) (cS (kB c)) i j
theorem gpad (hC : CI c) (hF : FedC c) : ∃ k0, k0 < kN c ∧ bt7 (kB c) k0 = true := Fed.pad hF (show 0 < kN c by have := hC.n7; omega)
theorem gD_b (hC : CI c) (hF : FedC c) : 0 < gD c ∧ gD c ≤ 255000000 := by
  obtain ⟨k0, hk0, hp⟩ := gpad hC hF
  have hN := hC.net (-1)
  have h1 := Dn_bound hN hk0 (cS_f hp)
  have h2 := Dn_pos (S := cS (kB c)) hN.2.2.1 hN.2.2.2.1 (fun w hw => (hN.2.2.2.2 w hw).1) (by rw [nots]; exact hF)
  exact ⟨h2, h1.2⟩
theorem gR_b (hC : CI c) (hF : FedC c) {i j : Nat} (hi : i < kN c) (hj : j < kN c) : -25200000 ≤ gR c i j ∧ gR c i j ≤ 25200000 := by
  obtain ⟨k0, hk0, hp⟩ := gpad hC hF
  exact Rn_bound (hC.net (-1)) hk0 (cS_f hp) hi hj
theorem gF_b (hC : CI c) (hF : FedC c) {i : Nat} (hi : i < kN c) : -17640000000 ≤ gF c i ∧ gF c i ≤ 17640000000 := by
  obtain ⟨k0, hk0, hp⟩ := gpad hC hF
  have h7 := hC.n7
  have h := fl_abs (hC.net (-1)) hk0 (cS_f hp) hi (Q := 100) (by omega) (fun j hj => hC.2.2.2.1 j (by omega)) (m := kN c) (Nat.le_refl _)
  have h' : -(25200000 * 100 * (kN c : Int)) ≤ gF c i ∧ gF c i ≤ 25200000 * 100 * (kN c : Int) := h
  omega
theorem set5 {K : Int32 → CS → XT → Prop} (hC : CI c) (h1 : FedC c → ∀ x', ST c (kB c) (x_bal x' 0) → K 1 c x') (h0 : ¬ FedC c → ∀ x', K 0 c x') : wp_X5_settled c x K := by
  unfold wp_X5_settled
  rw [hC.ep]
  exact settle_ok hC hC.b128 (fun hF _ b' hb' => ⟨nb1, h1 hF _ (by rw [xsb_get]; exact hb')⟩) (fun hF b' => ⟨nb0, h0 hF _⟩)
theorem res6 {K : CS → MT → Prop} (hC : CI c) (hF : FedC c) (h : ∀ t', eqR t t' → resI c (-1) (kB c) t' → K c t') : wp_X6_findResist (c_pads c) (-1 : Int32) c t K := by
  obtain ⟨k0, hk0, hp⟩ := gpad hC hF
  rw [hC.ep]
  exact find_ok hC hC.b128 hk0 hp h
theorem fby6 {K : Int64 → CS → MT → Prop} {i : Nat} (hC : CI c) (hF : FedC c) (hR : resI c (-1) (kB c) t) (hi : i < kN c) (hK : ∀ r : Int64, r.toInt = gF c i → K r c t) : wp_X6_fallBy (nI i) c t K := by
  obtain ⟨k0, hk0, hp⟩ := gpad hC hF
  exact fby_ok hC hR hk0 hp hi hK
theorem ag_fall (hC : CI c) : AGL c (fun x K => wp_X5_fall k what c x K) (fun t K => wp_X6_fall k what c t K) := by
  by_cases hk : isN (kN c) k
  case neg => exact AGL.mk' hC (-2) (fun x K hK => kn5_0 hC hk ⟨fun _ => hK x, fun q => absurd rfl q⟩) (fun t K hK => kn6_0 hC hk ⟨fun _ => hK t, fun q => absurd rfl q⟩)
  by_cases hw : what = 0 ∨ what = 1
  case neg => exact AGL.mk' hC (-2) (fun x K hK => kn5_1 hC hk ⟨fun e => absurd e n10, fun _ => pt5_0 hw ⟨fun q => absurd rfl q, fun _ => hK x⟩⟩) (fun t K hK => kn6_1 hC hk ⟨fun e => absurd e n10, fun _ => pt6_0 hw ⟨fun q => absurd rfl q, fun _ => hK t⟩⟩)
  by_cases hF : FedC c
  case neg => exact AGL.mk' hC (-3) (fun x K hK => kn5_1 hC hk ⟨fun e => absurd e n10, fun _ => pt5_1 hw ⟨fun _ => set5 hC (fun q => absurd q hF) (fun _ x' => ⟨fun q => absurd rfl q, fun _ => hK x'⟩), fun e => absurd e n10⟩⟩) (fun t K hK => kn6_1 hC hk ⟨fun e => absurd e n10, fun _ => pt6_1 hw ⟨fun _ => fed_ok hC (fun q => absurd q hF) (fun _ => ⟨fun q => absurd rfl q, fun _ => hK t⟩), fun e => absurd e n10⟩⟩)
  obtain ⟨i, hi, rfl⟩ := hk
  have hk : isN (kN c) (nI i) := ⟨i, hi, rfl⟩
  have h7 := hC.n7
  have hD := gD_b hC hF
  have hFb := gF_b hC hF hi
  refine AGL.mk' hC (Int64.ofInt (lowA (gF c i) (gD c) what)) (fun x K hK => kn5_1 hC hk ⟨fun e => absurd e n10, fun _ => pt5_1 hw ⟨fun _ => set5 hC (fun _ x' hx => ⟨fun _ => ⟨vi (by omega) (by omega), ?_⟩, fun e => absurd e n10⟩) (fun q => absurd hF q), fun e => absurd e n10⟩⟩) (fun t K hK => kn6_1 hC hk ⟨fun e => absurd e n10, fun _ => pt6_1 hw ⟨fun _ => fed_ok hC (fun _ => ⟨fun _ => res6 hC hF (fun t' _ hR => fby6 hC hF hR hi (fun r hr => ?_)), fun e => absurd e n10⟩) (fun q => absurd hF q), fun e => absurd e n10⟩⟩)
  · rw [cl_ (by omega)]
    exact part_ok (x := gF c i) (y := gD c) (hx.1.2.2 i hi) hx.1.2.1 hD.1 (by omega) (by omega) (fun r hr => by rw [l_is hr]; exact hK x')
  · exact low_ok (x := gF c i) (y := gD c) hr hR.1 hD.1 (by omega) (by omega) (fun r hr => by rw [l_is hr]; exact hK t')
theorem ag_resist (hC : CI c) : AGL c (fun x K => wp_X5_resist a b what c x K) (fun t K => wp_X6_resist a b what c t K) := by
  by_cases ha : isN (kN c) a
  case neg => exact AGL.mk' hC (-2) (fun x K hK => kn5_0 hC ha ⟨fun _ => hK x, fun q => absurd rfl q⟩) (fun t K hK => kn6_0 hC ha ⟨fun _ => hK t, fun q => absurd rfl q⟩)
  by_cases hb : isN (kN c) b
  case neg => exact AGL.mk' hC (-2) (fun x K hK => kn5_1 hC ha ⟨fun e => absurd e n10, fun _ => kn5_0 hC hb ⟨fun _ => hK x, fun q => absurd rfl q⟩⟩) (fun t K hK => kn6_1 hC ha ⟨fun e => absurd e n10, fun _ => kn6_0 hC hb ⟨fun _ => hK t, fun q => absurd rfl q⟩⟩)
  by_cases hw : what = 0 ∨ what = 1
  case neg => exact AGL.mk' hC (-2) (fun x K hK => kn5_1 hC ha ⟨fun e => absurd e n10, fun _ => kn5_1 hC hb ⟨fun e => absurd e n10, fun _ => pt5_0 hw ⟨fun q => absurd rfl q, fun _ => hK x⟩⟩⟩) (fun t K hK => kn6_1 hC ha ⟨fun e => absurd e n10, fun _ => kn6_1 hC hb ⟨fun e => absurd e n10, fun _ => pt6_0 hw ⟨fun q => absurd rfl q, fun _ => hK t⟩⟩⟩)
  by_cases hF : FedC c
  case neg => exact AGL.mk' hC (-3) (fun x K hK => kn5_1 hC ha ⟨fun e => absurd e n10, fun _ => kn5_1 hC hb ⟨fun e => absurd e n10, fun _ => pt5_1 hw ⟨fun _ => set5 hC (fun q => absurd q hF) (fun _ x' => ⟨fun q => absurd rfl q, fun _ => hK x'⟩), fun e => absurd e n10⟩⟩⟩) (fun t K hK => kn6_1 hC ha ⟨fun e => absurd e n10, fun _ => kn6_1 hC hb ⟨fun e => absurd e n10, fun _ => pt6_1 hw ⟨fun _ => fed_ok hC (fun q => absurd q hF) (fun _ => ⟨fun q => absurd rfl q, fun _ => hK t⟩), fun e => absurd e n10⟩⟩⟩)
  obtain ⟨i, hi, rfl⟩ := ha
  have ha : isN (kN c) (nI i) := ⟨i, hi, rfl⟩
  obtain ⟨j, hj, rfl⟩ := hb
  have hb : isN (kN c) (nI j) := ⟨j, hj, rfl⟩
  have h7 := hC.n7
  have hD := gD_b hC hF
  have hRb := gR_b hC hF hi hj
  refine AGL.mk' hC (Int64.ofInt (lowA (gR c i j) (gD c) what)) (fun x K hK => kn5_1 hC ha ⟨fun e => absurd e n10, fun _ => kn5_1 hC hb ⟨fun e => absurd e n10, fun _ => pt5_1 hw ⟨fun _ => set5 hC (fun _ x' hx => ⟨fun _ => ⟨vi (by omega) (by omega), vi (by omega) (by omega), ?_⟩, fun e => absurd e n10⟩) (fun q => absurd hF q), fun e => absurd e n10⟩⟩⟩) (fun t K hK => kn6_1 hC ha ⟨fun e => absurd e n10, fun _ => kn6_1 hC hb ⟨fun e => absurd e n10, fun _ => pt6_1 hw ⟨fun _ => fed_ok hC (fun _ => ⟨fun _ => res6 hC hF (fun t' _ hR => ?_), fun e => absurd e n10⟩) (fun q => absurd hF q), fun e => absurd e n10⟩⟩⟩)
  · rw [cl_ (by omega), cl_ (by omega)]
    exact part_ok (x := gR c i j) (y := gD c) (hx.2 i j hi hj) hx.1.2.1 hD.1 (by omega) (by omega) (fun r hr => by rw [l_is hr]; exact hK x')
  · rw [nI_7]
    refine ⟨vi (by omega) (by omega), ?_⟩
    rw [cl_ (by omega)]
    exact low_ok (x := gR c i j) (y := gD c) (hR.2 i j hi hj) hR.1 hD.1 (by omega) (by omega) (fun r hr => by rw [l_is hr]; exact hK t')
theorem ag_flow (hC : CI c) : AGL c (fun x K => wp_X5_flow w what c x K) (fun t K => wp_X6_flow w what c t K) := by
  by_cases hk : isN (kE c) w
  case neg => exact AGL.mk' hC (-1000000000000) (fun x K hK => wi5_0 hC hk ⟨fun _ => hK x, fun q => absurd rfl q⟩) (fun t K hK => wi6_0 hC hk ⟨fun _ => hK t, fun q => absurd rfl q⟩)
  by_cases hw : what = 0 ∨ what = 1
  case neg => exact AGL.mk' hC (-1000000000000) (fun x K hK => wi5_1 hC hk ⟨fun e => absurd e n10, fun _ => pt5_0 hw ⟨fun q => absurd rfl q, fun _ => hK x⟩⟩) (fun t K hK => wi6_1 hC hk ⟨fun e => absurd e n10, fun _ => pt6_0 hw ⟨fun q => absurd rfl q, fun _ => hK t⟩⟩)
  by_cases hF : FedC c
  case neg => exact AGL.mk' hC (-2000000000000) (fun x K hK => wi5_1 hC hk ⟨fun e => absurd e n10, fun _ => pt5_1 hw ⟨fun _ => set5 hC (fun q => absurd q hF) (fun _ x' => ⟨fun q => absurd rfl q, fun _ => hK x'⟩), fun e => absurd e n10⟩⟩) (fun t K hK => wi6_1 hC hk ⟨fun e => absurd e n10, fun _ => pt6_1 hw ⟨fun _ => fed_ok hC (fun q => absurd q hF) (fun _ => ⟨fun q => absurd rfl q, fun _ => hK t⟩), fun e => absurd e n10⟩⟩)
  obtain ⟨i, hi, rfl⟩ := hk
  have hk : isN (kE c) (nI i) := ⟨i, hi, rfl⟩
  have h7 := hC.n7
  have h12 := hC.e12
  have hD := gD_b hC hF
  obtain ⟨⟨f1, f2⟩, ⟨t1, t2⟩, -, hwd, -⟩ := hC.2.2.1 i hi
  have b1 := gF_b hC hF f1
  have b2 := gF_b hC hF t1
  have b3 := mul_bd (x := kW c i) (y := gF c (kF c i) - gF c (kT c i)) (A := 6) (B := 35280000000) (by omega) (by omega)
  have V12 : vp_in (nI i) 12 := vi (by omega) (by omega)
  have ci : (nI i).toNatClampNeg = i := cl_ (by omega)
  refine AGL.mk' hC (Int64.ofInt (lowA (kW c i * (gF c (kF c i) - gF c (kT c i))) (gD c) what)) (fun x K hK => wi5_1 hC hk ⟨fun e => absurd e n10, fun _ => pt5_1 hw ⟨fun _ => set5 hC (fun _ x' hx => ⟨fun _ => ?_, fun e => absurd e n10⟩) (fun q => absurd hF q), fun e => absurd e n10⟩⟩) (fun t K hK => wi6_1 hC hk ⟨fun e => absurd e n10, fun _ => pt6_1 hw ⟨fun _ => fed_ok hC (fun _ => ⟨fun _ => res6 hC hF (fun t' _ hR => ⟨V12, V12, ?_⟩), fun e => absurd e n10⟩) (fun q => absurd hF q), fun e => absurd e n10⟩⟩)
  · rw [ci]
    refine ⟨V12, by rw [f2]; exact vi (by omega) (by omega), V12, by rw [t2]; exact vi (by omega) (by omega), V12, ?_⟩
    exact part_ok (x := kW c i * (gF c (kF c i) - gF c (kT c i))) (y := gD c) (l_mul (l_of rfl) (l_sub (hx.1.2.2 _ f1) (hx.1.2.2 _ t1) (by show -9000000000000000000 ≤ gF c _ - gF c _; omega) (by show gF c _ - gF c _ ≤ _; omega)) (by show -9000000000000000000 ≤ kW c i * (gF c _ - gF c _); omega) (by show kW c i * (gF c _ - gF c _) ≤ _; omega)) hx.1.2.1 hD.1 (by omega) (by omega) (fun r hr => by rw [l_is hr]; exact hK x')
  · rw [ci, f2]
    refine fby6 hC hF hR f1 (fun r1 hr1 => ⟨V12, ?_⟩)
    rw [t2]
    refine fby6 hC hF hR t1 (fun r2 hr2 => ?_)
    exact low_ok (x := kW c i * (gF c (kF c i) - gF c (kT c i))) (y := gD c) (l_mul (l_of rfl) (l_sub hr1 hr2 (by omega) (by omega)) (by show -9000000000000000000 ≤ kW c i * (gF c _ - gF c _); omega) (by show kW c i * (gF c _ - gF c _) ≤ _; omega)) hR.1 hD.1 (by omega) (by omega) (fun r hr => by rw [l_is hr]; exact hK t')
theorem ag_greatest (hC : CI c) : AGI c (fun x K => wp_X5_greatest c x K) (fun t K => wp_X6_greatest c t K) := by
  by_cases hF : FedC c
  case neg => exact AGI.mk' hC (-3) (fun x K hK => set5 hC (fun q => absurd q hF) (fun _ x' => ⟨fun _ => hK x', fun q => absurd rfl q⟩)) (fun t K hK => fed_ok hC (fun q => absurd q hF) (fun _ => ⟨fun q => absurd rfl q, fun _ => hK t⟩))
  have h7 := hC.n7
  refine AGI.mk' hC (nI (hx (kN c) (gF c))) (fun x K hK => set5 hC (fun _ x' hx => ⟨fun e => absurd e n10, fun _ => high_ok (f := gF c) (n := kN c) (by omega) h7.2 hx.1.1 hx.1.2.2 (hK x')⟩) (fun q => absurd hF q)) (fun t K hK => fed_ok hC (fun _ => ⟨fun _ => res6 hC hF (fun t' _ hR => ?_), fun e => absurd e n10⟩) (fun q => absurd hF q))
  show ∃ n23 : Nat, nd_X6_greatest_23 K n23 (nI 0) (nI 1) c t'
  refine upto (fun n i (v : Nat) => nd_X6_greatest_23 K n (nI v) (nI i) c t') (fun i v => v = hx i (gF c)) (kN c) 1 0 (by omega) (by show 0 = hx 1 _; unfold hx hx; split <;> rfl) ?_ ?_
  · rintro n v rfl
    exact ⟨fun _ => hK t', fun h => absurd (show c_n c ≤ nI (kN c) from by rw [← hC.en]; exact Int32.le_refl _) h⟩
  · rintro n i v hi h1i rfl hW
    have hlt := hx_lt (f := gF c) (n := i) (by omega)
    refine ⟨fun h => absurd h (by rw [hC.en]; exact nI_ge hi (by omega)), fun _ => ?_⟩
    refine fby6 hC hF hR hi (fun r1 hr1 => fby6 hC hF hR (by omega) (fun r2 hr2 => ⟨fun h => ?_, fun h => ?_⟩))
    · show nd_X6_greatest_23 K n (nI (hx i (gF c))) (nI i + 1) c t'
      rw [nI_1]
      have h' := Int64.le_iff_toInt_le.mp h
      rw [hr1, hr2] at h'
      exact hW _ (by show _ = if _ then _ else _; rw [if_pos h'])
    · show nd_X6_greatest_23 K n (nI i) (nI i + 1) c t'
      rw [nI_1]
      have h' := fun z => h (Int64.le_iff_toInt_le.mpr z)
      rw [hr1, hr2] at h'
      exact hW _ (by show _ = if _ then _ else _; rw [if_neg h'])
end AG3
