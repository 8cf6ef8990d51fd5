/-! ONE ANSWER FOR BOTH: bits, shrunk, count -/
/-- how many bits, as the reference adds them -/
def pcv (s : Int32) : Int32 := (0 : Int32) + ((s >>> (nI 0 &&& 31)) &&& 1) + ((s >>> (nI 1 &&& 31)) &&& 1) + ((s >>> (nI 2 &&& 31)) &&& 1) + ((s >>> (nI 3 &&& 31)) &&& 1) + ((s >>> (nI 4 &&& 31)) &&& 1) + ((s >>> (nI 5 &&& 31)) &&& 1) + ((s >>> (nI 6 &&& 31)) &&& 1)
theorem bits6_go {K : Int32 → Prop} {s v : Int32} {n i : Nat} (hi : i < 7) (h : nd_X6_bits_4 K n s (v + ((s >>> (nI i &&& 31)) &&& 1)) (nI (i + 1))) : nd_X6_bits_4 K (n + 1) s v (nI i) := by
  refine ⟨fun q => absurd q (nI_le7 hi), fun _ => ?_⟩
  rw [nI_1]; exact h
theorem bits6 {K : Int32 → Prop} {s : Int32} (hK : K (pcv s)) : wp_X6_bits s K := by
  refine ⟨8, ?_⟩
  refine bits6_go (i := 0) (by omega) (bits6_go (i := 1) (by omega) (bits6_go (i := 2) (by omega) (bits6_go (i := 3) (by omega) (bits6_go (i := 4) (by omega) (bits6_go (i := 5) (by omega) (bits6_go (i := 6) (by omega) ⟨fun _ => hK, fun q => absurd (by decide) q⟩))))))
theorem bits5 {K : Int32 → Prop} {B : Nat} (hB : B < 128) (hK : K (pcv (nI B))) : wp_J6_bitCount_0f7a4 (nI B) K := by
  have h : ∀ B, B < 128 → wp_J6_bitCount_0f7a4 (nI B) (fun r => r = pcv (nI B)) := by
    unfold wp_J6_bitCount_0f7a4
    decide +kernel
  have h1 := h B hB
  unfold wp_J6_bitCount_0f7a4 at h1 ⊢
  rw [h1]; exact hK
theorem msk (p b : Int32) : (p &&& (b ^^^ (-1 : Int32))) = 0 ↔ (b &&& p) = p := by
  rw [← Int32.toBitVec_inj, ← Int32.toBitVec_inj, Int32.toBitVec_and, Int32.toBitVec_xor, Int32.toBitVec_and]
  have e1 : (-1 : Int32).toBitVec = BitVec.allOnes 32 := by decide
  have e0 : (0 : Int32).toBitVec = 0#32 := by decide
  rw [e1, e0, BitVec.xor_allOnes]
  generalize p.toBitVec = x
  generalize b.toBitVec = y
  constructor
  · intro h
    apply BitVec.eq_of_getLsbD_eq
    intro i hi
    have := congrArg (fun z => z.getLsbD i) h
    simp [hi] at this ⊢
    intro q
    exact this q
  · intro h
    apply BitVec.eq_of_getLsbD_eq
    intro i hi
    have := congrArg (fun z => z.getLsbD i) h
    simp [hi] at this ⊢
    exact this
section SH
variable {c : CS} {x : XT} {t : MT} {po aa bb what j : Int32}
theorem allB (hC : CI c) : ((1 : Int32) <<< ((c_n c) &&& 31)) - (1 : Int32) = nI (2 ^ kN c - 1) := by
  have h7 := hC.n7
  rw [hC.en]
  exact all_chk (kN c) (by omega)
theorem poB (hC : CI c) : ((1 : Int32) ≤ po ∧ po ≤ nI (2 ^ kN c - 1)) ↔ ∃ B, 1 ≤ B ∧ B < 2 ^ kN c ∧ po = nI B := by
  have h7 := hC.n7
  have hp := pow7 h7.2
  have hpos : 0 < 2 ^ kN c := Nat.pow_pos (by omega)
  constructor
  · intro h
    have hr := rng h
    rw [i1', nI_toInt (by omega)] at hr
    have hv := nn_nI (v := po) (by omega)
    exact ⟨po.toNatClampNeg, by omega, by omega, hv.1⟩
  · rintro ⟨B, h1, h2, rfl⟩
    rw [Int32.le_iff_toInt_le, Int32.le_iff_toInt_le, i1', nI_toInt (by omega), nI_toInt (by omega)]
    omega
theorem shr6_in {K : Int32 → Prop} (hC : CI c) (h1 : (∃ B, 1 ≤ B ∧ B < 2 ^ kN c ∧ po = nI B) → K 1) (h0 : ¬ (∃ B, 1 ≤ B ∧ B < 2 ^ kN c ∧ po = nI B) → K 0) : wp_X6_in po (1 : Int32) (((1 : Int32) <<< ((c_n c) &&& 31)) - (1 : Int32)) K := by
  rw [allB hC]
  exact in_ok (fun q => h1 ((poB hC).mp q)) (fun q => h0 (fun z => q ((poB hC).mpr z)))
theorem shr5_in {K : Int32 → Prop} (hC : CI c) (h1 : (∃ B, 1 ≤ B ∧ B < 2 ^ kN c ∧ po = nI B) → K 1) (h0 : ¬ (∃ B, 1 ≤ B ∧ B < 2 ^ kN c ∧ po = nI B) → K 0) : wp_X5_between po (1 : Int32) (((1 : Int32) <<< ((c_n c) &&& 31)) - (1 : Int32)) K := by
  rw [allB hC]
  exact bw_ok (fun q => h1 ((poB hC).mp q)) (fun q => h0 (fun z => q ((poB hC).mpr z)))
theorem ag_shrunk (hC : CI c) : AGL c (fun x K => wp_X5_shrunk po aa bb what c x K) (fun t K => wp_X6_shrunk po aa bb what c t K) := by
  have h7 := hC.n7
  have hp7 := pow7 h7.2
  by_cases hpo : ∃ B, 1 ≤ B ∧ B < 2 ^ kN c ∧ po = nI B
  case neg => exact AGL.mk' hC (-2) (fun x K hK => by
    unfold wp_X5_shrunk wp_X2_allBits
    exact shr5_in hC (fun q => absurd q hpo) (fun _ => ⟨fun _ => hK x, fun q => absurd rfl q⟩)) (fun t K hK => shr6_in hC (fun q => absurd q hpo) (fun _ => ⟨fun _ => hK t, fun q => absurd rfl q⟩))
  have hpo' := hpo
  obtain ⟨B, hB1, hB2, rfl⟩ := hpo'
  have hB : B < 128 := by omega
  -- the class asks for the part first: all BAD cases at once
  by_cases hbad : (what = 0 ∨ what = 1) ∧ isN (kN c) aa ∧ isN (kN c) bb ∧ ¬ aa = bb ∧ ¬ ((nI B >>> (aa &&& 31)) &&& (1 : Int32)) = 0 ∧ ¬ ((nI B >>> (bb &&& 31)) &&& (1 : Int32)) = 0
  case neg =>
    refine AGL.mk' hC (-2) (fun x K hK => ?_) (fun t K hK => shr6_in hC (fun _ => ⟨fun e => absurd e n10, fun _ => ?_⟩) (fun q => absurd hpo q))
    · unfold wp_X5_shrunk wp_X2_allBits
      refine shr5_in hC (fun _ => ⟨fun e => absurd e n10, fun _ => ?_⟩) (fun q => absurd hpo q)
      by_cases hw : what = 0 ∨ what = 1
      case neg => exact pt5_0 hw ⟨fun q => absurd rfl q, fun _ => hK x⟩
      refine pt5_1 hw ⟨fun _ => ?_, fun e => absurd e n10⟩
      by_cases ha : isN (kN c) aa
      case neg => exact kn5_0 hC ha ⟨fun _ => hK x, fun q => absurd rfl q⟩
      refine kn5_1 hC ha ⟨fun e => absurd e n10, fun _ => ?_⟩
      by_cases hb : isN (kN c) bb
      case neg => exact kn5_0 hC hb ⟨fun _ => hK x, fun q => absurd rfl q⟩
      refine kn5_1 hC hb ⟨fun e => absurd e n10, fun _ => ⟨fun hab => ?_, fun _ => hK x⟩⟩
      refine ⟨fun _ => ⟨fun _ => hK x, fun q => absurd rfl q⟩, fun h1 => ⟨fun e => absurd e n10, fun _ => ⟨fun _ => ⟨fun q => absurd rfl q, fun _ => hK x⟩, fun h2 => absurd ⟨hw, ha, hb, hab, h1, h2⟩ hbad⟩⟩⟩
    · by_cases ha : isN (kN c) aa
      case neg => exact kn6_0 hC ha ⟨fun _ => hK t, fun q => absurd rfl q⟩
      refine kn6_1 hC ha ⟨fun e => absurd e n10, fun _ => ?_⟩
      by_cases hb : isN (kN c) bb
      case neg => exact kn6_0 hC hb ⟨fun _ => hK t, fun q => absurd rfl q⟩
      refine kn6_1 hC hb ⟨fun e => absurd e n10, fun _ => ⟨fun _ => hK t, fun hab => ⟨fun _ => hK t, fun h1 => ⟨fun _ => hK t, fun h2 => ?_⟩⟩⟩⟩
      by_cases hw : what = 0 ∨ what = 1
      · exact absurd ⟨hw, ha, hb, hab, h1, h2⟩ hbad
      · exact pt6_0 hw ⟨fun q => absurd rfl q, fun _ => hK t⟩
  obtain ⟨hw, ha, hb, hab, hpa, hpb⟩ := hbad
  have hx : ∀ {x : XT} {K : Int64 → CS → XT → Prop}, ((c_pads c &&& (nI B ^^^ (-1 : Int32))) = 0 → wp_X0_lay 1 c x (fun c16_ x16_ => wp_X0_takeOutAllBut 1 (nI B) c16_ x16_ (fun r17 c17_ x17_ => (¬ r17 = 0 → vp_in aa 7 ∧ vp_in bb 7 ∧ wp_X5_part (-((b_cell (x_bal x17_ 1)) aa.toNatClampNeg bb.toNatClampNeg)) (b_below (x_bal x17_ 1)) what (fun r21 => K r21 c17_ x17_)) ∧ (r17 = 0 → K (-3 : Int64) c17_ x17_)))) → (¬ (c_pads c &&& (nI B ^^^ (-1 : Int32))) = 0 → K (-3) c x) → wp_X5_shrunk (nI B) aa bb what c x K := fun h1 h0 => by
    unfold wp_X5_shrunk wp_X2_allBits
    exact shr5_in hC (fun _ => ⟨fun e => absurd e n10, fun _ => pt5_1 hw ⟨fun _ => kn5_1 hC ha ⟨fun e => absurd e n10, fun _ => kn5_1 hC hb ⟨fun e => absurd e n10, fun _ => ⟨fun _ => ⟨fun q => absurd q hpa, fun _ => ⟨fun e => absurd e n10, fun _ => ⟨fun q => absurd q hpb, fun _ => ⟨fun _ => ⟨h1, h0⟩, fun e => absurd e n10⟩⟩⟩⟩, fun q => absurd q hab⟩⟩⟩, fun e => absurd e n10⟩⟩) (fun q => absurd hpo q)
  have hm : ∀ {t : MT} {K : Int64 → CS → MT → Prop}, (¬ (nI B &&& c_pads c) = c_pads c → K (-3) c t) → ((nI B &&& c_pads c) = c_pads c → wp_X6_leadsTo (nI B) (-1 : Int32) c t (fun r13 c13_ t13_ => (¬ r13 = 0 → wp_X6_minor (nI B) aa bb (-1 : Int32) c13_ t13_ (fun r15 c15_ t15_ => wp_X6_minor (nI B) (-1 : Int32) (-1 : Int32) (-1 : Int32) c15_ t15_ (fun r16 c16_ t16_ => wp_X6_lowest (-r15) r16 what (fun r17 => K r17 c16_ t16_)))) ∧ (r13 = 0 → K (-3 : Int64) c13_ t13_))) → wp_X6_shrunk (nI B) aa bb what c t K := fun h0 h1 =>
    shr6_in hC (fun _ => ⟨fun e => absurd e n10, fun _ => kn6_1 hC ha ⟨fun e => absurd e n10, fun _ => kn6_1 hC hb ⟨fun e => absurd e n10, fun _ => ⟨fun q => absurd q hab, fun _ => ⟨fun q => absurd q hpa, fun _ => ⟨fun q => absurd q hpb, fun _ => pt6_1 hw ⟨fun _ => ⟨h0, h1⟩, fun e => absurd e n10⟩⟩⟩⟩⟩⟩⟩) (fun q => absurd hpo q)
  have hmk := msk (c_pads c) (nI B)
  by_cases hsub : (nI B &&& c_pads c) = c_pads c
  case neg => exact AGL.mk' hC (-3) (fun x K hK => hx (fun q => absurd (hmk.mp q) hsub) (fun _ => hK x)) (fun t K hK => hm (fun _ => hK t) (fun q => absurd q hsub))
  have hN := hC.net (-1)
  by_cases hF : FedB c B
  case neg =>
    refine AGL.mk' hC (-3) (fun x K hK => hx (fun _ => lay_ok hC (fun f hf => ?_)) (fun q => absurd (hmk.mpr hsub) q)) (fun t K hK => hm (fun q => absurd hsub q) (fun _ => leads_ok hC hB2 (fun q => absurd q hF) (fun _ => ⟨fun q => absurd rfl q, fun _ => hK t⟩)))
    exact takeall_ok (b := bs_cell (bs_below (bs_knots (x_bal x 1) (c_n c)) (1 : Int64)) f) hN hB hC.en rfl hf (fun _ b' => ⟨fun q => absurd rfl q, fun _ => hK _⟩) (fun q => absurd q hF)
  obtain ⟨a, ha', rfl⟩ := ha
  obtain ⟨b, hb', rfl⟩ := hb
  have hne : a ≠ b := fun e => hab (by rw [e])
  have hba : bt7 B a = true := by
    cases q : bt7 B a with
    | true => rfl
    | false => exact absurd ((bit_0 hB (by omega)).mpr q) hpa
  have hbb : bt7 B b = true := by
    cases q : bt7 B b with
    | true => rfl
    | false => exact absurd ((bit_0 hB (by omega)).mpr q) hpb
  have hDp : 0 < Dn (kN c) (kL c (-1)) (cS B) := Dn_pos (S := cS B) hN.2.2.1 hN.2.2.2.1 (fun w hw => (hN.2.2.2.2 w hw).1) (by rw [nots]; exact hF)
  have hDb := Dn_bound hN ha' (cS_f hba)
  have hDb' : Dn (kN c) (kL c (-1)) (cS B) ≤ 255000000 := hDb.2
  have hcl : cl (kN c) (kL c (-1)) (cS B) a b = Nn (kN c) (kL c (-1)) (cS B) a b := by
    unfold cl
    rw [if_pos (by rw [cS_f hba, cS_f hbb])]
  have hcb : -2200000000 ≤ cl (kN c) (kL c (-1)) (cS B) a b ∧ cl (kN c) (kL c (-1)) (cS B) a b ≤ 2200000000 := cl_bound hN (cS B) ha' hb'
  refine AGL.mk' hC (Int64.ofInt (lowA (-Nn (kN c) (kL c (-1)) (cS B) a b) (Dn (kN c) (kL c (-1)) (cS B)) what)) (fun x K hK => hx (fun _ => lay_ok hC (fun f hf => ?_)) (fun q => absurd (hmk.mpr hsub) q)) (fun t K hK => hm (fun q => absurd hsub q) (fun _ => leads_ok hC hB2 (fun _ => ⟨fun _ => ?_, fun e => absurd e n10⟩) (fun q => absurd hF q)))
  · refine takeall_ok (b := bs_cell (bs_below (bs_knots (x_bal x 1) (c_n c)) (1 : Int64)) f) hN hB hC.en rfl hf (fun q => absurd hF q) (fun _ _ b' hb2 => ⟨fun _ => ⟨vi (by omega) (by omega), vi (by omega) (by omega), ?_⟩, fun e => absurd e n10⟩)
    rw [xsb_get, cl_ (by omega), cl_ (by omega)]
    have e1 : (b_cell b' a b).toInt = cl (kN c) (kL c (-1)) (cS B) a b := hb2.2.2 a b ha' hb'
    exact part_ok (x := -Nn (kN c) (kL c (-1)) (cS B) a b) (y := Dn (kN c) (kL c (-1)) (cS B)) (by rw [l_neg e1 (by omega) (by omega), hcl]) hb2.2.1 hDp (by omega) (by omega) (fun r hr => by rw [l_is hr]; exact hK _)
  · refine minor_W hC hB ha' hb' hne hba hbb (by omega) (fun r t1 _ hr => minor_D hC hB ha' hba (fun r2 t2 _ hr2 => ?_))
    exact low_ok (x := -Nn (kN c) (kL c (-1)) (cS B) a b) (y := Dn (kN c) (kL c (-1)) (cS B)) (l_neg hr (by omega) (by omega)) hr2 hDp (by omega) (by omega) (fun r hr => by rw [l_is hr]; exact hK _)
end SH
