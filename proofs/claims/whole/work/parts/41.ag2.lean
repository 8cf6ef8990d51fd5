/-! ONE ANSWER FOR BOTH: net, wire, pad, block -/
/-- the first i at 0 -/
def zf (p : Nat → Int32) (i : Nat) : Nat → Int32 := fun j => if j < i then 0 else p j
theorem zf_0 (p : Nat → Int32) : zf p 0 = p := by funext j; unfold zf; rw [if_neg (by omega)]
theorem zf_s (p : Nat → Int32) (i : Nat) : upd (zf p i) i 0 = zf p (i + 1) := by
  funext j
  by_cases e : j = i
  · subst e; rw [up_s]; unfold zf; rw [if_pos (by omega)]
  · rw [up_n e]; unfold zf
    by_cases q : j < i
    · rw [if_pos q, if_pos (by omega)]
    · rw [if_neg q, if_neg (by omega)]
theorem nI_le7 {i : Nat} (h : i < 7) : ¬ (7 : Int32) ≤ nI i := nI_ge h (show (7 : Nat) < 2147483648 by decide)
theorem xor_chk : ∀ B, B < 128 → ∀ k, k < 7 → (nI B ^^^ ((1 : Int32) <<< (nI k &&& 31))) = nI (B ^^^ 2 ^ k) := by decide +kernel
section AG2
variable {c : CS} {x : XT} {t : MT} {k w : Int32}
theorem ag_net {v : Int32} (hC : CI c) : AGI c (fun x K => wp_X5_net v c x K) (fun t K => wp_X6_net v c t K) := by
  by_cases h : (2 : Int32) ≤ v ∧ v ≤ (7 : Int32)
  · let c1 : CS := cs_budget (cs_nb (cs_pads (cs_wires (cs_n c v) (0 : Int32)) (0 : Int32)) (0 : Int32)) (0 : Int32)
    refine ⟨1, cs_pulls c1 (zf (c_pulls c) 7), ?_, fun x K hK => bw_ok (fun _ => ⟨fun _ => ?_, fun e => absurd e n10⟩) (fun q => absurd h q), fun t K hK => in_ok (fun _ => ⟨fun _ => ?_, fun e => absurd e n10⟩) (fun q => absurd h q)⟩
    · have hr := rng h
      rw [show (2 : Int32).toInt = 2 by decide, show (7 : Int32).toInt = 7 by decide] at hr
      have hv := nn_nI (v := v) (by omega)
      refine ⟨⟨by show 2 ≤ v.toNatClampNeg; omega, by show v.toNatClampNeg ≤ 7; omega, hv.1⟩, ⟨by show (0 : Int32).toNatClampNeg ≤ 12; decide, rfl⟩, fun w hw => absurd hw (by show ¬ w < (0 : Int32).toNatClampNeg; exact Nat.not_lt_zero w), fun j hj => ?_, ⟨?_, rfl⟩, ⟨by show (0 : Int32).toNatClampNeg ≤ 6; decide, rfl, fun b hb => absurd hb (by show ¬ b < (0 : Int32).toNatClampNeg; exact Nat.not_lt_zero b)⟩, by show 0 ≤ (0 : Int32).toInt ∧ (0 : Int32).toInt ≤ 100; decide⟩
      · show 0 ≤ (zf (c_pulls c) 7 j).toInt ∧ (zf (c_pulls c) 7 j).toInt ≤ 100
        unfold zf
        rw [if_pos hj]; decide
      · show (0 : Int32).toNatClampNeg < 2 ^ v.toNatClampNeg
        exact Nat.pow_pos (by omega)
    · show ∃ n17 : Nat, nd_X2_clear_17 _ n17 (nI 0) (cs_pulls (cs_pads (cs_wires (cs_n c v) (0 : Int32)) (0 : Int32)) (c_pulls c)) x
      refine upto (fun n i (p : Nat → Int32) => nd_X2_clear_17 _ n (nI i) (cs_pulls (cs_pads (cs_wires (cs_n c v) (0 : Int32)) (0 : Int32)) p) x) (fun i p => p = zf (c_pulls c) i) 7 0 _ (by omega) (zf_0 _).symm ?_ ?_
      · rintro n p rfl
        exact ⟨fun _ => hK x, fun h => absurd (Int32.le_refl _) h⟩
      · rintro n i p hi _ rfl hW
        refine ⟨fun h => absurd h (nI_le7 hi), fun _ => ⟨vi (by omega) (by omega), ?_⟩⟩
        rw [nI_1, cl_ (by omega)]
        exact hW _ (zf_s _ _)
    · show ∃ n40 : Nat, nd_X6_net_40 K n40 (nI 0) (cs_pulls c1 (c_pulls c)) t
      refine upto (fun n i (p : Nat → Int32) => nd_X6_net_40 K n (nI i) (cs_pulls c1 p) t) (fun i p => p = zf (c_pulls c) i) 7 0 _ (by omega) (zf_0 _).symm ?_ ?_
      · rintro n p rfl
        exact ⟨fun _ => hK t, fun h => absurd (Int32.le_refl _) h⟩
      · rintro n i p hi _ rfl hW
        refine ⟨fun h => absurd h (nI_le7 hi), fun _ => ⟨vi (by omega) (by omega), ?_⟩⟩
        rw [nI_1, cl_ (by omega)]
        exact hW _ (zf_s _ _)
  · exact AGI.mk' hC (-2) (fun x K hK => bw_ok (fun q => absurd q h) (fun _ => ⟨fun q => absurd rfl q, fun _ => hK x⟩)) (fun t K hK => in_ok (fun q => absurd q h) (fun _ => ⟨fun q => absurd rfl q, fun _ => hK t⟩))
theorem ag_pad {is : Int32} (hC : CI c) : AGI c (fun x K => wp_X5_pad k is c x K) (fun t K => wp_X6_pad k is c t K) := by
  by_cases hk : isN (kN c) k
  · obtain ⟨a, ha, rfl⟩ := hk
    have hk : isN (kN c) (nI a) := ⟨a, ha, rfl⟩
    have h7 := hC.n7
    have hB := hC.b128
    have hbx : ∀ {x : XT} {K : Int32 → CS → XT → Prop}, (bt7 (kB c) a = true → K 1 c x) → (bt7 (kB c) a = false → K 0 c x) → wp_X2_isPad (nI a) c x K := fun h1 h0 => by
      unfold wp_X2_isPad
      rw [hC.ep]
      exact has_ok hB (by omega) (fun q => ⟨nb1, h1 q⟩) (fun q => ⟨nb0, h0 q⟩)
    have hbm : ((((c_pads c) >>> (nI a &&& 31)) &&& (1 : Int32)) = (1 : Int32)) ↔ bt7 (kB c) a = true := by
      rw [hC.ep]; exact bit_1 hB (by omega)
    by_cases hz : (if bt7 (kB c) a = true then (1 : Int32) else 0) = is
    · refine AGI.mk' hC (-3) (fun x K hK => kn5_1 hC hk ⟨fun _ => hbx (fun h1 => ?_) (fun h0 => ?_), fun e => absurd e n10⟩) (fun t K hK => kn6_1 hC hk ⟨fun _ => ⟨fun h0 => ?_, fun h1 => ?_⟩, fun e => absurd e n10⟩)
      · rw [if_pos h1] at hz
        exact ⟨fun q => absurd hz q, fun _ => hK x⟩
      · rw [if_neg (by rw [h0]; decide)] at hz
        exact ⟨fun q => absurd hz q, fun _ => hK x⟩
      · rw [if_neg (fun q => h0 (hbm.mpr q))] at hz
        exact ⟨fun q => absurd hz q, fun _ => hK t⟩
      · rw [if_pos (hbm.mp h1)] at hz
        exact ⟨fun q => absurd hz q, fun _ => hK t⟩
    · refine ⟨1, cs_pads c ((c_pads c) ^^^ ((1 : Int32) <<< (nI a &&& 31))), ?_, fun x K hK => kn5_1 hC hk ⟨fun _ => hbx (fun h1 => ?_) (fun h0 => ?_), fun e => absurd e n10⟩, fun t K hK => kn6_1 hC hk ⟨fun _ => ⟨fun h0 => ?_, fun h1 => ?_⟩, fun e => absurd e n10⟩⟩
      · have e := xor_chk (kB c) hB a (by omega)
        rw [← hC.ep] at e
        have hlt : kB c ^^^ 2 ^ a < 2 ^ kN c := Nat.xor_lt_two_pow hC.2.2.2.2.1.1 (Nat.pow_lt_pow_right (by omega) ha)
        have hp := pow7 h7.2
        obtain ⟨h1, h2, h3, h4, h5, h6, h7'⟩ := hC
        refine ⟨h1, h2, h3, h4, ⟨?_, ?_⟩, h6, h7'⟩
        · show ((c_pads c) ^^^ ((1 : Int32) <<< (nI a &&& 31))).toNatClampNeg < 2 ^ kN c
          rw [e, cl_ (by omega)]; exact hlt
        · show ((c_pads c) ^^^ ((1 : Int32) <<< (nI a &&& 31))) = nI ((c_pads c) ^^^ ((1 : Int32) <<< (nI a &&& 31))).toNatClampNeg
          rw [e, cl_ (by omega)]
      · rw [if_pos h1] at hz
        exact ⟨fun _ => hK x, fun q => absurd q hz⟩
      · rw [if_neg (by rw [h0]; decide)] at hz
        exact ⟨fun _ => hK x, fun q => absurd q hz⟩
      · rw [if_neg (fun q => h0 (hbm.mpr q))] at hz
        exact ⟨fun _ => hK t, fun q => absurd q hz⟩
      · rw [if_pos (hbm.mp h1)] at hz
        exact ⟨fun _ => hK t, fun q => absurd q hz⟩
  · exact AGI.mk' hC (-2) (fun x K hK => kn5_0 hC hk ⟨fun q => absurd rfl q, fun _ => hK x⟩) (fun t K hK => kn6_0 hC hk ⟨fun q => absurd rfl q, fun _ => hK t⟩)
theorem ag_block {v : Int32} (hC : CI c) : AGI c (fun x K => wp_X5_block k v c x K) (fun t K => wp_X6_block k v c t K) := by
  by_cases hk : isN (kN c) k
  · by_cases h : (1 : Int32) ≤ v ∧ v ≤ (20 : Int32)
    · have hb6 := hC.b6
      have eb := hC.eb
      by_cases hf : kK c < 6
      · obtain ⟨a, ha, rfl⟩ := hk
        have hk : isN (kN c) (nI a) := ⟨a, ha, rfl⟩
        have h7 := hC.n7
        have hV : vp_in (c_nb c) 6 := by rw [eb]; exact vi hf (by omega)
        have hlt : c_nb c < (6 : Int32) := by rw [eb, Int32.lt_iff_toInt_lt, nI_toInt (by omega), show (6 : Int32).toInt = 6 by decide]; omega
        have hne : ¬ c_nb c = (6 : Int32) := fun e => by
          rw [e] at hlt
          exact Int32.lt_irrefl hlt
        have e1 : (c_nb c + (1 : Int32)) - (1 : Int32) = c_nb c := by rw [eb, nI_a1, (nI_m1 _ (by omega)).1]
        refine ⟨c_nb c, (cs_nb (cs_most (cs_sits c (upd (c_sits c) (((c_nb c)).toNatClampNeg) (nI a))) (upd (c_most c) (((c_nb c)).toNatClampNeg) v)) ((c_nb c) + (1 : Int32))), ?_, fun x K hK => kn5_1 hC hk ⟨fun e => absurd e n10, fun _ => bw_ok (fun _ => ⟨fun _ => ⟨fun _ => ⟨hV, hV, hK x⟩, fun q => absurd hlt q⟩, fun e => absurd e n10⟩) (fun q => absurd h q)⟩, fun t K hK => kn6_1 hC hk ⟨fun e => absurd e n10, fun _ => in_ok (fun _ => ⟨fun _ => ⟨fun _ => ⟨hV, hV, ?_⟩, fun q => absurd q hne⟩, fun e => absurd e n10⟩) (fun q => absurd h q)⟩⟩
        · have hr := rng h
          rw [i1', show (20 : Int32).toInt = 20 by decide] at hr
          obtain ⟨h1, h2, h3, h4, h5, h6, h7'⟩ := hC
          refine ⟨h1, h2, h3, h4, h5, ⟨?_, ?_, fun j hj => ?_⟩, h7'⟩
          · show (c_nb c + (1 : Int32)).toNatClampNeg ≤ 6
            rw [eb, nI_a1, cl_ (by omega)]; omega
          · show c_nb c + (1 : Int32) = nI (c_nb c + (1 : Int32)).toNatClampNeg
            rw [eb, nI_a1, cl_ (by omega)]
          · have hj' : j < (c_nb c + (1 : Int32)).toNatClampNeg := hj
            rw [eb, nI_a1, cl_ (by omega)] at hj'
            show ((upd (c_sits c) (kK c) (nI a) j).toNatClampNeg < kN c ∧ upd (c_sits c) (kK c) (nI a) j = nI (upd (c_sits c) (kK c) (nI a) j).toNatClampNeg) ∧ 1 ≤ (upd (c_most c) (kK c) v j).toInt ∧ (upd (c_most c) (kK c) v j).toInt ≤ 20
            by_cases e : j = kK c
            · subst e
              rw [up_s, up_s, cl_ (by omega)]
              exact ⟨⟨ha, rfl⟩, hr⟩
            · rw [up_n e, up_n e]
              exact h6.2.2 j (by omega)
        · show K ((c_nb c + (1 : Int32)) - (1 : Int32)) _ t
          rw [e1]
          exact hK t
      · have e6 : kK c = 6 := by omega
        have ec : c_nb c = (6 : Int32) := by rw [eb, e6]; rfl
        refine AGI.mk' hC (-4) (fun x K hK => kn5_1 hC hk ⟨fun e => absurd e n10, fun _ => bw_ok (fun _ => ⟨fun _ => ⟨fun q => ?_, fun _ => hK x⟩, fun e => absurd e n10⟩) (fun q => absurd h q)⟩) (fun t K hK => kn6_1 hC hk ⟨fun e => absurd e n10, fun _ => in_ok (fun _ => ⟨fun _ => ⟨fun q => absurd ec q, fun _ => hK t⟩, fun e => absurd e n10⟩) (fun q => absurd h q)⟩)
        rw [ec] at q
        exact (Int32.lt_irrefl q).elim
    · exact AGI.mk' hC (-2) (fun x K hK => kn5_1 hC hk ⟨fun e => absurd e n10, fun _ => bw_ok (fun q => absurd q h) (fun _ => ⟨fun q => absurd rfl q, fun _ => hK x⟩)⟩) (fun t K hK => kn6_1 hC hk ⟨fun e => absurd e n10, fun _ => in_ok (fun q => absurd q h) (fun _ => ⟨fun q => absurd rfl q, fun _ => hK t⟩)⟩)
  · exact AGI.mk' hC (-2) (fun x K hK => kn5_0 hC hk ⟨fun _ => hK x, fun q => absurd rfl q⟩) (fun t K hK => kn6_0 hC hk ⟨fun _ => hK t, fun q => absurd rfl q⟩)
theorem ag_wire {a b v p : Int32} (hC : CI c) : AGI c (fun x K => wp_X5_wire a b v p c x K) (fun t K => wp_X6_wire a b v p c t K) := by
  by_cases hka : isN (kN c) a
  case neg => exact AGI.mk' hC (-2) (fun x K hK => kn5_0 hC hka ⟨fun _ => hK x, fun q => absurd rfl q⟩) (fun t K hK => kn6_0 hC hka ⟨fun _ => hK t, fun q => absurd rfl q⟩)
  by_cases hkb : isN (kN c) b
  case neg => exact AGI.mk' hC (-2) (fun x K hK => kn5_1 hC hka ⟨fun e => absurd e n10, fun _ => kn5_0 hC hkb ⟨fun _ => hK x, fun q => absurd rfl q⟩⟩) (fun t K hK => kn6_1 hC hka ⟨fun e => absurd e n10, fun _ => kn6_0 hC hkb ⟨fun _ => hK t, fun q => absurd rfl q⟩⟩)
  by_cases hab : a = b
  case pos => exact AGI.mk' hC (-2) (fun x K hK => kn5_1 hC hka ⟨fun e => absurd e n10, fun _ => kn5_1 hC hkb ⟨fun e => absurd e n10, fun _ => ⟨fun q => absurd hab q, fun _ => hK x⟩⟩⟩) (fun t K hK => kn6_1 hC hka ⟨fun e => absurd e n10, fun _ => kn6_1 hC hkb ⟨fun e => absurd e n10, fun _ => ⟨fun _ => hK t, fun q => absurd hab q⟩⟩⟩)
  by_cases hv : (1 : Int32) ≤ v ∧ v ≤ (6 : Int32)
  case neg => exact AGI.mk' hC (-2) (fun x K hK => kn5_1 hC hka ⟨fun e => absurd e n10, fun _ => kn5_1 hC hkb ⟨fun e => absurd e n10, fun _ => ⟨fun _ => bw_ok (fun q => absurd q hv) (fun _ => ⟨fun _ => hK x, fun q => absurd rfl q⟩), fun q => absurd q hab⟩⟩⟩) (fun t K hK => kn6_1 hC hka ⟨fun e => absurd e n10, fun _ => kn6_1 hC hkb ⟨fun e => absurd e n10, fun _ => ⟨fun q => absurd q hab, fun _ => in_ok (fun q => absurd q hv) (fun _ => ⟨fun _ => hK t, fun q => absurd rfl q⟩)⟩⟩⟩)
  by_cases hp : (1 : Int32) ≤ p ∧ p ≤ (100 : Int32)
  case neg => exact AGI.mk' hC (-2) (fun x K hK => kn5_1 hC hka ⟨fun e => absurd e n10, fun _ => kn5_1 hC hkb ⟨fun e => absurd e n10, fun _ => ⟨fun _ => bw_ok (fun _ => ⟨fun e => absurd e n10, fun _ => bw_ok (fun q => absurd q hp) (fun _ => ⟨fun q => absurd rfl q, fun _ => hK x⟩)⟩) (fun q => absurd hv q), fun q => absurd q hab⟩⟩⟩) (fun t K hK => kn6_1 hC hka ⟨fun e => absurd e n10, fun _ => kn6_1 hC hkb ⟨fun e => absurd e n10, fun _ => ⟨fun q => absurd q hab, fun _ => in_ok (fun _ => ⟨fun e => absurd e n10, fun _ => in_ok (fun q => absurd q hp) (fun _ => ⟨fun q => absurd rfl q, fun _ => hK t⟩)⟩) (fun q => absurd hv q)⟩⟩⟩)
  have he := hC.e12
  have ee := hC.ew
  by_cases hf : kE c < 12
  case neg =>
    have ec : c_wires c = (12 : Int32) := by rw [ee, show kE c = 12 by omega]; rfl
    refine AGI.mk' hC (-4) (fun x K hK => kn5_1 hC hka ⟨fun e => absurd e n10, fun _ => kn5_1 hC hkb ⟨fun e => absurd e n10, fun _ => ⟨fun _ => bw_ok (fun _ => ⟨fun e => absurd e n10, fun _ => bw_ok (fun _ => ⟨fun _ => ⟨fun q => ?_, fun _ => hK x⟩, fun e => absurd e n10⟩) (fun q => absurd hp q)⟩) (fun q => absurd hv q), fun q => absurd q hab⟩⟩⟩) (fun t K hK => kn6_1 hC hka ⟨fun e => absurd e n10, fun _ => kn6_1 hC hkb ⟨fun e => absurd e n10, fun _ => ⟨fun q => absurd q hab, fun _ => in_ok (fun _ => ⟨fun e => absurd e n10, fun _ => in_ok (fun _ => ⟨fun _ => ⟨fun q => absurd ec q, fun _ => hK t⟩, fun e => absurd e n10⟩) (fun q => absurd hp q)⟩) (fun q => absurd hv q)⟩⟩⟩)
    rw [ec] at q
    exact (Int32.lt_irrefl q).elim
  have hV : vp_in (c_wires c) 12 := by rw [ee]; exact vi hf (by omega)
  have hlt : c_wires c < (12 : Int32) := by rw [ee, Int32.lt_iff_toInt_lt, nI_toInt (by omega), show (12 : Int32).toInt = 12 by decide]; omega
  have hne : ¬ c_wires c = (12 : Int32) := fun e => by
    rw [e] at hlt
    exact Int32.lt_irrefl hlt
  have e1 : (c_wires c + (1 : Int32)) - (1 : Int32) = c_wires c := by rw [ee, nI_a1, (nI_m1 _ (by omega)).1]
  refine ⟨c_wires c, (cs_wires (cs_price (cs_wide (cs_to (cs_from c (upd (c_from c) (((c_wires c)).toNatClampNeg) a)) (upd (c_to c) (((c_wires c)).toNatClampNeg) b)) (upd (c_wide c) (((c_wires c)).toNatClampNeg) v)) (upd (c_price c) (((c_wires c)).toNatClampNeg) p)) ((c_wires c) + (1 : Int32))), ?_, fun x K hK => kn5_1 hC hka ⟨fun e => absurd e n10, fun _ => kn5_1 hC hkb ⟨fun e => absurd e n10, fun _ => ⟨fun _ => bw_ok (fun _ => ⟨fun e => absurd e n10, fun _ => bw_ok (fun _ => ⟨fun _ => ⟨fun _ => ⟨hV, hV, hV, hV, hK x⟩, fun q => absurd hlt q⟩, fun e => absurd e n10⟩) (fun q => absurd hp q)⟩) (fun q => absurd hv q), fun q => absurd q hab⟩⟩⟩, fun t K hK => kn6_1 hC hka ⟨fun e => absurd e n10, fun _ => kn6_1 hC hkb ⟨fun e => absurd e n10, fun _ => ⟨fun q => absurd q hab, fun _ => in_ok (fun _ => ⟨fun e => absurd e n10, fun _ => in_ok (fun _ => ⟨fun _ => ⟨fun _ => ⟨hV, hV, hV, hV, ?_⟩, fun q => absurd q hne⟩, fun e => absurd e n10⟩) (fun q => absurd hp q)⟩) (fun q => absurd hv q)⟩⟩⟩⟩
  · have hrv := rng hv
    have hrp := rng hp
    rw [i1', show (6 : Int32).toInt = 6 by decide] at hrv
    rw [i1', show (100 : Int32).toInt = 100 by decide] at hrp
    obtain ⟨i, hi, rfl⟩ := hka
    obtain ⟨j, hj, rfl⟩ := hkb
    have h7 := hC.n7
    have hij : i ≠ j := fun e => hab (by rw [e])
    obtain ⟨h1, h2, h3, h4, h5, h6, h7'⟩ := hC
    refine ⟨h1, ⟨?_, ?_⟩, fun w hw => ?_, h4, h5, h6, h7'⟩
    · show (c_wires c + (1 : Int32)).toNatClampNeg ≤ 12
      rw [ee, nI_a1, cl_ (by omega)]; omega
    · show c_wires c + (1 : Int32) = nI (c_wires c + (1 : Int32)).toNatClampNeg
      rw [ee, nI_a1, cl_ (by omega)]
    · have hw' : w < (c_wires c + (1 : Int32)).toNatClampNeg := hw
      rw [ee, nI_a1, cl_ (by omega)] at hw'
      show ((upd (c_from c) (kE c) (nI i) w).toNatClampNeg < kN c ∧ upd (c_from c) (kE c) (nI i) w = nI (upd (c_from c) (kE c) (nI i) w).toNatClampNeg) ∧ ((upd (c_to c) (kE c) (nI j) w).toNatClampNeg < kN c ∧ upd (c_to c) (kE c) (nI j) w = nI (upd (c_to c) (kE c) (nI j) w).toNatClampNeg) ∧ (upd (c_from c) (kE c) (nI i) w).toNatClampNeg ≠ (upd (c_to c) (kE c) (nI j) w).toNatClampNeg ∧ (1 ≤ (upd (c_wide c) (kE c) v w).toInt ∧ (upd (c_wide c) (kE c) v w).toInt ≤ 6) ∧ 1 ≤ (upd (c_price c) (kE c) p w).toInt ∧ (upd (c_price c) (kE c) p w).toInt ≤ 100
      by_cases e : w = kE c
      · subst e
        rw [up_s, up_s, up_s, up_s, cl_ (by omega), cl_ (by omega)]
        exact ⟨⟨hi, rfl⟩, ⟨hj, rfl⟩, hij, hrv, hrp⟩
      · rw [up_n e, up_n e, up_n e, up_n e]
        exact h3 w (by omega)
  · show K ((c_wires c + (1 : Int32)) - (1 : Int32)) _ t
    rw [e1]
    exact hK t
end AG2
