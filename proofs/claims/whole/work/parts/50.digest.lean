/-! ONE ANSWER FOR BOTH: digest -/
/-- what count tells -/
noncomputable def cv (c : CS) (hC : CI c) (j : Nat) : Int32 := Classical.choose (ags_count (what := nI j) hC)
section DG
variable {c : CS} {x : XT} {t : MT}
theorem cv5 {K : Int32 → CS → XT → Prop} (hC : CI c) {j : Nat} (hK : ∀ x', K (cv c hC j) c x') : wp_X5_count (nI j) c x K := (Classical.choose_spec (ags_count (what := nI j) hC)).1 x K hK
theorem cv6 {K : Int32 → CS → MT → Prop} (hC : CI c) {j : Nat} (hK : ∀ t', K (cv c hC j) c t') : wp_X6_count (nI j) c t K := (Classical.choose_spec (ags_count (what := nI j) hC)).2 t K hK
noncomputable def fv (c : CS) (k : Nat) (what : Int32) : Int64 := @ite _ (FedC c) (Classical.propDecidable _) (Int64.ofInt (lowA (gF c k) (gD c) what)) (-3 : Int64)
theorem fv_t {k : Nat} {what : Int32} (h : FedC c) : fv c k what = Int64.ofInt (lowA (gF c k) (gD c) what) := if_pos h
theorem fv_f {k : Nat} {what : Int32} (h : ¬ FedC c) : fv c k what = (-3 : Int64) := if_neg h
theorem fall6 {K : Int64 → CS → MT → Prop} {i : Nat} {what : Int32} (hC : CI c) (hi : i < kN c) (hw : what = 0 ∨ what = 1) (hK : ∀ t', K (fv c i what) c t') : wp_X6_fall (nI i) what c t K := by
  have hk : isN (kN c) (nI i) := ⟨i, hi, rfl⟩
  by_cases hF : FedC c
  case neg => exact kn6_1 hC hk ⟨fun e => absurd e n10, fun _ => pt6_1 hw ⟨fun _ => fed_ok hC (fun q => absurd q hF) (fun _ => ⟨fun q => absurd rfl q, fun _ => by rw [← fv_f (k := i) (what := what) hF]; exact hK t⟩), fun e => absurd e n10⟩⟩
  have hD := gD_b hC hF
  have hFb := gF_b hC hF hi
  refine kn6_1 hC hk ⟨fun e => absurd e n10, fun _ => pt6_1 hw ⟨fun _ => fed_ok hC (fun _ => ⟨fun _ => res6 hC hF (fun t' _ hR => fby6 hC hF hR hi (fun r hr => ?_)), fun e => absurd e n10⟩) (fun q => absurd hF q), fun e => absurd e n10⟩⟩
  exact low_ok (x := gF c i) (y := gD c) hr hR.1 hD.1 (by omega) (by omega) (fun r hr => by rw [l_is hr, ← fv_t hF]; exact hK t')
/-- the digest as it grows -/
noncomputable def d0 (c : CS) (hC : CI c) : Nat → Int64
  | 0 => 191
  | i + 1 => ((31 : Int64) * d0 c hC i) + (Int32.toInt64 (cv c hC i))
noncomputable def d1 (c : CS) (h : Int64) : Nat → Int64
  | 0 => h
  | k + 1 => (((31 : Int64) * (((31 : Int64) * (((31 : Int64) * (((31 : Int64) * d1 c h k) + (Int32.toInt64 (c_pulls c k)))) + (Int32.toInt64 (((c_pads c) >>> (nI k &&& 31)) &&& (1 : Int32))))) + fv c k 0)) + fv c k 1)
def d2 (c : CS) (h : Int64) : Nat → Int64
  | 0 => h
  | w + 1 => (((31 : Int64) * (((31 : Int64) * (((31 : Int64) * (((31 : Int64) * d2 c h w) + (Int32.toInt64 (c_from c w)))) + (Int32.toInt64 (c_to c w)))) + (Int32.toInt64 (c_wide c w)))) + (Int32.toInt64 (c_price c w)))
def d3 (c : CS) (h : Int64) : Nat → Int64
  | 0 => h
  | b + 1 => (((31 : Int64) * (((31 : Int64) * d3 c h b) + (Int32.toInt64 (c_sits c b)))) + (Int32.toInt64 (c_most c b)))
theorem nI_lt6 {i : Nat} (h : i < 6) : ¬ (6 : Int32) ≤ nI i := nI_ge h (show (6 : Nat) < 2147483648 by decide)
theorem d6_tail {K : Int64 → CS → MT → Prop} (hC : CI c) {h : Int64} (hK : K (d3 c (d2 c h (kE c)) (kK c)) c t) : ∃ n99 : Nat, nd_X6_digest_99 K n99 h (nI 0) c t := by
  have h12 := hC.e12
  have h6 := hC.b6
  refine upto (fun n i (a : Int64) => nd_X6_digest_99 K n a (nI i) c t) (fun i a => a = d2 c h i) (kE c) 0 h (by omega) rfl ?_ ?_
  · rintro n a rfl
    refine ⟨fun _ => ?_, fun q => absurd (show c_wires c ≤ nI (kE c) from by rw [← hC.ew]; exact Int32.le_refl _) q⟩
    refine upto (fun n i (a : Int64) => nd_X6_digest_165 K n a (nI i) c t) (fun i a => a = d3 c (d2 c h (kE c)) i) (kK c) 0 _ (by omega) rfl ?_ ?_
    · rintro n a rfl
      exact ⟨fun _ => hK, fun q => absurd (show c_nb c ≤ nI (kK c) from by rw [← hC.eb]; exact Int32.le_refl _) q⟩
    · rintro n i a hi _ rfl hW
      have v := vi (n := i) (N := 6) (by omega) (by omega)
      refine ⟨fun q => absurd q (by rw [hC.eb]; exact nI_ge hi (by omega)), fun _ => ⟨v, v, ?_⟩⟩
      rw [nI_1, cl_ (by omega)]
      exact hW _ rfl
  · rintro n i a hi _ rfl hW
    have v := vi (n := i) (N := 12) (by omega) (by omega)
    refine ⟨fun q => absurd q (by rw [hC.ew]; exact nI_ge hi (by omega)), fun _ => ⟨v, v, v, v, ?_⟩⟩
    rw [nI_1, cl_ (by omega)]
    exact hW _ rfl
theorem d5_tail {K : Int64 → CS → XT → Prop} (hC : CI c) {h : Int64} (hK : K (d3 c (d2 c h (kE c)) (kK c)) c x) : ∃ n38 : Nat, nd_X5_digest_38 K n38 h (nI 0) c x := by
  have h12 := hC.e12
  have h6 := hC.b6
  refine upto (fun n i (a : Int64) => nd_X5_digest_38 K n a (nI i) c x) (fun i a => a = d2 c h i) (kE c) 0 h (by omega) rfl ?_ ?_
  · rintro n a rfl
    refine ⟨fun _ => ?_, fun q => absurd (show c_wires c ≤ nI (kE c) from by rw [← hC.ew]; exact Int32.le_refl _) q⟩
    refine upto (fun n i (a : Int64) => nd_X5_digest_125 K n a (nI i) c x) (fun i a => a = d3 c (d2 c h (kE c)) i) (kK c) 0 _ (by omega) rfl ?_ ?_
    · rintro n a rfl
      exact ⟨fun _ => hK, fun q => absurd (show c_nb c ≤ nI (kK c) from by rw [← hC.eb]; exact Int32.le_refl _) q⟩
    · rintro n i a hi _ rfl hW
      have v := vi (n := i) (N := 6) (by omega) (by omega)
      refine ⟨fun q => absurd q (by rw [hC.eb]; exact nI_ge hi (by omega)), fun _ => ⟨v, v, ?_⟩⟩
      rw [nI_1, cl_ (by omega)]
      exact hW _ rfl
  · rintro n i a hi _ rfl hW
    have v := vi (n := i) (N := 12) (by omega) (by omega)
    refine ⟨fun q => absurd q (by rw [hC.ew]; exact nI_ge hi (by omega)), fun _ => ⟨v, v, v, v, ?_⟩⟩
    rw [nI_1, cl_ (by omega)]
    exact hW _ rfl
end DG
