/-! ONE ANSWER FOR BOTH: digest, both walks -/
section DG2
variable {c : CS} {x : XT} {t : MT}
theorem ispad5 {K : Int32 → CS → XT → Prop} (hC : CI c) {a : Nat} (ha : a < 7) (h1 : bt7 (kB c) a = true → K 1 c x) (h0 : bt7 (kB c) a = false → K 0 c x) : wp_X2_isPad (nI a) c x K := by
  unfold wp_X2_isPad
  rw [hC.ep]
  exact has_ok hC.b128 ha (fun q => ⟨nb1, h1 q⟩) (fun q => ⟨nb0, h0 q⟩)
theorem bitv (hC : CI c) {a : Nat} (ha : a < 7) : ((c_pads c >>> (nI a &&& 31)) &&& (1 : Int32)) = if bt7 (kB c) a = true then 1 else 0 := by
  rw [hC.ep]
  exact bit_chk (kB c) hC.b128 a ha
theorem knots5_loop {K : Int64 → CS → XT → Prop} (hC : CI c) {v : Int32} {h : Int64}
    (hv : (v = 0 ∧ ¬ FedC c) ∨ (v = 1 ∧ FedC c ∧ ST c (kB c) (x_bal x 0))) (hK : K (d1 c h (kN c)) c x) : ∃ n11 : Nat, nd_X5_digestOfKnots_11 K n11 v h (nI 0) c x := by
  have h7 := hC.n7
  have hpart : ∀ {k : Nat} {what : Int32} {K : Int64 → Prop}, k < kN c → (what = 0 ∨ what = 1) → FedC c → ST c (kB c) (x_bal x 0) → K (fv c k what) → wp_X5_part (b_above (x_bal x 0) k) (b_below (x_bal x 0)) what K := fun {k what K} hk hw hF hx hK => by
    have hD := gD_b hC hF
    have hFb := gF_b hC hF hk
    exact part_ok (x := gF c k) (y := gD c) (hx.1.2.2 k hk) hx.1.2.1 hD.1 (by omega) (by omega) (fun r hr => by rw [l_is hr, ← fv_t hF]; exact hK)
  refine upto (fun n k (a : Int64) => nd_X5_digestOfKnots_11 K n v a (nI k) c x) (fun k a => a = d1 c h k) (kN c) 0 h (by omega) rfl ?_ ?_
  · rintro n a rfl
    exact ⟨fun _ => hK, fun q => absurd (show c_n c ≤ nI (kN c) from by rw [← hC.en]; exact Int32.le_refl _) q⟩
  · rintro n k a hk _ rfl hW
    have v7 := vi (n := k) (N := 7) (by omega) (by omega)
    have ck : (nI k).toNatClampNeg = k := cl_ (by omega)
    have hb := bitv hC (a := k) (by omega)
    have hgo : ∀ b : Int32, b = ((c_pads c >>> (nI k &&& 31)) &&& (1 : Int32)) → nd_X5_digestOfKnots_66 K (fun v3 v4 v6 c x => nd_X5_digestOfKnots_11 K n v3 v4 v6 c x) v (nI k) b ((31 : Int64) * (((31 : Int64) * d1 c h k) + (Int32.toInt64 (c_pulls c k)))) c x := fun b hb => by
      have hlast : nd_X5_digestOfKnots_147 K (fun v3 v4 v6 c x => nd_X5_digestOfKnots_11 K n v3 v4 v6 c x) v (nI k) (fv c k 1) ((31 : Int64) * (((31 : Int64) * (((31 : Int64) * (((31 : Int64) * d1 c h k) + (Int32.toInt64 (c_pulls c k)))) + (Int32.toInt64 b))) + fv c k 0)) c x := by
        show nd_X5_digestOfKnots_11 K n v _ (nI k + 1) c x
        rw [nI_1, hb]
        exact hW _ rfl
      rcases hv with ⟨rfl, hF⟩ | ⟨rfl, hF, hx⟩
      · rw [fv_f hF, fv_f hF] at hlast
        exact ⟨fun _ => ⟨fun _ => hlast, fun q => absurd rfl q⟩, fun q => absurd rfl q⟩
      · refine ⟨fun q => absurd q n10, fun _ => ⟨v7, ?_⟩⟩
        rw [ck]
        refine hpart hk (.inl rfl) hF hx ⟨fun q => absurd q n10, fun _ => ⟨v7, ?_⟩⟩
        rw [ck]
        exact hpart hk (.inr rfl) hF hx hlast
    refine ⟨fun q => absurd q (by rw [hC.en]; exact nI_ge hk (by omega)), fun _ => ⟨v7, ispad5 hC (by omega) (fun h1 => ⟨fun q => absurd q n10, fun _ => ?_⟩) (fun h0 => ⟨fun _ => ?_, fun q => absurd rfl q⟩)⟩⟩
    · rw [ck]
      exact hgo 1 (by rw [hb, if_pos h1])
    · rw [ck]
      exact hgo 0 (by rw [hb, if_neg (by rw [h0]; decide)])
theorem ag_digest (hC : CI c) : AGL c (fun x K => wp_X5_digest c x K) (fun t K => wp_X6_digest c t K) := by
  have h7 := hC.n7
  refine AGL.mk' hC (d3 c (d2 c (d1 c (d0 c hC 6) (kN c)) (kE c)) (kK c)) (fun x K hK => ?_) (fun t K hK => ?_)
  · show ∃ n6 : Nat, nd_X5_digest_6 K n6 (191 : Int64) (nI 0) c x
    refine upto (fun n i (s : Int64 × XT) => nd_X5_digest_6 K n s.1 (nI i) c s.2) (fun i s => s.1 = d0 c hC i) 6 0 (191, x) (by omega) rfl ?_ ?_
    · rintro n ⟨a, x⟩ ha
      simp only at ha
      subst ha
      refine ⟨fun _ => set5 hC (fun hF x' hx => ?_) (fun hF x' => ?_), fun q => absurd (by decide) q⟩
      · exact knots5_loop hC (.inr ⟨rfl, hF, hx⟩) (d5_tail hC (hK x'))
      · exact knots5_loop hC (.inl ⟨rfl, hF⟩) (d5_tail hC (hK x'))
    · rintro n i ⟨a, x⟩ hi _ ha hW
      simp only at ha
      subst ha
      have h5 : ¬ (5 : Int32) < nI i := fun q => by
        have := Int32.lt_iff_toInt_lt.mp q
        rw [nI_toInt (by omega), show (5 : Int32).toInt = 5 by decide] at this
        omega
      refine ⟨fun q => absurd q h5, fun _ => cv5 hC (fun x' => ?_)⟩
      rw [nI_1]
      exact hW (_, x') rfl
  · show ∃ n6 : Nat, nd_X6_digest_6 K n6 (191 : Int64) (nI 0) c t
    refine upto (fun n i (s : Int64 × MT) => nd_X6_digest_6 K n s.1 (nI i) c s.2) (fun i s => s.1 = d0 c hC i) 6 0 (191, t) (by omega) rfl ?_ ?_
    · rintro n ⟨a, t⟩ ha
      simp only at ha
      subst ha
      refine ⟨fun _ => ?_, fun q => absurd (Int32.le_refl _) q⟩
      show ∃ n33 : Nat, nd_X6_digest_33 K n33 (d0 c hC 6) (nI 0) c t
      refine upto (fun n k (s : Int64 × MT) => nd_X6_digest_33 K n s.1 (nI k) c s.2) (fun k s => s.1 = d1 c (d0 c hC 6) k) (kN c) 0 (_, t) (by omega) rfl ?_ ?_
      · rintro n ⟨a, t⟩ ha
        simp only at ha
        subst ha
        exact ⟨fun _ => d6_tail hC (hK t), fun q => absurd (show c_n c ≤ nI (kN c) from by rw [← hC.en]; exact Int32.le_refl _) q⟩
      · rintro n k ⟨a, t⟩ hk _ ha hW
        simp only at ha
        subst ha
        refine ⟨fun q => absurd q (by rw [hC.en]; exact nI_ge hk (by omega)), fun _ => ⟨vi (by omega) (by omega), fall6 hC hk (.inl rfl) (fun t1 => fall6 hC hk (.inr rfl) (fun t2 => ?_))⟩⟩
        rw [nI_1, cl_ (by omega)]
        exact hW (_, t2) rfl
    · rintro n i ⟨a, t⟩ hi _ ha hW
      simp only at ha
      subst ha
      refine ⟨fun q => absurd q (nI_lt6 hi), fun _ => cv6 hC (fun t' => ?_)⟩
      rw [nI_1]
      exact hW (_, t') rfl
end DG2
