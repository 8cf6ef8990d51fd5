/-! WIDENED: the class's step and whether a row is within the limit -/
def SAw (c : CS) (l : List Nat) (b : BS) : Prop := SA (kN c) (kLw c l) (cS (kB c)) (kQ c) b
def SCw (c : CS) (l : List Nat) (b : BS) : Prop := SC (kN c) (kLw c l) (cS (kB c)) b
section SP
variable {c : CS} {x : XT} {p : List Nat} {u w : Nat}
theorem within5 {K : Int32 → CS → XT → Prop} {tb : Nat} (hC : CI c) (hF : FedC c) (hok : okw c p) (hsa : SAw c p (x_bal x tb)) (hl : 0 ≤ (x_limit x).toInt ∧ (x_limit x).toInt ≤ 1000) (h1 : wi c (x_limit x).toInt p → K 1 c x) (h0 : ¬ wi c (x_limit x).toInt p → K 0 c x) : wp_X0_isWithin tb (x_limit x) c x K := by
  obtain ⟨k0, hk0, hp⟩ := gpad hC hF
  have h7 := hC.n7
  have hD := wiD_b hC hF hok
  have e : fl (kN c) (kLw c p) (cS (kB c)) (kQ c) (hx (kN c) (fl (kN c) (kLw c p) (cS (kB c)) (kQ c))) = wiM c p := mx_hx hk0 (fl_pad (cS_f hp))
  exact within_ok (f := fl (kN c) (kLw c p) (cS (kB c)) (kQ c)) (n := kN c) (D := wiD c p) (by omega) h7.2 hsa.1 hsa.2.2 hsa.2.1 (by omega) hl (fun q => h1 (by rw [e] at q; exact q)) (fun q => h0 (fun z => q (by rw [e]; exact z)))
theorem step5 {K : Int32 → CS → XT → Prop} (hC : CI c) (hF : FedC c) (hok : okw c p) (hm : p.length < u) (hu : u ≤ 3) (hum : x_umost x = nI u) (hw : w < kE c) (hrow : (x_row x w).toInt = lc p w)
    (hsa : SAw c p (x_bal x (2 + p.length))) (hsc : SCw c p (x_bal x (2 + p.length)))
    (h1 : okw c (w :: p) → ∀ b', SAw c (w :: p) b' → (p.length + 1 < u → SCw c (w :: p) b') → K 1 c (xsb x (2 + (p.length + 1)) b')) (h0 : ¬ okw c (w :: p) → K 0 c x) : wp_X4_step (nI w) (nI p.length) c x K := by
  obtain ⟨k0, hk0, hp⟩ := gpad hC hF
  have h12 := hC.e12
  have v12 : vp_in (nI w) 12 := vi (by omega) (by omega)
  obtain ⟨⟨f1, f2⟩, ⟨t1, t2⟩, hne, hwd, -⟩ := hC.2.2.1 w hw
  have h3 : ¬ (3 : Int32) ≤ nI p.length := nI_ge (show p.length < 3 by omega) (show (3 : Nat) < 2147483648 by decide)
  have hl := lc_nn p w
  have hD := wiD_b hC hF hok
  have hsum : (c_wide c w + x_row x w).toInt = kW c w + lc p w := i_add rfl hrow (by show -2000000000 ≤ kW c w + lc p w; omega) (by show kW c w + lc p w ≤ 2000000000; omega)
  have hlt : c_wide c w + x_row x w < (6 : Int32) ↔ kW c w + lc p w < 6 := by rw [Int32.lt_iff_toInt_lt, hsum, show (6 : Int32).toInt = 6 by decide]
  have hcw : ∀ v, lc (w :: p) v = lc p v + if v = w then 1 else 0 := fun v => rfl
  unfold wp_X4_step
  rw [cl_ (by omega), nI_a1, cl_ (by omega), cl_ (by omega)]
  refine ⟨fun q => absurd q h3, fun _ => ⟨v12, v12, fun q => ?_, fun q => h0 (fun z => q ?_)⟩⟩
  · have q' := hlt.mp q
    have hok' : okw c (w :: p) := fun v hv => by
      rw [hcw]
      have := hok v hv
      by_cases e : v = w
      · subst e; rw [if_pos rfl]; omega
      · rw [if_neg e]; omega
    have hN := wL_net hC hok
    have hN' : NetOK (kN c) (kE c) (kF c) (kT c) (wdp (wL c p) w 1) := by rw [wL_cons]; exact wL_net hC hok'
    have hD' := wiD_b hC hF hok'
    have hub : 2 + p.length ≠ 2 + (p.length + 1) := by omega
    refine ⟨vi (by omega) (by omega), vi (by omega) (by omega), v12, v12, hub, ?_⟩
    rw [f2, t2]
    refine alter_ok (S := cS (kB c)) (q := kQ c) (mi := 1) hub hN hN' hw hne i1' (by omega) hk0 (cS_f hp) (fun j hj => hC.2.2.2.1 j (by have := hC.n7; omega)) hD.1 hsa hsc (fun hle => ?_) (fun hpos b' hb' hs => ⟨fun _ => ⟨fun z => ?_, fun z => ⟨hub, ?_⟩⟩, fun e => absurd e n10⟩)
    · rw [wL_cons] at hle
      have : Dn (kN c) (lp (kE c) (kF c) (kT c) (wL c (w :: p))) (cS (kB c)) = wiD c (w :: p) := rfl
      omega
    · rw [wL_cons] at hb'
      refine h1 hok' b' hb' (fun y => ?_)
      have z' : x_umost x ≤ nI (p.length + 1) := z
      rw [hum, Int32.le_iff_toInt_le, nI_toInt (by omega), nI_toInt (by omega)] at z'
      omega
    · refine altc_ok (S := cS (kB c)) (q := kQ c) (mi := 1) hub hN hN' hw hne i1' (by omega) hk0 (cS_f hp) hD.1 hpos hsa.2.1 hsc hb' hs (fun b2 hb2 hc2 => ?_)
      rw [wL_cons] at hb2 hc2
      exact h1 hok' b2 hb2 (fun _ => hc2)
  · have := z w hw
    rw [hcw, if_pos rfl] at this
    exact hlt.mpr (by omega)
end SP
