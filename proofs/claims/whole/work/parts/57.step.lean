/-! WIDENED: the class's step and whether a row is within the limit -/
def SAw (c : CS) (l : List Nat) (b : BS) : Prop := SA (kN c) (kLw c l) (cS (kB c)) (kQ c) b
def SCw (c : CS) (l : List Nat) (b : BS) : Prop := SC (kN c) (kLw c l) (cS (kB c)) b
section SP
variable {c : CS} {x : XT} {p : List Nat} {u w : Nat}
theorem within5 {K : Int32 → CS → XT → Prop} {tb : Nat} (hC : CI c) (hF : FedC c) (hok : okw c p) (hsa : SAw c p (x_bal x tb)) (hl : 0 ≤ (x_limit x).toInt ∧ (x_limit x).toInt ≤ 1000) (h1 : wi c (x_limit x).toInt p → K 1 c x) (h0 : ¬ wi c (x_limit x).toInt p → K 0 c x) : wp_X0_isWithin tb (x_limit x) c x K := by
  obtain ⟨k0, hk0, hp⟩ := gpad hC hF
  have h7 := hC.n7
  have hD := wiD_b hC hF hok
  have e : fl (kN c) (kLw c p) (cS (kB c)) (kQ c) (hx (kN c) (fl (kN c) (kLw c p) (cS (kB c)) (kQ c))) = wiM c p := mx_hx hk0 (fl_pad (cS_f hp))
  exact within_ok (f := fl (kN c) (kLw c p) (cS (kB c)) (kQ c)) (n := kN c) (D := wiD c p) (by omega) h7.2 hsa.1 hsa.2.2 hsa.2.1 (by omega) hl (fun q => h1 (by rw [e] at q; exact q)) (fun q => h0 (fun z => q (by rw [e]; exact z)))
end SP
