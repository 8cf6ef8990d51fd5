/-! ONE ANSWER FOR BOTH: the small calls -/
def AGI (c : CS) (px : XT → (Int32 → CS → XT → Prop) → Prop) (pm : MT → (Int32 → CS → MT → Prop) → Prop) : Prop := ∃ v c', CI c' ∧ (∀ x K, (∀ x', K v c' x') → px x K) ∧ (∀ t K, (∀ t', K v c' t') → pm t K)
def AGL (c : CS) (px : XT → (Int64 → CS → XT → Prop) → Prop) (pm : MT → (Int64 → CS → MT → Prop) → Prop) : Prop := ∃ v c', CI c' ∧ (∀ x K, (∀ x', K v c' x') → px x K) ∧ (∀ t K, (∀ t', K v c' t') → pm t K)
theorem l_is {r : Int64} {z : Int} (h : r.toInt = z) : r = Int64.ofInt z := by rw [← h, Int64.ofInt_toInt]
theorem i_is {r : Int32} {z : Int} (h : r.toInt = z) : r = Int32.ofInt z := by rw [← h, Int32.ofInt_toInt]
def isN (n : Nat) (k : Int32) : Prop := ∃ a, a < n ∧ k = nI a
theorem i0' : (0 : Int32).toInt = 0 := by decide
theorem i1' : (1 : Int32).toInt = 1 := by decide
theorem nn_nI {v : Int32} (h : 0 ≤ v.toInt) : v = nI v.toNatClampNeg ∧ (v.toNatClampNeg : Int) = v.toInt := by
  have h2 : (v.toNatClampNeg : Int) = v.toInt := by
    show (v.toInt.toNat : Int) = _
    omega
  have h3 : v.toInt ≤ 2147483647 := Int32.toInt_le v
  refine ⟨i_inj ?_, h2⟩
  rw [nI_toInt (by omega), h2]
theorem isN_le {n : Nat} {k : Int32} (hn : n < 2000000000) : ((0 : Int32) ≤ k ∧ k ≤ nI n - (1 : Int32)) ↔ isN n k := by
  have e : (nI n - (1 : Int32)).toInt = (n : Int) - 1 := i_sub (nI_toInt (by omega)) i1' (by omega) (by omega)
  rw [Int32.le_iff_toInt_le, Int32.le_iff_toInt_le, e, i0']
  constructor
  · rintro ⟨h1, h2⟩
    have h := nn_nI h1
    exact ⟨k.toNatClampNeg, by omega, h.1⟩
  · rintro ⟨a, ha, rfl⟩
    rw [nI_toInt (by omega)]; omega
theorem isN_lt {n : Nat} {k : Int32} (hn : n < 2000000000) : (¬ k < 0 ∧ ¬ nI n ≤ k) ↔ isN n k := by
  rw [Int32.lt_iff_toInt_lt, Int32.le_iff_toInt_le, nI_toInt (by omega), i0']
  constructor
  · rintro ⟨h1, h2⟩
    have h := nn_nI (v := k) (by omega)
    exact ⟨k.toNatClampNeg, by omega, h.1⟩
  · rintro ⟨a, ha, rfl⟩
    rw [nI_toInt (by omega)]; omega
theorem nb1 : narrow .boolean (.int (1 : Int32)) = .int (1 : Int32) := by decide
theorem nb0 : narrow .boolean (.int (0 : Int32)) = .int (0 : Int32) := by decide
section AG1
variable {c : CS} {x : XT} {t : MT} {k w : Int32}
theorem CI.n7 (hC : CI c) : 2 ≤ kN c ∧ kN c ≤ 7 := ⟨hC.1.1, hC.1.2.1⟩
theorem CI.en (hC : CI c) : c_n c = nI (kN c) := hC.1.2.2
theorem CI.ew (hC : CI c) : c_wires c = nI (kE c) := hC.2.1.2
theorem CI.e12 (hC : CI c) : kE c ≤ 12 := hC.2.1.1
theorem CI.eb (hC : CI c) : c_nb c = nI (kK c) := hC.2.2.2.2.2.1.2.1
theorem CI.b6 (hC : CI c) : kK c ≤ 6 := hC.2.2.2.2.2.1.1
theorem CI.ep (hC : CI c) : c_pads c = nI (kB c) := hC.2.2.2.2.1.2
theorem kn6_1 {K : Int32 → CS → MT → Prop} (hC : CI c) (h : isN (kN c) k) (hK : K 1 c t) : wp_X6_isKnot k c t K := by
  have h7 := hC.n7
  unfold wp_X6_isKnot
  rw [hC.en]
  exact in_ok (fun _ => ⟨nb1, hK⟩) (fun q => absurd ((isN_le (by omega)).mpr h) q)
theorem kn6_0 {K : Int32 → CS → MT → Prop} (hC : CI c) (h : ¬ isN (kN c) k) (hK : K 0 c t) : wp_X6_isKnot k c t K := by
  have h7 := hC.n7
  unfold wp_X6_isKnot
  rw [hC.en]
  exact in_ok (fun q => absurd ((isN_le (by omega)).mp q) h) (fun _ => ⟨nb0, hK⟩)
theorem kn5_1 {K : Int32 → CS → XT → Prop} (hC : CI c) (h : isN (kN c) k) (hK : K 1 c x) : wp_X2_isKnot k c x K := by
  have h7 := hC.n7
  unfold wp_X2_isKnot
  rw [hC.en]
  have := (isN_lt (by omega)).mpr h
  exact ⟨fun q => absurd q this.1, fun _ => ⟨fun q => absurd q this.2, fun _ => hK⟩⟩
theorem kn5_0 {K : Int32 → CS → XT → Prop} (hC : CI c) (h : ¬ isN (kN c) k) (hK : K 0 c x) : wp_X2_isKnot k c x K := by
  have h7 := hC.n7
  unfold wp_X2_isKnot
  rw [hC.en]
  exact ⟨fun _ => hK, fun q => ⟨fun _ => hK, fun q' => absurd ((isN_lt (by omega)).mp ⟨q, q'⟩) h⟩⟩
theorem wi5_1 {K : Int32 → CS → XT → Prop} (hC : CI c) (h : isN (kE c) w) (hK : K 1 c x) : wp_X2_isWire w c x K := by
  have h7 := hC.e12
  unfold wp_X2_isWire
  rw [hC.ew]
  have := (isN_lt (by omega)).mpr h
  exact ⟨fun q => absurd q this.1, fun _ => ⟨fun q => absurd q this.2, fun _ => hK⟩⟩
theorem wi5_0 {K : Int32 → CS → XT → Prop} (hC : CI c) (h : ¬ isN (kE c) w) (hK : K 0 c x) : wp_X2_isWire w c x K := by
  have h7 := hC.e12
  unfold wp_X2_isWire
  rw [hC.ew]
  exact ⟨fun _ => hK, fun q => ⟨fun _ => hK, fun q' => absurd ((isN_lt (by omega)).mp ⟨q, q'⟩) h⟩⟩
theorem wi6_1 {K : Int32 → Prop} (hC : CI c) (h : isN (kE c) w) (hK : K 1) : wp_X6_in w (0 : Int32) (c_wires c - (1 : Int32)) K := by
  have h7 := hC.e12
  rw [hC.ew]
  exact in_ok (fun _ => hK) (fun q => absurd ((isN_le (by omega)).mpr h) q)
theorem wi6_0 {K : Int32 → Prop} (hC : CI c) (h : ¬ isN (kE c) w) (hK : K 0) : wp_X6_in w (0 : Int32) (c_wires c - (1 : Int32)) K := by
  have h7 := hC.e12
  rw [hC.ew]
  exact in_ok (fun q => absurd ((isN_le (by omega)).mp q) h) (fun _ => hK)
theorem bl5_1 {K : Int32 → CS → XT → Prop} (hC : CI c) (h : isN (kK c) w) (hK : K 1 c x) : wp_X1_isBlock w c x K := by
  have h7 := hC.b6
  unfold wp_X1_isBlock
  rw [hC.eb]
  have := (isN_lt (by omega)).mpr h
  exact ⟨fun q => absurd q this.1, fun _ => ⟨fun q => absurd q this.2, fun _ => hK⟩⟩
theorem bl5_0 {K : Int32 → CS → XT → Prop} (hC : CI c) (h : ¬ isN (kK c) w) (hK : K 0 c x) : wp_X1_isBlock w c x K := by
  have h7 := hC.b6
  unfold wp_X1_isBlock
  rw [hC.eb]
  exact ⟨fun _ => hK, fun q => ⟨fun _ => hK, fun q' => absurd ((isN_lt (by omega)).mp ⟨q, q'⟩) h⟩⟩
theorem bl6_1 {K : Int32 → Prop} (hC : CI c) (h : isN (kK c) w) (hK : K 1) : wp_X6_in w (0 : Int32) (c_nb c - (1 : Int32)) K := by
  have h7 := hC.b6
  rw [hC.eb]
  exact in_ok (fun _ => hK) (fun q => absurd ((isN_le (by omega)).mpr h) q)
theorem bl6_0 {K : Int32 → Prop} (hC : CI c) (h : ¬ isN (kK c) w) (hK : K 0) : wp_X6_in w (0 : Int32) (c_nb c - (1 : Int32)) K := by
  have h7 := hC.b6
  rw [hC.eb]
  exact in_ok (fun q => absurd ((isN_le (by omega)).mp q) h) (fun _ => hK)
/-- a call that changes nothing -/
theorem AGI.mk' {px : XT → (Int32 → CS → XT → Prop) → Prop} {pm : MT → (Int32 → CS → MT → Prop) → Prop} (hC : CI c) (v : Int32) (hx : ∀ x K, (∀ x', K v c x') → px x K) (hm : ∀ t K, (∀ t', K v c t') → pm t K) : AGI c px pm := ⟨v, c, hC, hx, hm⟩
theorem AGL.mk' {px : XT → (Int64 → CS → XT → Prop) → Prop} {pm : MT → (Int64 → CS → MT → Prop) → Prop} (hC : CI c) (v : Int64) (hx : ∀ x K, (∀ x', K v c x') → px x K) (hm : ∀ t K, (∀ t', K v c t') → pm t K) : AGL c px pm := ⟨v, c, hC, hx, hm⟩
theorem n10 : ¬ (1 : Int32) = 0 := by decide
theorem rng {v : Int32} {a b : Int32} (h : a ≤ v ∧ v ≤ b) : a.toInt ≤ v.toInt ∧ v.toInt ≤ b.toInt := ⟨Int32.le_iff_toInt_le.mp h.1, Int32.le_iff_toInt_le.mp h.2⟩
theorem ag_budget {v : Int32} (hC : CI c) : AGI c (fun x K => wp_X5_budget v c x K) (fun t K => wp_X6_budget v c t K) := by
  by_cases h : (0 : Int32) ≤ v ∧ v ≤ (100 : Int32)
  · refine ⟨c_budget c, cs_budget c v, ?_, fun x K hK => bw_ok (fun _ => ⟨fun _ => hK x, fun e => absurd e n10⟩) (fun q => absurd h q), fun t K hK => in_ok (fun _ => ⟨fun _ => hK t, fun e => absurd e n10⟩) (fun q => absurd h q)⟩
    obtain ⟨h1, h2, h3, h4, h5, h6, -⟩ := hC
    have hr := rng h
    rw [i0', show (100 : Int32).toInt = 100 by decide] at hr
    exact ⟨h1, h2, h3, h4, h5, h6, hr⟩
  · exact AGI.mk' hC (-2) (fun x K hK => bw_ok (fun q => absurd q h) (fun _ => ⟨fun q => absurd rfl q, fun _ => hK x⟩)) (fun t K hK => in_ok (fun q => absurd q h) (fun _ => ⟨fun q => absurd rfl q, fun _ => hK t⟩))
theorem ag_pull {v : Int32} (hC : CI c) : AGI c (fun x K => wp_X5_pull k v c x K) (fun t K => wp_X6_pull k v c t K) := by
  by_cases hk : isN (kN c) k
  · by_cases h : (0 : Int32) ≤ v ∧ v ≤ (100 : Int32)
    · obtain ⟨a, ha, rfl⟩ := hk
      have hk : isN (kN c) (nI a) := ⟨a, ha, rfl⟩
      have h7 := hC.n7
      have hV : vp_in (nI a) 7 := vi (by omega) (by omega)
      refine ⟨c_pulls c (nI a).toNatClampNeg, cs_pulls c (upd (c_pulls c) (nI a).toNatClampNeg v), ?_, fun x K hK => kn5_1 hC hk ⟨fun e => absurd e n10, fun _ => bw_ok (fun _ => ⟨fun _ => ⟨hV, hV, hK x⟩, fun e => absurd e n10⟩) (fun q => absurd h q)⟩, fun t K hK => kn6_1 hC hk ⟨fun e => absurd e n10, fun _ => in_ok (fun _ => ⟨fun _ => ⟨hV, hV, hK t⟩, fun e => absurd e n10⟩) (fun q => absurd h q)⟩⟩
      obtain ⟨h1, h2, h3, h4, h5, h6, h7'⟩ := hC
      have hr := rng h
      rw [i0', show (100 : Int32).toInt = 100 by decide] at hr
      refine ⟨h1, h2, h3, fun j hj => ?_, h5, h6, h7'⟩
      show 0 ≤ (upd (c_pulls c) (nI a).toNatClampNeg v j).toInt ∧ (upd (c_pulls c) (nI a).toNatClampNeg v j).toInt ≤ 100
      rw [cl_ (by omega)]
      by_cases e : j = a
      · subst e; rw [up_s]; exact hr
      · rw [up_n e]; exact h4 j hj
    · exact AGI.mk' hC (-2) (fun x K hK => kn5_1 hC hk ⟨fun e => absurd e n10, fun _ => bw_ok (fun q => absurd q h) (fun _ => ⟨fun q => absurd rfl q, fun _ => hK x⟩)⟩) (fun t K hK => kn6_1 hC hk ⟨fun e => absurd e n10, fun _ => in_ok (fun q => absurd q h) (fun _ => ⟨fun q => absurd rfl q, fun _ => hK t⟩)⟩)
  · exact AGI.mk' hC (-2) (fun x K hK => kn5_0 hC hk ⟨fun _ => hK x, fun q => absurd rfl q⟩) (fun t K hK => kn6_0 hC hk ⟨fun _ => hK t, fun q => absurd rfl q⟩)
theorem ag_width {v : Int32} (hC : CI c) : AGI c (fun x K => wp_X5_width w v c x K) (fun t K => wp_X6_width w v c t K) := by
  by_cases hk : isN (kE c) w
  · by_cases h : (1 : Int32) ≤ v ∧ v ≤ (6 : Int32)
    · obtain ⟨a, ha, rfl⟩ := hk
      have hk : isN (kE c) (nI a) := ⟨a, ha, rfl⟩
      have h7 := hC.e12
      have hV : vp_in (nI a) 12 := vi (by omega) (by omega)
      refine ⟨c_wide c (nI a).toNatClampNeg, cs_wide c (upd (c_wide c) (nI a).toNatClampNeg v), ?_, fun x K hK => wi5_1 hC hk ⟨fun e => absurd e n10, fun _ => bw_ok (fun _ => ⟨fun _ => ⟨hV, hV, hK x⟩, fun e => absurd e n10⟩) (fun q => absurd h q)⟩, fun t K hK => wi6_1 hC hk ⟨fun e => absurd e n10, fun _ => in_ok (fun _ => ⟨fun _ => ⟨hV, hV, hK t⟩, fun e => absurd e n10⟩) (fun q => absurd h q)⟩⟩
      obtain ⟨h1, h2, h3, h4, h5, h6, h7'⟩ := hC
      have hr := rng h
      rw [i1', show (6 : Int32).toInt = 6 by decide] at hr
      refine ⟨h1, h2, fun j hj => ?_, h4, h5, h6, h7'⟩
      obtain ⟨q1, q2, q3, q4, q5⟩ := h3 j hj
      refine ⟨q1, q2, q3, ?_, q5⟩
      show 1 ≤ (upd (c_wide c) (nI a).toNatClampNeg v j).toInt ∧ (upd (c_wide c) (nI a).toNatClampNeg v j).toInt ≤ 6
      rw [cl_ (by omega)]
      by_cases e : j = a
      · subst e; rw [up_s]; exact hr
      · rw [up_n e]; exact q4
    · exact AGI.mk' hC (-2) (fun x K hK => wi5_1 hC hk ⟨fun e => absurd e n10, fun _ => bw_ok (fun q => absurd q h) (fun _ => ⟨fun q => absurd rfl q, fun _ => hK x⟩)⟩) (fun t K hK => wi6_1 hC hk ⟨fun e => absurd e n10, fun _ => in_ok (fun q => absurd q h) (fun _ => ⟨fun q => absurd rfl q, fun _ => hK t⟩)⟩)
  · exact AGI.mk' hC (-2) (fun x K hK => wi5_0 hC hk ⟨fun _ => hK x, fun q => absurd rfl q⟩) (fun t K hK => wi6_0 hC hk ⟨fun _ => hK t, fun q => absurd rfl q⟩)
end AG1
