/-! THE CORE STATE read as a net; what the reference's 'between' answers -/
def kN (c : CS) : Nat := (c_n c).toNatClampNeg
def kE (c : CS) : Nat := (c_wires c).toNatClampNeg
def kF (c : CS) (w : Nat) : Nat := (c_from c w).toNatClampNeg
def kT (c : CS) (w : Nat) : Nat := (c_to c w).toNatClampNeg
def kW (c : CS) (w : Nat) : Int := (c_wide c w).toInt
def kQ (c : CS) (k : Nat) : Int := (c_pulls c k).toInt
def kB (c : CS) : Nat := (c_pads c).toNatClampNeg
def kK (c : CS) : Nat := (c_nb c).toNatClampNeg
def kS (c : CS) (b : Nat) : Nat := (c_sits c b).toNatClampNeg
def kM (c : CS) (b : Nat) : Int := (c_most c b).toInt
def CIn (c : CS) : Prop := 2 ≤ kN c ∧ kN c ≤ 7 ∧ c_n c = nI (kN c)
def CIe (c : CS) : Prop := kE c ≤ 12 ∧ c_wires c = nI (kE c)
def CIw (c : CS) : Prop := ∀ w, w < kE c → (kF c w < kN c ∧ c_from c w = nI (kF c w)) ∧ (kT c w < kN c ∧ c_to c w = nI (kT c w)) ∧ kF c w ≠ kT c w ∧ (1 ≤ kW c w ∧ kW c w ≤ 6) ∧ 1 ≤ (c_price c w).toInt ∧ (c_price c w).toInt ≤ 100
def CIq (c : CS) : Prop := ∀ k, k < 7 → 0 ≤ kQ c k ∧ kQ c k ≤ 100
def CIp (c : CS) : Prop := kB c < 2 ^ kN c ∧ c_pads c = nI (kB c)
def CIk (c : CS) : Prop := kK c ≤ 6 ∧ c_nb c = nI (kK c) ∧ ∀ b, b < kK c → (kS c b < kN c ∧ c_sits c b = nI (kS c b)) ∧ 1 ≤ kM c b ∧ kM c b ≤ 20
def CIb (c : CS) : Prop := 0 ≤ (c_budget c).toInt ∧ (c_budget c).toInt ≤ 100
/-- what holds of the core at all times -/
def CI (c : CS) : Prop := CIn c ∧ CIe c ∧ CIw c ∧ CIq c ∧ CIp c ∧ CIk c ∧ CIb c
theorem pow7 {n : Nat} (h : n ≤ 7) : 2 ^ n ≤ 128 := Nat.pow_le_pow_right (show 0 < 2 by omega) h
theorem CI.b128 {c : CS} (h : CI c) : kB c < 128 := by
  have h1 := h.2.2.2.2.1.1
  have h2 := pow7 h.1.2.1
  omega
/-- the widths, without the wire 'but' -/
def wB (c : CS) (but : Int32) (w : Nat) : Int := if nI w = but then 0 else kW c w
theorem CI.net {c : CS} (h : CI c) (but : Int32) : NetOK (kN c) (kE c) (kF c) (kT c) (wB c but) := by
  obtain ⟨hn, he, hw, -⟩ := h
  refine ⟨hn.2.1, he.1, fun w q => (hw w q).1.1, fun w q => (hw w q).2.1.1, fun w q => ?_⟩
  have := (hw w q).2.2.2.1
  unfold wB
  split <;> omega
theorem wB_none (c : CS) {w : Nat} (hw : w < 2147483648) : wB c (-1) w = kW c w := by
  unfold wB
  rw [if_neg]
  intro e
  have := congrArg Int32.toInt e
  rw [nI_toInt hw] at this
  have h1 : (-1 : Int32).toInt = -1 := by decide
  omega
/-- the Laplacian of the core, without a wire -/
def kL (c : CS) (but : Int32) (i j : Nat) : Int := lp (kE c) (kF c) (kT c) (wB c but) i j
theorem sm_abs {f : Nat → Int} {B : Int} : ∀ {n : Nat}, (∀ i, i < n → -B ≤ f i ∧ f i ≤ B) → -(B * n) ≤ sm n f ∧ sm n f ≤ B * n
  | 0, _ => by show -(B * (0 : Int)) ≤ 0 ∧ 0 ≤ B * (0 : Int); omega
  | n + 1, h => by
    have ih := sm_abs (n := n) (fun i hi => h i (by omega))
    have h1 := h n (by omega)
    show -(B * ((n + 1 : Nat) : Int)) ≤ sm n f + f n ∧ sm n f + f n ≤ B * ((n + 1 : Nat) : Int)
    have e : B * ((n + 1 : Nat) : Int) = B * n + B := by
      rw [show ((n + 1 : Nat) : Int) = (n : Int) + 1 by omega, Int.mul_add, Int.mul_one]
    omega
theorem btw_ok {c : CS} {t : MT} {K : Int64 → CS → MT → Prop} {a b : Nat} {but : Int32} (hC : CI c) (ha : a < kN c) (hb : b < kN c) (hK : ∀ r : Int64, r.toInt = kL c but a b → K r c t) : wp_X6_between (nI a) (nI b) but c t K := by
  obtain ⟨hn, he, hw, -⟩ := hC
  let f : Nat → Int := fun w => wB c but w * ((dl a (kF c w) - dl a (kT c w)) * (dl b (kF c w) - dl b (kT c w)))
  have hbd : ∀ w, w < kE c → -6 ≤ f w ∧ f w ≤ 6 := fun w hw' => by
    have h1 := (hw w hw').2.2.2.1
    have h0 : 0 ≤ wB c but w ∧ wB c but w ≤ 6 := by unfold wB; split <;> omega
    show -6 ≤ wB c but w * ((dl a (kF c w) - dl a (kT c w)) * (dl b (kF c w) - dl b (kT c w))) ∧ wB c but w * ((dl a (kF c w) - dl a (kT c w)) * (dl b (kF c w) - dl b (kT c w))) ≤ 6
    unfold dl
    split <;> split <;> split <;> split <;> simp <;> omega
  show ∃ n6 : Nat, nd_X6_between_6 K n6 (nI a) (nI b) but (0 : Int64) (nI 0) c t
  refine upto (fun n i (acc : Int64) => nd_X6_between_6 K n (nI a) (nI b) but acc (nI i) c t) (fun i acc => acc.toInt = sm i f) (kE c) 0 0 (by omega) rfl ?_ ?_
  · intro n acc hacc
    exact ⟨fun _ => hK acc hacc, fun h => absurd (show c_wires c ≤ nI (kE c) from by rw [← he.2]; exact Int32.le_refl _) h⟩
  · intro n i acc hi _ hacc hW
    have hab := sm_abs (f := f) (n := i) (B := 6) (fun w q => hbd w (by omega))
    have hE := he.1
    have hcl : (nI i).toNatClampNeg = i := cl_ (by omega)
    have hin : vp_in (nI i) 12 := vi (by omega) (by omega)
    obtain ⟨⟨hF1, hF2⟩, ⟨hT1, hT2⟩, hFT, hWd, -⟩ := hw i hi
    have h7 := hn.2.1
    have eF : ∀ z, z < kN c → (c_from c i = nI z ↔ kF c i = z) := fun z hz => by rw [hF2, nI_eq (by omega) (by omega)]
    have eT : ∀ z, z < kN c → (c_to c i = nI z ↔ kT c i = z) := fun z hz => by rw [hT2, nI_eq (by omega) (by omega)]
    have hacc1 : ∀ acc' : Int64, acc'.toInt = sm i f + f i → nd_X6_between_6 K n (nI a) (nI b) but acc' (nI i + 1) c t := fun acc' h => by
      rw [nI_1]; exact hW acc' h
    have hbi := hbd i hi
    have hwl : (Int32.toInt64 (c_wide c i)).toInt = kW c i := l_of rfl
    have z125 : f i = 0 → nd_X6_between_125 K (fun v1 v2 v3 v4 v6 c t => nd_X6_between_6 K n v1 v2 v3 v4 v6 c t) (nI a) (nI b) but (nI i) acc c t := fun h => by
      show nd_X6_between_6 K n (nI a) (nI b) but (acc - 0) (nI i + 1) c t
      exact hacc1 _ (by rw [l_sub hacc (show (0 : Int64).toInt = 0 from rfl) (by omega) (by omega), h]; omega)
    have z114 : f i = - kW c i → nd_X6_between_114 K (fun v1 v2 v3 v4 v6 c t => nd_X6_between_6 K n v1 v2 v3 v4 v6 c t) (nI a) (nI b) but (nI i) acc c t := fun h => by
      refine ⟨hin, ?_⟩
      rw [hcl]
      show nd_X6_between_6 K n (nI a) (nI b) but (acc - Int32.toInt64 (c_wide c i)) (nI i + 1) c t
      exact hacc1 _ (by rw [l_sub hacc hwl (by omega) (by omega), h]; omega)
    have z50 : f i = kW c i → nd_X6_between_50 K (fun v1 v2 v3 v4 v6 c t => nd_X6_between_6 K n v1 v2 v3 v4 v6 c t) (nI a) (nI b) but (nI i) acc c t := fun h => by
      refine ⟨hin, ?_⟩
      rw [hcl]
      show nd_X6_between_6 K n (nI a) (nI b) but (acc + Int32.toInt64 (c_wide c i)) (nI i + 1) c t
      exact hacc1 _ (by rw [l_add hacc hwl (by omega) (by omega), h])
    have z62 : f i = 0 → nd_X6_between_62 K (fun v1 v2 v3 v4 v6 c t => nd_X6_between_6 K n v1 v2 v3 v4 v6 c t) (nI a) (nI b) but (nI i) (0 : Int64) acc c t := fun h => by
      show nd_X6_between_6 K n (nI a) (nI b) but (acc + 0) (nI i + 1) c t
      exact hacc1 _ (by rw [l_add hacc (show (0 : Int64).toInt = 0 from rfl) (by omega) (by omega), h])
    refine ⟨fun h => absurd h (by rw [he.2]; exact nI_ge hi (by omega)), fun _ => ⟨fun hbut => ?_, fun hbut => ?_⟩⟩
    · refine hacc1 acc ?_
      have : f i = 0 := by
        show wB c but i * _ = 0
        rw [show wB c but i = 0 from if_pos hbut, Int.zero_mul]
      omega
    · have hwB : wB c but i = kW c i := if_neg hbut
      have hfi : f i = kW c i * ((dl a (kF c i) - dl a (kT c i)) * (dl b (kF c i) - dl b (kT c i))) := by
        show wB c but i * _ = _
        rw [hwB]
      rw [hcl]
      refine ⟨fun hne => ?_, fun heq => ?_⟩
      · have hne2 : a ≠ b := fun e => hne (by rw [e])
        have z92 : ¬ (kF c i = a ∧ kT c i = b) → nd_X6_between_92 K (fun v1 v2 v3 v4 v6 c t => nd_X6_between_6 K n v1 v2 v3 v4 v6 c t) (nI a) (nI b) but (nI i) acc c t := fun hno => by
          refine ⟨hin, ?_⟩
          rw [hcl]
          refine ⟨fun h1 => z125 ?_, fun h1 => ⟨hin, fun h2 => z125 ?_, fun h2 => z114 ?_⟩⟩
          · have h1' : kF c i ≠ b := fun e => h1 ((eF b hb).mpr e)
            rw [hfi]; unfold dl
            split <;> split <;> split <;> split <;> simp <;> omega
          · have h1' := (eF b hb).mp h1
            have h2' : kT c i ≠ a := fun e => h2 ((eT a ha).mpr e)
            rw [hfi]; unfold dl
            split <;> split <;> split <;> split <;> simp <;> omega
          · have h1' := (eF b hb).mp h1
            have h2' := (eT a ha).mp h2
            rw [hfi]; unfold dl
            split <;> split <;> split <;> split <;> simp <;> omega
        refine ⟨hin, fun h1 => z92 (fun q => h1 ((eF a ha).mpr q.1)), fun h1 => ⟨hin, fun h2 => z114 ?_, fun h2 => z92 (fun q => h2 ((eT b hb).mpr q.2))⟩⟩
        have h1' := (eF a ha).mp h1
        have h2' := (eT b hb).mp h2
        rw [hfi]; unfold dl
        split <;> split <;> split <;> split <;> simp <;> omega
      · have heq2 : a = b := (nI_eq (by omega) (by omega)).mp heq
        subst heq2
        refine ⟨hin, fun h1 => z50 ?_, fun h1 => ⟨hin, fun h2 => z62 ?_, fun h2 => z50 ?_⟩⟩
        · have h1' := (eF a ha).mp h1
          rw [hfi]; unfold dl
          split <;> split <;> simp <;> omega
        · have h1' : kF c i ≠ a := fun e => h1 ((eF a ha).mpr e)
          have h2' : kT c i ≠ a := fun e => h2 ((eT a ha).mpr e)
          rw [hfi]; unfold dl
          split <;> split <;> simp <;> omega
        · have h1' : kF c i ≠ a := fun e => h1 ((eF a ha).mpr e)
          have h2' := (eT a ha).mp h2
          rw [hfi]; unfold dl
          split <;> split <;> simp <;> omega
