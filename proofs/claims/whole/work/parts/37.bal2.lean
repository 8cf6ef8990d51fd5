/-! THE CLASS'S Balance: takeOut, takeOutAllBut, forget, weigh, settle -/
theorem mul_bd {x y A B : Int} (hx : -A ≤ x ∧ x ≤ A) (hy : -B ≤ y ∧ y ≤ B) : -(A * B) ≤ x * y ∧ x * y ≤ A * B := by
  have h1 : 0 ≤ (A - x) * (B + y) := Int.mul_nonneg (by omega) (by omega)
  have h2 : 0 ≤ (A + x) * (B - y) := Int.mul_nonneg (by omega) (by omega)
  have h3 : 0 ≤ (A - x) * (B - y) := Int.mul_nonneg (by omega) (by omega)
  have h4 : 0 ≤ (A + x) * (B + y) := Int.mul_nonneg (by omega) (by omega)
  have e1 : (A - x) * (B + y) = A * B + A * y - x * B - x * y := by rw [Int.sub_mul, Int.mul_add, Int.mul_add]; omega
  have e2 : (A + x) * (B - y) = A * B - A * y + x * B - x * y := by rw [Int.add_mul, Int.mul_sub, Int.mul_sub]; omega
  have e3 : (A - x) * (B - y) = A * B - A * y - x * B + x * y := by rw [Int.sub_mul, Int.mul_sub, Int.mul_sub]; omega
  have e4 : (A + x) * (B + y) = A * B + A * y + x * B + x * y := by rw [Int.add_mul, Int.mul_add, Int.mul_add]; omega
  omega
theorem l0 : (0 : Int64).toInt = 0 := by decide
/-- a balance with the knots of S taken out -/
def TKB (n : Nat) (L : Nat → Nat → Int) (S : Nat → Bool) (b : BS) : Prop := b_knots b = nI n ∧ (b_below b).toInt = Dn n L S ∧ ∀ i j, i < n → j < n → (b_cell b i j).toInt = cl n L S i j
/-- a settled balance, but for its cells -/
def SA (n : Nat) (L : Nat → Nat → Int) (S : Nat → Bool) (q : Nat → Int) (b : BS) : Prop := b_knots b = nI n ∧ (b_below b).toInt = Dn n L S ∧ ∀ k, k < n → (b_above b k).toInt = fl n L S q k
def SC (n : Nat) (L : Nat → Nat → Int) (S : Nat → Bool) (b : BS) : Prop := ∀ i j, i < n → j < n → (b_cell b i j).toInt = Rn n L S i j
section BAL2
variable {c : CS} {x : XT} {tb n E : Nat} {fa ta : Nat → Nat} {wd : Nat → Int} {S : Nat → Bool} {k : Nat}
theorem take_ok {K : Int32 → CS → XT → Prop} (hN : NetOK n E fa ta wd) (hk : k < n) (hS : S k = false) (hD : 0 < Dn n (lp E fa ta wd) S) (hB : TKB n (lp E fa ta wd) S (x_bal x tb))
    (h0 : Dn n (lp E fa ta wd) (insS S k) ≤ 0 → K 0 c x) (h1 : 0 < Dn n (lp E fa ta wd) (insS S k) → ∀ b', TKB n (lp E fa ta wd) (insS S k) b' → K 1 c (xsb x tb b')) : wp_X0_takeOut tb (nI k) c x K := by
  have h7 := hN.1
  obtain ⟨b1, b2, b3⟩ := hB
  obtain ⟨b0, hb0⟩ : ∃ b0, b0 = x_bal x tb := ⟨_, rfl⟩
  rw [← hb0] at b1 b2 b3
  have hxx : x = xsb x tb (bs_cell b0 (b_cell b0)) := by
    have : bs_cell b0 (b_cell b0) = x_bal x tb := by rw [hb0]
    rw [this, xsb_self]
  have hcl : (nI k).toNatClampNeg = k := cl_ (by omega)
  have hVk : vp_in (nI k) 7 := vi (by omega) (by omega)
  unfold wp_X0_takeOut
  rw [hcl, ← hb0]
  have hpv : (b_cell b0 k k).toInt = Dn n (lp E fa ta wd) (insS S k) := by rw [Dn_ins hS]; exact b3 k k hk hk
  have hDb := Dn_bound hN hk hS
  refine ⟨hVk, hVk, fun h => h0 (by rw [← hpv]; exact Int64.le_iff_toInt_le.mp h), fun h => ⟨fun _ => ?_, fun h' => absurd (Int64.lt_iff_toInt_lt.mpr (by rw [b2, l0]; exact hD)) h'⟩⟩
  generalize hv : b_cell b0 k k = v at *
  have hpos : 0 < Dn n (lp E fa ta wd) (insS S k) := by
    have : ¬ v.toInt ≤ (0 : Int64).toInt := fun q => h (Int64.le_iff_toInt_le.mpr q)
    rw [l0, hpv] at this
    omega
  let J : Nat → Nat → (Nat → Nat → Int64) → Prop := fun r s f => ∀ a b, a < n → b < n → (a ≠ k ∧ b ≠ k ∧ (a < r ∨ (a = r ∧ b < s)) → (f a b).toInt = cl n (lp E fa ta wd) (insS S k) a b) ∧ (¬ (a ≠ k ∧ b ≠ k ∧ (a < r ∨ (a = r ∧ b < s))) → f a b = b_cell b0 a b)
  have hkk : ∀ f : Nat → Nat → Int64, b_knots (x_bal (xsb x tb (bs_cell b0 f)) tb) = nI n := fun f => by rw [xsb_get]; exact b1
  have hbb : ∀ f : Nat → Nat → Int64, b_below (x_bal (xsb x tb (bs_cell b0 f)) tb) = b_below b0 := fun f => by rw [xsb_get]
  show ∃ n29 : Nat, nd_X0_takeOut_29 tb K n29 (nI k) v (nI 0) c x
  rw [hxx]
  refine upto (fun m r (f : Nat → Nat → Int64) => nd_X0_takeOut_29 tb K m (nI k) v (nI r) c (xsb x tb (bs_cell b0 f))) (fun r f => J r 0 f) n 0 _ (by omega) (fun a b _ _ => ⟨fun h => by omega, fun _ => rfl⟩) ?_ ?_
  · intro m f hf
    refine ⟨fun _ => ?_, fun h => absurd (show _ ≤ nI n from by rw [hkk]; exact Int32.le_refl _) h⟩
    refine upto (fun m j (g : Nat → Nat → Int64) => nd_X0_takeOut_124 tb K m (nI k) v (nI j) c (xsb x tb (bs_cell b0 g))) (fun j g => ∀ a b, a < n → b < n → (a = k ∧ b < j → (g a b).toInt = - cl n (lp E fa ta wd) S a b) ∧ (¬ (a = k ∧ b < j) → g a b = f a b)) n 0 f (by omega) (fun a b _ _ => ⟨fun h => by omega, fun _ => rfl⟩) ?_ ?_
    · intro m g hg
      refine ⟨fun _ => ⟨hVk, hVk, ?_⟩, fun h => absurd (show _ ≤ nI n from by rw [hkk]; exact Int32.le_refl _) h⟩
      rw [xsb_get, xsb_xsb, hcl]
      refine h1 hpos _ ⟨b1, hpv, fun i j hi hj => ?_⟩
      show (upM g k k (b_below b0) i j).toInt = _
      by_cases e1 : i = k
      · subst e1
        by_cases e2 : j = i
        · subst e2
          rw [upM_s, b2, cl_ins_kk hS]
        · rw [upM_n (by omega), cl_ins_row hS e2, (hg i j hi hj).1 ⟨rfl, hj⟩]
      · rw [upM_n (by omega), (hg i j hi hj).2 (by omega)]
        by_cases e2 : j = k
        · subst e2
          rw [(hf i j hi hj).2 (by omega), cl_ins_col hk hi hS e1]
          exact b3 i j hi hj
        · exact (hf i j hi hj).1 ⟨e1, e2, by omega⟩
    · intro m j g hj _ hg hW
      refine ⟨fun h => absurd h (by rw [hkk]; exact nI_ge hj (by omega)), fun _ => ⟨hVk, hVk, vi (by omega) (by omega), vi (by omega) (by omega), ?_⟩⟩
      rw [xsb_get, xsb_xsb, nI_1, cl_ (by omega), cl_ (by omega)]
      refine hW (upM g k j (- g k j)) (fun a b ha hb => ⟨fun h => ?_, fun h => ?_⟩)
      · obtain ⟨rfl, hb'⟩ := h
        by_cases e : b = j
        · subst e
          rw [upM_s]
          have e1 : (g a b).toInt = cl n (lp E fa ta wd) S a b := by
            rw [(hg a b ha hb).2 (by omega), (hf a b ha hb).2 (by omega)]; exact b3 a b ha hb
          have := cl_bound hN S ha hb
          exact l_neg e1 (by omega) (by omega)
        · rw [upM_n (by omega)]
          exact (hg a b ha hb).1 ⟨rfl, by omega⟩
      · rw [upM_n (by omega)]
        exact (hg a b ha hb).2 (by omega)
  · intro m r f hr _ hf hW
    refine ⟨fun h => absurd h (by rw [hkk]; exact nI_ge hr (by omega)), fun _ => ?_⟩
    refine upto (fun m' j (g : Nat → Nat → Int64) => nd_X0_takeOut_41 tb K (fun v1 v2 v4 c x => nd_X0_takeOut_29 tb K m v1 v2 v4 c x) m' (nI k) v (nI r) (nI j) c (xsb x tb (bs_cell b0 g))) (fun j g => J r j g) n 0 f (by omega) hf ?_ ?_
    · intro m' g hg
      refine ⟨fun _ => ?_, fun h => absurd (show _ ≤ nI n from by rw [hkk]; exact Int32.le_refl _) h⟩
      show nd_X0_takeOut_29 tb K m (nI k) v (nI r + 1) c _
      rw [nI_1]
      exact hW g (fun a b ha hb => ⟨fun h => (hg a b ha hb).1 (by omega), fun h => (hg a b ha hb).2 (by omega)⟩)
    · intro m' j g hj _ hg hW'
      refine ⟨fun h => absurd h (by rw [hkk]; exact nI_ge hj (by omega)), fun _ => ⟨fun e => ?_, fun e => ⟨fun e' => ?_, fun e' => ?_⟩⟩⟩
      · have e := (nI_eq (by omega) (by omega)).mp e
        show nd_X0_takeOut_41 tb K _ m' (nI k) v (nI r) (nI j + 1) c _
        rw [nI_1]
        exact hW' g (fun a b ha hb => ⟨fun h => (hg a b ha hb).1 (by omega), fun h => (hg a b ha hb).2 (by omega)⟩)
      · have e' := (nI_eq (by omega) (by omega)).mp e'
        show nd_X0_takeOut_41 tb K _ m' (nI k) v (nI r) (nI j + 1) c _
        rw [nI_1]
        exact hW' g (fun a b ha hb => ⟨fun h => (hg a b ha hb).1 (by omega), fun h => (hg a b ha hb).2 (by omega)⟩)
      · have e : r ≠ k := fun q => e (by rw [q])
        have e' : j ≠ k := fun q => e' (by rw [q])
        have hr7 : vp_in (nI r) 7 := vi (by omega) (by omega)
        have hj7 : vp_in (nI j) 7 := vi (by omega) (by omega)
        rw [hbb, xsb_get, xsb_xsb, cl_ (by omega), cl_ (by omega), hcl]
        refine ⟨hr7, hr7, hj7, hr7, hVk, hVk, hj7, ?_, hj7, ?_⟩
        · intro h
          have := congrArg Int64.toInt h
          rw [b2, l0] at this
          omega
        show nd_X0_takeOut_41 tb K _ m' (nI k) v (nI r) (nI j + 1) c _
        rw [nI_1]
        refine hW' (upM g r j ((g r j * v - g r k * g k j) / b_below b0)) (fun a b ha hb => ⟨fun h => ?_, fun h => ?_⟩)
        · by_cases q : a = r ∧ b = j
          · obtain ⟨rfl, rfl⟩ := q
            rw [upM_s]
            have g1 : (g a b).toInt = cl n (lp E fa ta wd) S a b := by rw [(hg a b ha hb).2 (by omega)]; exact b3 a b ha hb
            have g2 : (g a k).toInt = cl n (lp E fa ta wd) S a k := by rw [(hg a k ha hk).2 (by omega)]; exact b3 a k ha hk
            have g3 : (g k b).toInt = cl n (lp E fa ta wd) S k b := by rw [(hg k b hk hb).2 (by omega)]; exact b3 k b hk hb
            have hpv' : v.toInt = cl n (lp E fa ta wd) S k k := by rw [hpv, Dn_ins hS]
            have he := cl_ins (n := n) (A := lp E fa ta wd) hk ha hS e e'
            have hq := cl_bound hN (insS S k) ha hb
            have hm := mul_bd (A := 2200000000) (B := 255000000) hq hDb
            refine l_div (d := Dn n (lp E fa ta wd) S) ?_ b2 (by omega) (by omega) (by omega)
            rw [Int.mul_comm, he]
            exact l_ms g1 hpv' g2 g3 (by rw [← he]; omega) (by rw [← he]; omega)
          · rw [upM_n (by omega)]
            exact (hg a b ha hb).1 (by omega)
        · rw [upM_n (by omega)]
          exact (hg a b ha hb).2 (by omega)
end BAL2
