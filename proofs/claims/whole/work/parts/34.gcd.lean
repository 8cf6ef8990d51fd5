/-! LOWEST TERMS, by both -/
/-- a fraction's above (what = 0) or below, in lowest terms -/
def lowA (x y : Int) (what : Int32) : Int := if what = 0 then x / (Int.gcd x y : Int) else y / (Int.gcd x y : Int)
theorem l_rem {a b : Int64} {x y : Nat} (ha : a.toInt = x) (hb : b.toInt = y) (hy : 0 < y) : (a - a / b * b).toInt = ((x % y : Nat) : Int) := by
  have hx : (x : Int) < 9223372036854775808 := by
    have := Int64.toInt_lt a
    rw [ha] at this; exact this
  have hq : x / y ≤ x := Nat.div_le_self x y
  have hm : x / y * y ≤ x := Nat.div_mul_le_self x y
  have h1 : (a / b).toInt = ((x / y : Nat) : Int) := by
    rw [Int64.toInt_div, ha, hb]
    have : (x : Int).tdiv (y : Int) = ((x / y : Nat) : Int) := by rw [Int.ofNat_tdiv]
    rw [this]
    clear this
    generalize x / y = q at *
    exact Int.bmod_eq_of_le (by omega) (by omega)
  have h2 : (a / b * b).toInt = ((x / y * y : Nat) : Int) := by
    rw [Int64.toInt_mul, h1, hb, ← Int.natCast_mul]
    exact Int.bmod_eq_of_le (by omega) (by omega)
  rw [Int64.toInt_sub, ha, h2]
  have h3 := Nat.div_add_mod' x y
  rw [Int.bmod_eq_of_le (by omega) (by omega)]
  omega
theorem l_zero {b : Int64} {y : Nat} (hb : b.toInt = y) : b = 0 ↔ y = 0 := by
  constructor
  · intro h
    rw [h] at hb
    have : (0 : Int64).toInt = 0 := rfl
    omega
  · intro h
    exact l_inj (by rw [hb, h]; rfl)
theorem gcd_step (x y : Nat) : Nat.gcd y (x % y) = Nat.gcd x y := by
  rw [Nat.gcd_comm y, ← Nat.gcd_rec, Nat.gcd_comm]
theorem div17 {K : Int64 → Prop} : ∀ (y x : Nat) (a b : Int64), a.toInt = x → b.toInt = y → (∀ r : Int64, r.toInt = (Nat.gcd x y : Int) → K r) → ∃ n, nd_X6_divisor_17 K n a b := by
  intro y
  induction y using Nat.strongRecOn with
  | ind y ih =>
    intro x a b ha hb hK
    by_cases h0 : y = 0
    · subst h0
      refine ⟨1, fun _ => hK a (by rw [ha, Nat.gcd_zero_right]), fun h => absurd ((l_zero hb).mpr rfl) h⟩
    · have hne : ¬ b = 0 := fun h => h0 ((l_zero hb).mp h)
      obtain ⟨n, hn⟩ := ih (x % y) (Nat.mod_lt x (by omega)) y b (a - a / b * b) hb (l_rem ha hb (by omega)) (fun r hr => hK r (by rw [hr, gcd_step]))
      exact ⟨n + 1, fun h => absurd h hne, fun _ => ⟨hne, hn⟩⟩
/-- the library's own part: the gcd of the sizes -/
theorem gcd_abs (x y : Int) : (Nat.gcd x.natAbs y.natAbs : Int) = (Int.gcd x y : Int) := rfl
theorem l_natAbs {a : Int64} {x : Int} (ha : a.toInt = x) (hx : 0 ≤ x) : a.toInt = (x.natAbs : Int) := by omega
theorem gcd_pos {x y : Int} (hy : 0 < y) : 0 < (Int.gcd x y : Int) := by
  have : 0 < Int.gcd x y := Nat.gcd_pos_of_pos_right _ (by omega)
  omega
theorem low_div {a g : Int64} {x y : Int} {z : Int} (hz : z = x ∨ z = y) (ha : a.toInt = z) (hg : g.toInt = (Int.gcd x y : Int)) (hy : 0 < y) (hzb : -9000000000000000000 ≤ z ∧ z ≤ 9000000000000000000) : (a / g).toInt = z / (Int.gcd x y : Int) := by
  have hp := gcd_pos (x := x) hy
  have hdvd : (Int.gcd x y : Int) ∣ z := by
    rcases hz with e | e
    · rw [e]; exact Int.gcd_dvd_left ..
    · rw [e]; exact Int.gcd_dvd_right ..
  obtain ⟨q, hq⟩ := hdvd
  have hqz : z / (Int.gcd x y : Int) = q := by rw [hq]; exact Int.mul_ediv_cancel_left q (by omega)
  rw [hqz]
  have hqb : -9000000000000000000 ≤ q ∧ q ≤ 9000000000000000000 := by
    generalize (Int.gcd x y : Int) = d at *
    subst hq
    constructor
    · rcases Int.lt_or_le q (-9000000000000000000) with h | h
      · have : d * q ≤ 1 * q := by
          have := Int.mul_le_mul_of_nonpos_right (show 1 ≤ d by omega) (show q ≤ 0 by omega)
          exact this
        omega
      · exact h
    · rcases Int.lt_or_le 9000000000000000000 q with h | h
      · have : 1 * q ≤ d * q := Int.mul_le_mul_of_nonneg_right (show 1 ≤ d by omega) (show 0 ≤ q by omega)
        omega
      · exact h
  exact l_div (by rw [ha, hq]) hg (by omega) hqb.1 hqb.2
theorem low_ok {K : Int64 → Prop} {a b : Int64} {x y : Int} {what : Int32} (ha : a.toInt = x) (hb : b.toInt = y) (hy : 0 < y) (hxb : -9000000000000000000 ≤ x ∧ x ≤ 9000000000000000000) (hyb : y ≤ 9000000000000000000) (hK : ∀ r : Int64, r.toInt = lowA x y what → K r) : wp_X6_lowest a b what K := by
  have key : ∀ r1 : Int64, r1.toInt = (Int.gcd x y : Int) → (¬ what = 0 → ¬ r1 = 0 ∧ K (b / r1)) ∧ (what = 0 → ¬ r1 = 0 ∧ K (a / r1)) := fun r1 hr => by
    have hne : ¬ r1 = 0 := fun h => by
      rw [h] at hr
      have h0 : (0 : Int64).toInt = 0 := rfl
      have := gcd_pos (x := x) hy
      omega
    refine ⟨fun h => ⟨hne, hK _ ?_⟩, fun h => ⟨hne, hK _ ?_⟩⟩
    · unfold lowA; rw [if_neg h]
      exact low_div (Or.inr rfl) hb hr hy ⟨by omega, hyb⟩
    · unfold lowA; rw [if_pos h]
      exact low_div (Or.inl rfl) ha hr hy hxb
  refine ⟨fun h => ?_, fun h => ?_⟩
  · have h0 : 0 ≤ x := by
      have := Int64.le_iff_toInt_le.mp h
      rw [ha] at this; exact this
    exact div17 y.natAbs x.natAbs a b (l_natAbs ha h0) (l_natAbs hb (by omega)) (fun r hr => key r (by rw [hr]; rfl))
  · have h0 : x < 0 := by
      rcases Int.lt_or_le x 0 with q | q
      · exact q
      · exact absurd (Int64.le_iff_toInt_le.mpr (by rw [ha]; exact q)) h
    exact div17 y.natAbs x.natAbs (-a) b (by rw [l_neg ha (by omega) (by omega)]; omega) (l_natAbs hb (by omega)) (fun r hr => key r (by rw [hr]; rfl))
theorem com9 {K : Int64 → Prop} : ∀ (j : Nat) (y x : Nat) (a b : Int64) (s : Nat), y < 2 ^ j → s + 2 * j ≤ 100 → a.toInt = x → b.toInt = y → (∀ r : Int64, r.toInt = (Nat.gcd x y : Int) → K r) → ∃ n, nd_X5_commonDivisor_9 K n a b (nI s)
  | 0, y, x, a, b, s, hy, hs, ha, hb, hK => by
    have h0 : y = 0 := by
      have : y < 1 := hy
      omega
    subst h0
    have hk := hK a (by rw [ha, Nat.gcd_zero_right])
    exact ⟨1, fun _ => hk, fun _ => ⟨fun _ => hk, fun h => absurd ((l_zero hb).mpr rfl) h⟩⟩
  | j + 1, y, x, a, b, s, hy, hs, ha, hb, hK => by
    have hn100 : ¬ (100 : Int32) ≤ nI s := by rw [show (100 : Int32) = nI 100 from rfl]; exact nI_ge (by omega) (by omega)
    by_cases h0 : y = 0
    · subst h0
      have hk := hK a (by rw [ha, Nat.gcd_zero_right])
      exact ⟨1, fun _ => hk, fun _ => ⟨fun _ => hk, fun h => absurd ((l_zero hb).mpr rfl) h⟩⟩
    · have hne : ¬ b = 0 := fun h => h0 ((l_zero hb).mp h)
      have hr1 := l_rem ha hb (show 0 < y by omega)
      have hlt := Nat.mod_lt x (show y > 0 by omega)
      by_cases h1 : x % y = 0
      · rw [h1] at hr1
        have hk := hK b (by rw [hb, ← gcd_step, h1, Nat.gcd_zero_right])
        refine ⟨2, fun h => absurd h hn100, fun _ => ⟨fun h => absurd h hne, fun _ => ⟨hne, fun _ => hk, fun _ => ⟨fun _ => hk, fun h => absurd ((l_zero hr1).mpr rfl) h⟩⟩⟩⟩
      · have hne1 : ¬ (a - a / b * b) = 0 := fun h => h1 ((l_zero hr1).mp h)
        have hr2 := l_rem hb hr1 (show 0 < x % y by omega)
        have hlt2 := Nat.mod_lt y (show x % y > 0 by omega)
        have hsm : y % (x % y) < 2 ^ j := by
          have h3 := Nat.div_add_mod y (x % y)
          have h4 : 1 ≤ y / (x % y) := Nat.div_pos (by omega) (by omega)
          have h5 : x % y * 1 ≤ x % y * (y / (x % y)) := Nat.mul_le_mul_left _ h4
          have h6 : 2 ^ (j + 1) = 2 * 2 ^ j := by rw [Nat.pow_succ, Nat.mul_comm]
          omega
        obtain ⟨n, hn⟩ := com9 j (y % (x % y)) (x % y) (a - a / b * b) (b - b / (a - a / b * b) * (a - a / b * b)) (s + 2) hsm (by omega) hr1 hr2 (fun r hr => hK r (by rw [hr, gcd_step, gcd_step]))
        have hn101 : ¬ (100 : Int32) ≤ nI s + 1 := by rw [nI_1, show (100 : Int32) = nI 100 from rfl]; exact nI_ge (by omega) (by omega)
        refine ⟨n + 2, fun h => absurd h hn100, fun _ => ⟨fun h => absurd h hne, fun _ => ⟨hne, fun h => absurd h hn101, fun _ => ⟨fun h => absurd h hne1, fun _ => ⟨hne1, ?_⟩⟩⟩⟩⟩
        rw [nI_1, nI_1]
        exact hn
theorem part_ok {K : Int64 → Prop} {a b : Int64} {x y : Int} {what : Int32} (ha : a.toInt = x) (hb : b.toInt = y) (hy : 0 < y) (hxb : -9000000000000000000 ≤ x ∧ x ≤ 9000000000000000000) (hyb : y ≤ 1000000000000) (hK : ∀ r : Int64, r.toInt = lowA x y what → K r) : wp_X5_part a b what K := by
  have habs : (if 0 < a then a else -a).toInt = (x.natAbs : Int) := by
    by_cases h : 0 < a
    · rw [if_pos h]
      have := Int64.lt_iff_toInt_lt.mp h
      have h0 : (0 : Int64).toInt = 0 := rfl
      omega
    · rw [if_neg h]
      have : ¬ (0 : Int64).toInt < a.toInt := fun q => h (Int64.lt_iff_toInt_lt.mpr q)
      have h0 : (0 : Int64).toInt = 0 := rfl
      rw [l_neg ha (by omega) (by omega)]; omega
  show ∃ n9 : Nat, nd_X5_commonDivisor_9 _ n9 _ _ (nI 0)
  refine com9 40 y.natAbs x.natAbs _ b 0 ?_ (by omega) habs (l_natAbs hb (by omega)) (fun r1 hr => ?_)
  · have : (2 : Nat) ^ 40 = 1099511627776 := by decide
    omega
  · have hr' : r1.toInt = (Int.gcd x y : Int) := by rw [hr]; rfl
    have hp := gcd_pos (x := x) hy
    have h0 : (0 : Int64).toInt = 0 := rfl
    have hpos : (0 : Int64) < r1 := Int64.lt_iff_toInt_lt.mpr (by rw [hr', h0]; exact hp)
    have hne : ¬ r1 = 0 := fun h => by rw [h] at hr'; omega
    refine ⟨fun _ => ⟨fun h => ⟨hne, hK _ ?_⟩, fun h => ⟨hne, hK _ ?_⟩⟩, fun h => absurd hpos h⟩
    · unfold lowA; rw [if_neg h]
      exact low_div (Or.inr rfl) hb hr' hy ⟨by omega, by omega⟩
    · unfold lowA; rw [if_pos h]
      exact low_div (Or.inl rfl) ha hr' hy hxb
