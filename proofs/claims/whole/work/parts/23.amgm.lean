/-! PRODUCTS by their sums -/
set_option maxRecDepth 100000 in
theorem am_chk : ∀ m, m < 6 → ∀ s, s < 152 → ∀ x, x < s + 1 → (m + 2) ^ (m + 2) * (x * (s - x) ^ (m + 1)) ≤ (m + 1) ^ (m + 1) * s ^ (m + 2) := by decide +kernel
theorem amgm : ∀ (m : Nat) (s : Nat) (q : Nat → Int), m < 7 → s < 152 → (∀ i, i < m + 1 → 0 ≤ q i) → sm (m + 1) q ≤ (s : Int) → ((m + 1 : Nat) : Int) ^ (m + 1) * pr (m + 1) q ≤ (s : Int) ^ (m + 1)
  | 0, s, q, _, _, _, h => by
    have h : 0 + q 0 ≤ (s : Int) := h
    show ((0 + 1 : Nat) : Int) ^ (0 + 1) * (q 0 * 1) ≤ (s : Int) ^ (0 + 1)
    rw [Int.pow_succ, Int.pow_succ, Int.pow_zero, Int.pow_zero]
    simp
    omega
  | m + 1, s, q, hm, hs, hq, h => by
    rw [sm_first] at h
    obtain ⟨x, hx⟩ := Int.eq_ofNat_of_zero_le (hq 0 (by omega))
    have hnn : 0 ≤ sm (m + 1) (fun i => q (i + 1)) := sm_nonneg (fun i hi => hq (i + 1) (by omega))
    have hxs : x ≤ s := by omega
    have ih := amgm m (s - x) (fun i => q (i + 1)) (by omega) (by omega) (fun i hi => hq (i + 1) (by omega)) (by omega)
    have hc := am_chk m (by omega) s hs x (by omega)
    have hc' : (((m + 2) ^ (m + 2) * (x * (s - x) ^ (m + 1)) : Nat) : Int) ≤ (((m + 1) ^ (m + 1) * s ^ (m + 2) : Nat) : Int) := Int.ofNat_le.mpr hc
    simp only [Int.natCast_mul, Int.natCast_pow] at hc'
    have hp : (0 : Int) < ((m + 1 : Nat) : Int) ^ (m + 1) := Int.pow_pos (by omega)
    show ((m + 2 : Nat) : Int) ^ (m + 2) * (q 0 * pr (m + 1) (fun i => q (i + 1))) ≤ (s : Int) ^ (m + 2)
    rw [hx]
    generalize pr (m + 1) (fun i => q (i + 1)) = P at ih ⊢
    have e1 : ((m + 1 : Nat) : Int) ^ (m + 1) * (((m + 2 : Nat) : Int) ^ (m + 2) * ((x : Int) * P)) ≤ ((m + 1 : Nat) : Int) ^ (m + 1) * (s : Int) ^ (m + 2) := by
      have e2 : ((m + 1 : Nat) : Int) ^ (m + 1) * (((m + 2 : Nat) : Int) ^ (m + 2) * ((x : Int) * P)) = (((m + 2 : Nat) : Int) ^ (m + 2) * (x : Int)) * (((m + 1 : Nat) : Int) ^ (m + 1) * P) := by
        generalize ((m + 1 : Nat) : Int) ^ (m + 1) = a
        generalize ((m + 2 : Nat) : Int) ^ (m + 2) = b
        grind
      have hb : (0 : Int) ≤ ((m + 2 : Nat) : Int) ^ (m + 2) * (x : Int) := Int.mul_nonneg (Int.le_of_lt (Int.pow_pos (by omega))) (by omega)
      have e3 := Int.mul_le_mul_of_nonneg_left ih hb
      rw [e2]
      refine Int.le_trans e3 ?_
      rw [Int.mul_assoc]
      exact hc'
    exact Int.le_of_mul_le_mul_left e1 hp
theorem pr_sk : ∀ {m c : Nat} (q : Nat → Int), c < m + 1 → pr (m + 1) q = q c * pr m (fun i => q (sk c i))
  | m, 0, q, _ => by
    show q 0 * pr m (fun i => q (i + 1)) = q 0 * pr m (fun i => q (sk 0 i))
    rw [show (fun i => q (sk 0 i)) = (fun i => q (i + 1)) from funext fun i => by rw [sk_0]]
  | 0, c + 1, q, h => by omega
  | m + 1, c + 1, q, h => by
    have ih := pr_sk (m := m) (c := c) (fun i => q (i + 1)) (by omega)
    show q 0 * pr (m + 1) (fun i => q (i + 1)) = q (c + 1) * (q (sk (c + 1) 0) * pr m (fun i => q (sk (c + 1) (i + 1))))
    rw [ih, sk_lo (show 0 < c + 1 by omega)]
    have e : (fun i => q (sk (c + 1) (i + 1))) = (fun i => q (sk c i + 1)) := funext fun i => by
      rcases sk_cases c i with ⟨a, b⟩ | ⟨a, b⟩
      · rw [b, sk_lo (by omega)]
      · rw [b, sk_hi (by omega)]
    rw [e]
    show q 0 * (q (c + 1) * _) = _
    generalize pr m _ = P
    grind
theorem pr_le7 {n : Nat} {q : Nat → Int} (h7 : n ≤ 7) (hq : ∀ i, i < n → 0 ≤ q i) (hs : sm n q ≤ 151) : pr n q ≤ 2200000000 := by
  by_cases hn : n = 0
  · subst hn
    show (1 : Int) ≤ _
    omega
  obtain ⟨m, rfl⟩ : ∃ m, n = m + 1 := ⟨n - 1, by omega⟩
  have h := amgm m 151 q (by omega) (by omega) hq (by omega)
  rcases (show m = 0 ∨ m = 1 ∨ m = 2 ∨ m = 3 ∨ m = 4 ∨ m = 5 ∨ m = 6 by omega) with rfl | rfl | rfl | rfl | rfl | rfl | rfl <;> simp at h ⊢ <;> omega
theorem pr_le6 {n : Nat} {q : Nat → Int} (h7 : n ≤ 6) (hq : ∀ i, i < n → 0 ≤ q i) (hs : sm n q ≤ 151) : pr n q ≤ 255000000 := by
  by_cases hn : n = 0
  · subst hn
    show (1 : Int) ≤ _
    omega
  obtain ⟨m, rfl⟩ : ∃ m, n = m + 1 := ⟨n - 1, by omega⟩
  have h := amgm m 151 q (by omega) (by omega) hq (by omega)
  rcases (show m = 0 ∨ m = 1 ∨ m = 2 ∨ m = 3 ∨ m = 4 ∨ m = 5 by omega) with rfl | rfl | rfl | rfl | rfl | rfl <;> simp at h ⊢ <;> omega
theorem pr_le5 {n : Nat} {q : Nat → Int} (h7 : n ≤ 5) (hq : ∀ i, i < n → 0 ≤ q i) (hs : sm n q ≤ 151) : pr n q ≤ 25200000 := by
  by_cases hn : n = 0
  · subst hn
    show (1 : Int) ≤ _
    omega
  obtain ⟨m, rfl⟩ : ∃ m, n = m + 1 := ⟨n - 1, by omega⟩
  have h := amgm m 151 q (by omega) (by omega) hq (by omega)
  rcases (show m = 0 ∨ m = 1 ∨ m = 2 ∨ m = 3 ∨ m = 4 by omega) with rfl | rfl | rfl | rfl | rfl <;> simp at h ⊢ <;> omega
