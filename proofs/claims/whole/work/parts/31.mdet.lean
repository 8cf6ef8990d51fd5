/-! THE REFERENCE'S DETERMINANT answers dt -/
/-- the square holds M on m rows and columns -/
def sqI (m : Nat) (f : Nat → Int64) (M : Nat → Nat → Int) : Prop := ∀ r c, r < m → c < m → (f (7 * r + c)).toInt = M r c
theorem bnd_sq {m : Nat} {A : Nat → Nat → Int} {k : Nat} {ρ : Nat → Nat} {s d : Int} {sq : Nat → Nat → Int} {p : Nat → Int} (h : BI m A k ρ s d sq) (hm : m ≤ 6) (hρ : ∀ i, i < m → ρ i < m) (hA : ∀ c, c < m → bl m (fun i => A i c) (p c)) (hp : ∀ c, c < m → 1 ≤ p c) (hs : sm m p ≤ 151) {r c : Nat} (hkr : k ≤ r) (hr : r < m) (hkc : k ≤ c) (hc : c < m) : -255000000 ≤ sq r c ∧ sq r c ≤ 255000000 := by
  have hb := BI_bound hm hρ hA hp hs hr hkr hkc hc
  have h1 := h.2.2.2 r c hkr hr hkc hc
  have hss := h.1
  have : s = 1 ∨ s = -1 := by
    rcases Int.lt_trichotomy s 0 with q | q | q
    · right
      have : (s + 1) * (s - 1) = 0 := by grind
      rcases Int.mul_eq_zero.mp this with z | z <;> omega
    · subst q; simp at hss
    · left
      have : (s + 1) * (s - 1) = 0 := by grind
      rcases Int.mul_eq_zero.mp this with z | z <;> omega
  rcases this with e | e <;> rw [h1, e] <;> omega
theorem bnd_d {m : Nat} {A : Nat → Nat → Int} {k : Nat} {ρ : Nat → Nat} {p : Nat → Int} (hm : m ≤ 6) (hρ : ∀ i, i < m → ρ i < m) (hA : ∀ c, c < m → bl m (fun i => A i c) (p c)) (hp : ∀ c, c < m → 1 ≤ p c) (hs : sm m p ≤ 151) : -255000000 ≤ dt m (bk k ρ A) ∧ dt m (bk k ρ A) ≤ 255000000 := by
  let q : Nat → Int := fun j => if j < k then p j else 1
  have hq : ∀ j, j < m → bl m (fun i => bk k ρ A i j) (q j) := fun j hj => by
    show bl m _ (if j < k then p j else 1)
    by_cases e2 : j < k
    · rw [if_pos e2]
      exact bl_congr (hA j hj) (fun i _ => by simp [bk, e2])
    · rw [if_neg e2]
      exact bl_congr (bl_dl (hρ j hj)) (fun i _ => by simp [bk, e2])
  have hsum : sm m q ≤ sm m p := sm_le (fun j hj => by
    have := hp j hj
    show (if j < k then p j else 1) ≤ p j
    split <;> omega)
  have h1 := dt_bl hq
  have h2 := pr_le6 hm (fun i hi => bl_nonneg (hq i hi)) (by omega)
  omega
theorem swp_k {α : Type} (k r : Nat) (f : Nat → α) : swp k r f k = f r := by
  unfold swp
  by_cases e : k = r
  · rw [if_pos e, e]
  · rw [if_neg e, if_pos rfl]
theorem swp_r {α : Type} (k r : Nat) (f : Nat → α) : swp k r f r = f k := if_pos rfl
theorem swp_n {α : Type} {k r i : Nat} (f : Nat → α) (h1 : i ≠ k) (h2 : i ≠ r) : swp k r f i = f i := by
  unfold swp; rw [if_neg h2, if_neg h1]
section MDET
variable {K : Int64 → CS → MT → Prop} {c : CS} {t0 : MT} {m : Nat} {A : Nat → Nat → Int} {p : Nat → Int}
/-- the two inner loops: one column taken out -/
theorem det_out (L7 : Int64 → Int64 → Int32 → CS → MT → Prop) (hside : m_side t0 = nI m) (hm : m ≤ 6) (hA : ∀ c, c < m → bl m (fun i => A i c) (p c)) (hp : ∀ c, c < m → 1 ≤ p c) (hs : sm m p ≤ 151)
    {k : Nat} {ρ : Nat → Nat} {s d : Int} {sq : Nat → Nat → Int} (hB : BI m A k ρ s d sq) (hρ : ∀ i, i < m → ρ i < m) (hk : k + 1 < m) (hne : sq k k ≠ 0) (v1 v3 : Int64) (hv1 : v1.toInt = d) (f0 : Nat → Int64) (hf : ∀ r c, k ≤ r → r < m → k ≤ c → c < m → (f0 (7 * r + c)).toInt = sq r c)
    (hL : ∀ (v : Int64) (f : Nat → Int64), v.toInt = sq k k → (∀ r c, k + 1 ≤ r → r < m → k + 1 ≤ c → c < m → (f (7 * r + c)).toInt = bnx m A k ρ s r c) → L7 v v3 (nI (k + 1)) c (ms_square t0 f)) : nd_X6_determinant_150 K L7 v1 v3 (nI k) c (ms_square t0 f0) := by
  have hst := BI_step hB (by omega) hne
  have hd : -255000000 ≤ d ∧ d ≤ 255000000 := by
    have h1 := bnd_d (k := k) hm hρ hA hp hs
    have h2 := hB.2.2.1
    have hss := hB.1
    have : s = 1 ∨ s = -1 := by
      have : (s + 1) * (s - 1) = 0 := by grind
      rcases Int.mul_eq_zero.mp this with z | z <;> omega
    rcases this with e | e <;> rw [e] at h2 <;> omega
  have hnx : ∀ r c, k < r → r < m → k < c → c < m → -255000000 ≤ bnx m A k ρ s r c ∧ bnx m A k ρ s r c ≤ 255000000 := fun r c h1 h2 h3 h4 => bnd_sq hst.1 hm hρ hA hp hs h1 h2 h3 h4
  -- what stands in the square when all ahead of (r, c) is done
  let J : Nat → Nat → (Nat → Int64) → Prop := fun r c f => ∀ a b, k ≤ a → a < m → k ≤ b → b < m → (f (7 * a + b)).toInt = if k < a ∧ k < b ∧ (a < r ∨ (a = r ∧ b < c)) then bnx m A k ρ s a b else sq a b
  show ∃ n156 : Nat, nd_X6_determinant_156 K L7 n156 v1 v3 (nI k) (nI k + (1 : Int32)) c (ms_square t0 f0)
  rw [nI_a1]
  refine upto (fun n r (f : Nat → Int64) => nd_X6_determinant_156 K L7 n v1 v3 (nI k) (nI r) c (ms_square t0 f)) (fun r f => J r 0 f) m (k + 1) f0 (by omega) ?_ ?_ ?_
  · intro a b ha1 ha hb1 hb
    rw [hf a b ha1 ha hb1 hb, if_neg (by omega)]
  · intro n f hJ
    refine ⟨fun _ => ⟨?_, ?_⟩, fun h => absurd (show m_side t0 ≤ nI m from by rw [hside]; exact Int32.le_refl _) h⟩
    · rw [nI_7]; exact vi (by omega) (by omega)
    · rw [nI_7, cl_ (by omega), nI_1]
      refine hL _ f ?_ (fun r c h1 h2 h3 h4 => ?_)
      · show (f (7 * k + k)).toInt = _
        rw [hJ k k (Nat.le_refl _) (by omega) (Nat.le_refl _) (by omega), if_neg (by omega)]
      · rw [hJ r c (by omega) h2 (by omega) h4, if_pos (by omega)]
  · intro n r f hr hr0 hJ hW
    refine ⟨fun h => absurd h (by show ¬ m_side t0 ≤ nI r; rw [hside]; exact nI_ge hr (by omega)), fun _ => ?_⟩
    show ∃ n171 : Nat, nd_X6_determinant_171 K L7 _ n171 v1 v3 (nI k) (nI r) (nI k + (1 : Int32)) c (ms_square t0 f)
    rw [nI_a1]
    refine upto (fun n' j (f : Nat → Int64) => nd_X6_determinant_171 K L7 (fun v1 v3 v5 v7 c t => nd_X6_determinant_156 K L7 n v1 v3 v5 v7 c t) n' v1 v3 (nI k) (nI r) (nI j) c (ms_square t0 f)) (fun j f => J r j f) m (k + 1) f (by omega) ?_ ?_ ?_
    · intro a b ha1 ha hb1 hb
      rw [hJ a b ha1 ha hb1 hb]
      by_cases e : k < a ∧ k < b ∧ (a < r ∨ (a = r ∧ b < 0))
      · rw [if_pos e, if_pos (by omega)]
      · rw [if_neg e, if_neg (by omega)]
    · intro n' g hg
      refine ⟨fun _ => ?_, fun h => absurd (show m_side t0 ≤ nI m from by rw [hside]; exact Int32.le_refl _) h⟩
      show nd_X6_determinant_156 K L7 n v1 v3 (nI k) (nI r + 1) c (ms_square t0 g)
      rw [nI_1]
      refine hW g (fun a b ha1 ha hb1 hb => ?_)
      rw [hg a b ha1 ha hb1 hb]
      by_cases e : k < a ∧ k < b ∧ (a < r ∨ (a = r ∧ b < m))
      · rw [if_pos e, if_pos (by omega)]
      · rw [if_neg e, if_neg (by omega)]
    · intro n' j g hj hj0 hg hW'
      refine ⟨fun h => absurd h (by show ¬ m_side t0 ≤ nI j; rw [hside]; exact nI_ge hj (by omega)), fun _ => ?_⟩
      have i1 : vp_in (nI (7 * r + j)) 49 := vi (by omega) (by omega)
      have i2 : vp_in (nI (7 * k + k)) 49 := vi (by omega) (by omega)
      have i3 : vp_in (nI (7 * r + k)) 49 := vi (by omega) (by omega)
      have i4 : vp_in (nI (7 * k + j)) 49 := vi (by omega) (by omega)
      rw [nI_7, nI_7, nI_7, nI_7]
      refine ⟨i1, i2, i3, i4, ?_, i1, ?_⟩
      · intro e
        rw [e] at hv1
        exact hB.2.1 hv1.symm
      · rw [cl_ (by omega), cl_ (by omega), cl_ (by omega), cl_ (by omega)]
        show nd_X6_determinant_171 K L7 _ n' v1 v3 (nI k) (nI r) (nI j + 1) c (ms_square t0 (vp_updL g (7 * r + j) ((g (7 * r + j) * g (7 * k + k) - g (7 * r + k) * g (7 * k + j)) / v1)))
        rw [nI_1]
        refine hW' _ (fun a b ha1 ha hb1 hb => ?_)
        have x1 : (g (7 * r + j)).toInt = sq r j := by rw [hg r j (by omega) hr (by omega) hj, if_neg (by omega)]
        have x2 : (g (7 * k + k)).toInt = sq k k := by rw [hg k k (Nat.le_refl _) (by omega) (Nat.le_refl _) (by omega), if_neg (by omega)]
        have x3 : (g (7 * r + k)).toInt = sq r k := by rw [hg r k (by omega) hr (Nat.le_refl _) (by omega), if_neg (by omega)]
        have x4 : (g (7 * k + j)).toInt = sq k j := by rw [hg k j (Nat.le_refl _) (by omega) (by omega) hj, if_neg (by omega)]
        by_cases e : a = r ∧ b = j
        · obtain ⟨rfl, rfl⟩ := e
          rw [upL_s, if_pos (by omega)]
          have hex := hst.2 a b (by omega) hr (by omega) hj
          have hb2 := hnx a b (by omega) hr (by omega) hj
          have hprod : -9000000000000000000 ≤ d * bnx m A k ρ s a b ∧ d * bnx m A k ρ s a b ≤ 9000000000000000000 := by
            have hd1 := hd.1
            have hd2 := hd.2
            generalize bnx m A k ρ s a b = q at hb2 ⊢
            have hb3 := hb2.1
            have hb4 := hb2.2
            have u1 : 0 ≤ (255000000 - d) * (255000000 - q) := Int.mul_nonneg (by omega) (by omega)
            have u2 : 0 ≤ (255000000 + d) * (255000000 + q) := Int.mul_nonneg (by omega) (by omega)
            have u3 : 0 ≤ (255000000 - d) * (255000000 + q) := Int.mul_nonneg (by omega) (by omega)
            have u4 : 0 ≤ (255000000 + d) * (255000000 - q) := Int.mul_nonneg (by omega) (by omega)
            constructor <;> grind
          refine l_div (d := d) ?_ hv1 hB.2.1 (by omega) (by omega)
          rw [← hex]
          exact l_ms x1 x2 x3 x4 (by rw [hex]; exact hprod.1) (by rw [hex]; exact hprod.2)
        · rw [upL_n (by omega), hg a b ha1 ha hb1 hb]
          by_cases e2 : k < a ∧ k < b ∧ (a < r ∨ (a = r ∧ b < j))
          · rw [if_pos e2, if_pos (by omega)]
          · rw [if_neg e2, if_neg (by omega)]
/-- rows exchanged -/
theorem det_swap (L7 : Int64 → Int64 → Int32 → CS → MT → Prop) (hside : m_side t0 = nI m) (hm : m ≤ 6) {k r : Nat} (hkr : k < r) (hr : r < m) (v1 v3 : Int64) (f0 : Nat → Int64)
    (hN : ∀ f : Nat → Int64, (∀ a b, a < m → b < m → f (7 * a + b) = swp k r (fun a => f0 (7 * a + b)) a) → nd_X6_determinant_150 K L7 v1 v3 (nI k) c (ms_square t0 f)) : ∃ n79 : Nat, nd_X6_determinant_79 K L7 n79 v1 v3 (nI k) (nI r) (0 : Int32) c (ms_square t0 f0) := by
  refine upto (fun n j (f : Nat → Int64) => nd_X6_determinant_79 K L7 n v1 v3 (nI k) (nI r) (nI j) c (ms_square t0 f)) (fun j f => ∀ a b, a < m → b < m → f (7 * a + b) = if b < j then swp k r (fun a => f0 (7 * a + b)) a else f0 (7 * a + b)) m 0 f0 (by omega) ?_ ?_ ?_
  · intro a b _ _; rw [if_neg (by omega)]
  · intro n f hf
    refine ⟨fun _ => hN f (fun a b ha hb => by rw [hf a b ha hb, if_pos hb]), fun h => absurd (show m_side t0 ≤ nI m from by rw [hside]; exact Int32.le_refl _) h⟩
  · intro n j f hj _ hf hW
    refine ⟨fun h => absurd h (by show ¬ m_side t0 ≤ nI j; rw [hside]; exact nI_ge hj (by omega)), fun _ => ?_⟩
    rw [nI_7, nI_7]
    have i1 : vp_in (nI (7 * r + j)) 49 := vi (by omega) (by omega)
    have i2 : vp_in (nI (7 * k + j)) 49 := vi (by omega) (by omega)
    refine ⟨i1, i2, i1, i2, ?_⟩
    rw [cl_ (by omega), cl_ (by omega), nI_1]
    refine hW _ (fun a b ha hb => ?_)
    show vp_updL (vp_updL f (7 * r + j) (f (7 * k + j))) (7 * k + j) (f (7 * r + j)) (7 * a + b) = _
    by_cases e1 : a = k ∧ b = j
    · obtain ⟨rfl, rfl⟩ := e1
      rw [upL_s, if_pos (by omega), swp_k, hf r b hr hj, if_neg (by omega)]
    · rw [upL_n (by omega)]
      by_cases e2 : a = r ∧ b = j
      · obtain ⟨rfl, rfl⟩ := e2
        rw [upL_s, if_pos (by omega), swp_r, hf k b (by omega) hj, if_neg (by omega)]
      · rw [upL_n (by omega), hf a b ha hb]
        by_cases e3 : b < j
        · rw [if_pos e3, if_pos (by omega)]
        · rw [if_neg e3]
          by_cases e4 : b = j
          · subst e4
            rw [if_pos (by omega), swp_n _ (by omega) (by omega)]
          · rw [if_neg (by omega)]
theorem det_ok (hside : m_side t0 = nI m) (hm : m ≤ 6) (hA : ∀ c, c < m → bl m (fun i => A i c) (p c)) (hp : ∀ c, c < m → 1 ≤ p c) (hs : sm m p ≤ 151) (hsq : sqI m (m_square t0) A)
    (hK : ∀ (r : Int64) (f : Nat → Int64), r.toInt = dt m A → K r c (ms_square t0 f)) : wp_X6_determinant c t0 K := by
  show ∃ n7 : Nat, nd_X6_determinant_7 K n7 (1 : Int64) (1 : Int64) (nI 0) c (ms_square t0 (m_square t0))
  by_cases hm0 : m = 0
  · subst hm0
    refine ⟨1, fun _ => ⟨fun h => absurd hside h, fun _ => ?_⟩, fun h => absurd (show m_side t0 ≤ nI 0 + (1 : Int32) from by rw [hside]; decide) h⟩
    exact hK 1 _ rfl
  refine upto (fun n k (z : Int64 × Int64 × (Nat → Int64)) => nd_X6_determinant_7 K n z.1 z.2.1 (nI k) c (ms_square t0 z.2.2)) (fun k z => ∃ (ρ : Nat → Nat) (s d : Int) (sq : Nat → Nat → Int), BI m A k ρ s d sq ∧ (∀ i, i < m → ρ i < m) ∧ z.1.toInt = d ∧ z.2.1.toInt = s ∧ ∀ r c, k ≤ r → r < m → k ≤ c → c < m → (z.2.2 (7 * r + c)).toInt = sq r c) (m - 1) 0 (1, 1, m_square t0) (by omega) ?_ ?_ ?_
  · exact ⟨fun i => i, 1, 1, A, BI_0 m A, fun i h => h, rfl, rfl, fun r c _ hr _ hc => hsq r c hr hc⟩
  · rintro n ⟨v1, v3, f⟩ ⟨ρ, s, d, sq, hB, hρ, h1, h3, hf⟩
    obtain ⟨m', rfl⟩ : ∃ m', m = m' + 1 := ⟨m - 1, by omega⟩
    have e1 : m' + 1 - 1 = m' := by omega
    simp only [e1] at *
    refine ⟨fun _ => ⟨fun _ => ?_, fun h => absurd (show nI (m' + 1) = nI 0 from by rw [← hside]; exact h) (by rw [nI_eq (by omega) (by omega)]; omega)⟩, fun h => absurd (show m_side t0 ≤ nI m' + (1 : Int32) from by rw [hside, nI_a1]; exact Int32.le_refl _) h⟩
    show vp_in ((8 : Int32) * ((m_side t0) - (1 : Int32))) 49 ∧ K (v3 * f (((8 : Int32) * ((m_side t0) - (1 : Int32))).toNatClampNeg)) c (ms_square t0 f)
    have e2 : (8 : Int32) * ((m_side t0) - (1 : Int32)) = nI (7 * m' + m') := by
      rw [hside, show (1 : Int32) = nI 1 from rfl, pk_sub (by omega), show (8 : Int32) = nI 8 from rfl, pk_mul]
      congr 1; omega
    rw [e2, cl_ (by omega)]
    refine ⟨vi (by omega) (by omega), hK _ f ?_⟩
    rw [BI_end hB]
    have hb := bnd_sq hB hm hρ hA hp hs (Nat.le_refl m') (by omega) (Nat.le_refl m') (by omega)
    have hss := hB.1
    have hs1 : s = 1 ∨ s = -1 := by
      have : (s + 1) * (s - 1) = 0 := by grind
      rcases Int.mul_eq_zero.mp this with z | z <;> omega
    exact l_mul h3 (hf m' m' (Nat.le_refl _) (by omega) (Nat.le_refl _) (by omega)) (by rcases hs1 with e | e <;> rw [e] <;> omega) (by rcases hs1 with e | e <;> rw [e] <;> omega)
  · rintro n k ⟨v1, v3, f⟩ hk _ ⟨ρ, s, d, sq, hB, hρ, h1, h3, hf⟩ hW
    simp only at h1 h3 hf
    have hss := hB.1
    have hs1 : s = 1 ∨ s = -1 := by
      have : (s + 1) * (s - 1) = 0 := by grind
      rcases Int.mul_eq_zero.mp this with z | z <;> omega
    refine ⟨fun h => absurd h (by show ¬ m_side t0 ≤ nI k + (1 : Int32); rw [hside, nI_a1]; exact nI_ge (by omega) (by omega)), fun _ => ?_⟩
    -- the first row with something in the column
    refine upto (fun n' r (_ : Unit) => nd_X6_determinant_22 K (fun v1 v3 v5 c t => nd_X6_determinant_7 K n v1 v3 v5 c t) n' v1 v3 (nI k) (nI r) c (ms_square t0 f)) (fun r _ => ∀ a, k ≤ a → a < r → sq a k = 0) m k () (by omega) (fun a _ _ => by omega) ?_ ?_
    · intro n' _ hz
      refine ⟨fun _ => ⟨fun h => absurd hside.symm h, fun _ => ?_⟩, fun h => absurd (show m_side t0 ≤ nI m from by rw [hside]; exact Int32.le_refl _) h⟩
      exact hK 0 f (by rw [BI_zero hB (by omega) (fun r h1 h2 => hz r h1 h2)]; rfl)
    · intro n' r _ hr hr0 hz hW'
      refine ⟨fun h => absurd h (by show ¬ m_side t0 ≤ nI r; rw [hside]; exact nI_ge hr (by omega)), fun _ => ?_⟩
      rw [nI_7, cl_ (by omega)]
      refine ⟨vi (by omega) (by omega), fun hne => ?_, fun he => ?_⟩
      · have hne2 : sq r k ≠ 0 := fun e => hne (l_inj (by
          show (f (7 * r + k)).toInt = 0
          rw [hf r k hr0 hr (Nat.le_refl _) (by omega), e]))
        refine ⟨fun _ => ⟨fun e => ?_, fun hrk => ?_⟩, fun h => absurd (show nI r = nI m from by rw [← hside]; exact h) (by rw [nI_eq (by omega) (by omega)]; omega)⟩
        · have e2 : r = k := (nI_eq (by omega) (by omega)).mp e
          subst e2
          exact det_out _ hside hm hA hp hs hB hρ (by omega) hne2 v1 v3 h1 f hf (fun v g hv hg => hW (v, v3, g) ⟨ρ, s, sq r r, bnx m A r ρ s, (BI_step hB (by omega) hne2).1, hρ, hv, h3, fun a b q1 q2 q3 q4 => hg a b q1 q2 q3 q4⟩)
        · have hrk2 : k < r := by
            rcases Nat.lt_or_ge k r with q | q
            · exact q
            · exact absurd (show nI r = nI k from by rw [show r = k by omega]) hrk
          refine det_swap _ hside hm hrk2 hr v1 (-v3) f (fun g hg => ?_)
          have hB2 := BI_swap hB hrk2 hr
          have hρ2 : ∀ i, i < m → swp k r ρ i < m := fun i hi => by
            unfold swp
            split
            · exact hρ k (by omega)
            · split
              · exact hρ r hr
              · exact hρ i hi
          have hsk : swp k r sq k k = sq r k := congrFun (swp_k k r sq) k
          refine det_out _ hside hm hA hp hs hB2 hρ2 (by omega) (by rw [hsk]; exact hne2) v1 (-v3) h1 g (fun a b q1 q2 q3 q4 => ?_) (fun v g' hv hg' => hW (v, -v3, g') ⟨swp k r ρ, -s, swp k r sq k k, bnx m A k (swp k r ρ) (-s), (BI_step hB2 (by omega) (by rw [hsk]; exact hne2)).1, hρ2, hv, l_neg h3 (by rcases hs1 with e | e <;> rw [e] <;> omega) (by rcases hs1 with e | e <;> rw [e] <;> omega), fun a b q1 q2 q3 q4 => hg' a b q1 q2 q3 q4⟩)
          rw [hg a b q2 q4]
          unfold swp
          by_cases e1 : a = r
          · rw [if_pos e1, if_pos e1]; exact hf k b (Nat.le_refl _) (by omega) q3 q4
          · rw [if_neg e1, if_neg e1]
            by_cases e2 : a = k
            · rw [if_pos e2, if_pos e2]; exact hf r b hr0 hr q3 q4
            · rw [if_neg e2, if_neg e2]; exact hf a b q1 q2 q3 q4
      · rw [nI_1]
        refine hW' () (fun a h1 h2 => ?_)
        by_cases e : a = r
        · subst e
          rw [← hf a k h1 hr (Nat.le_refl _) (by omega)]
          show (f (7 * a + k)).toInt = 0
          rw [show f (7 * a + k) = 0 from he]; rfl
        · exact hz a h1 (by omega)
end MDET
