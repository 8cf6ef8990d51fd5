/-! DETERMINANTS, further: expansion, transposing, the adjugate, two columns anew, bounds -/
theorem sk_0 (i : Nat) : sk 0 i = i + 1 := sk_hi (Nat.zero_le i)
theorem sm_sk' {m c : Nat} (hc : c < m + 1) (f : Nat → Int) : sm (m + 1) f = f c + sm m (fun j => f (sk c j)) := by
  have h := sm_sk hc (fun j => if j = c then 0 else f j) (if_pos rfl)
  have h1 : sm (m + 1) f = sm (m + 1) (fun j => if j = c then 0 else f j) + sm (m + 1) (fun j => if j = c then f c else 0) := by
    rw [← sm_add]
    refine sm_congr (fun i _ => ?_)
    by_cases e : i = c
    · subst e; simp
    · simp [e]
  rw [h1, h, sm_one (f := fun j => if j = c then f c else 0) hc (fun i _ hne => if_neg hne), if_pos rfl]
  have h2 : sm m (fun j => if sk c j = c then 0 else f (sk c j)) = sm m (fun j => f (sk c j)) := sm_congr (fun i _ => if_neg (sk_ne c i))
  rw [h2]; omega
theorem sm_two {n i k : Nat} {f : Nat → Int} (hi : i < n) (hk : k < n) (hne : i ≠ k) (h : ∀ c, c < n → c ≠ i → c ≠ k → f c = 0) : sm n f = f i + f k := by
  have e : sm n f = sm n (fun c => if c = i then f i else 0) + sm n (fun c => if c = k then f k else 0) := by
    rw [← sm_add]
    refine sm_congr (fun c hc => ?_)
    by_cases e1 : c = i
    · subst e1; simp [hne]
    · by_cases e2 : c = k
      · subst e2; simp [e1]
      · rw [h c hc e1 e2, if_neg e1, if_neg e2]; rfl
  rw [e, sm_one (f := fun c => if c = i then f i else 0) hi (fun c _ hc => if_neg hc), sm_one (f := fun c => if c = k then f k else 0) hk (fun c _ hc => if_neg hc), if_pos rfl, if_pos rfl]
theorem dt_zc {m : Nat} {A : Nat → Nat → Int} {c : Nat} (hc : c < m) (h : ∀ i, i < m → A i c = 0) : dt m A = 0 := by
  rw [← sc_self A c]
  exact dt_zcol A hc h
/-- a column that is a unit -/
theorem dt_unit : ∀ {r m : Nat} {A : Nat → Nat → Int} {c : Nat}, r < m + 1 → c < m + 1 → (∀ i, i < m + 1 → A i c = if i = r then 1 else 0) → dt (m + 1) A = sg (r + c) * dt m (mn r c A)
  | 0, m, A, c, hr, hc, h => by
    rw [dt_succ, sm_one hc (fun j hj hne => ?_)]
    · rw [h 0 (by omega), if_pos rfl, Nat.zero_add, Int.mul_one]
    · have : dt m (mn 0 j A) = 0 := by
        refine dt_zc (c := if c < j then c else c - 1) (by split <;> omega) (fun i hi => ?_)
        show A (sk 0 i) (sk j (if c < j then c else c - 1)) = 0
        have e : sk j (if c < j then c else c - 1) = c := by
          split
          · exact sk_lo (by omega)
          · rw [sk_hi (by omega)]; omega
        rw [e, sk_0, h (i + 1) (by omega), if_neg (by omega)]
      rw [this, Int.mul_zero]
  | r + 1, m, A, c, hr, hc, h => by
    obtain ⟨m', rfl⟩ : ∃ m', m = m' + 1 := ⟨m - 1, by omega⟩
    rw [dt_succ, sm_sk hc _ (by rw [h 0 (by omega), if_neg (by omega)]; simp), dt_succ, ← sm_mul]
    refine sm_congr (fun j' hj => ?_)
    have hcc := sk_cases c j'
    have ih := dt_unit (r := r) (m := m') (A := mn 0 (sk c j') A) (c := if c < sk c j' then c else c - 1) (by omega) (by rcases hcc with ⟨a, b⟩ | ⟨a, b⟩ <;> split <;> omega) (fun i hi => by
      show A (sk 0 i) (sk (sk c j') (if c < sk c j' then c else c - 1)) = _
      have e : sk (sk c j') (if c < sk c j' then c else c - 1) = c := by
        split
        · exact sk_lo (by omega)
        · rw [sk_hi (by omega)]; omega
      rw [e, sk_0, h (i + 1) (by omega)]
      by_cases q : i = r
      · rw [if_pos q, if_pos (by omega)]
      · rw [if_neg q, if_neg (by omega)])
    rw [ih]
    have em : dt m' (mn r (if c < sk c j' then c else c - 1) (mn 0 (sk c j') A)) = dt m' (mn 0 j' (mn (r + 1) c A)) := dt_congr (fun a b ha hb => by
      show A (sk 0 (sk r a)) (sk (sk c j') (sk (if c < sk c j' then c else c - 1) b)) = A (sk (r + 1) (sk 0 a)) (sk c (sk j' b))
      have e1 : sk 0 (sk r a) = sk (r + 1) (sk 0 a) := by
        rw [sk_0, sk_0]
        rcases sk_cases r a with ⟨x, y⟩ | ⟨x, y⟩
        · rw [y, sk_lo (by omega)]
        · rw [y, sk_hi (by omega)]
      have e2 : sk (sk c j') (sk (if c < sk c j' then c else c - 1) b) = sk c (sk j' b) := by
        rcases hcc with ⟨x, y⟩ | ⟨x, y⟩
        · rw [y, if_neg (by omega)]
          rcases sk_cases (c - 1) b with ⟨x1, y1⟩ | ⟨x1, y1⟩ <;> rcases sk_cases j' b with ⟨x2, y2⟩ | ⟨x2, y2⟩ <;> rw [y1, y2]
          · rcases sk_cases j' b with ⟨x3, y3⟩ | ⟨x3, y3⟩ <;> rcases sk_cases c b with ⟨x4, y4⟩ | ⟨x4, y4⟩ <;> omega
          · rcases sk_cases j' b with ⟨x3, y3⟩ | ⟨x3, y3⟩ <;> rcases sk_cases c (b + 1) with ⟨x4, y4⟩ | ⟨x4, y4⟩ <;> omega
          · omega
          · rcases sk_cases j' (b + 1) with ⟨x3, y3⟩ | ⟨x3, y3⟩ <;> rcases sk_cases c (b + 1) with ⟨x4, y4⟩ | ⟨x4, y4⟩ <;> omega
        · rw [y, if_pos (by omega)]
          rcases sk_cases c b with ⟨x1, y1⟩ | ⟨x1, y1⟩ <;> rcases sk_cases j' b with ⟨x2, y2⟩ | ⟨x2, y2⟩ <;> rw [y1, y2]
          · rcases sk_cases (j' + 1) b with ⟨x3, y3⟩ | ⟨x3, y3⟩ <;> rcases sk_cases c b with ⟨x4, y4⟩ | ⟨x4, y4⟩ <;> omega
          · omega
          · rcases sk_cases (j' + 1) (b + 1) with ⟨x3, y3⟩ | ⟨x3, y3⟩ <;> rcases sk_cases c b with ⟨x4, y4⟩ | ⟨x4, y4⟩ <;> omega
          · rcases sk_cases (j' + 1) (b + 1) with ⟨x3, y3⟩ | ⟨x3, y3⟩ <;> rcases sk_cases c (b + 1) with ⟨x4, y4⟩ | ⟨x4, y4⟩ <;> omega
      rw [e1, e2])
    rw [em]
    have e0 : mn (r + 1) c A 0 j' = A 0 (sk c j') := by
      show A (sk (r + 1) 0) (sk c j') = _
      rw [sk_lo (by omega)]
    rw [e0]
    have es : sg (sk c j') * sg (r + (if c < sk c j' then c else c - 1)) = sg (r + 1 + c) * sg j' := by
      rcases hcc with ⟨x, y⟩ | ⟨x, y⟩
      · rw [y, if_neg (by omega)]
        have : r + 1 + c = (r + (c - 1)) + 1 + 1 := by omega
        rw [this]
        show _ = - - sg (r + (c - 1)) * sg j'
        rw [Int.neg_neg, Int.mul_comm]
      · rw [y, if_pos (by omega)]
        have : r + 1 + c = (r + c) + 1 := by omega
        rw [this]
        show - sg j' * _ = - sg (r + c) * sg j'
        grind
    generalize sg (sk c j') = s1 at es ⊢
    generalize sg (r + (if c < sk c j' then c else c - 1)) = s2 at es ⊢
    generalize sg (r + 1 + c) = s3 at es ⊢
    generalize sg j' = s4 at es ⊢
    generalize dt m' _ = D
    generalize A 0 (sk c j') = a0
    grind
theorem dt_col {m : Nat} (A : Nat → Nat → Int) {c : Nat} (hc : c < m + 1) : dt (m + 1) A = sm (m + 1) (fun s => A s c * (sg (s + c) * dt m (mn s c A))) := by
  have e : dt (m + 1) A = dt (m + 1) (sc A c (fun i => sm (m + 1) (fun s => A s c * (if i = s then 1 else 0)))) := dt_congr (fun i j hi hj => by
    unfold sc
    split
    · rename_i q
      subst q
      show A i j = sm (m + 1) (fun s => A s j * if i = s then 1 else 0)
      rw [sm_one hi (fun s _ hne => by rw [if_neg (Ne.symm hne), Int.mul_zero]), if_pos rfl, Int.mul_one]
    · rfl)
  rw [e, dt_smc A hc (fun s => A s c) (fun i s => if i = s then 1 else 0)]
  refine sm_congr (fun s hs => ?_)
  rw [dt_unit (r := s) (c := c) hs hc (fun i hi => by simp [sc]), mn_sc_same]
theorem dt_tr : ∀ (m : Nat) (A : Nat → Nat → Int), dt m (fun i j => A j i) = dt m A
  | 0, _ => rfl
  | m + 1, A => by
    rw [dt_succ, dt_col A (c := 0) (by omega)]
    refine sm_congr (fun j hj => ?_)
    have h := dt_tr m (mn j 0 A)
    have e : mn 0 j (fun i j => A j i) = (fun a b => mn j 0 A b a) := rfl
    rw [e, h, Nat.add_zero]
    show sg j * A j 0 * _ = _
    grind
theorem dt_row {m : Nat} (A : Nat → Nat → Int) {r : Nat} (hr : r < m + 1) : dt (m + 1) A = sm (m + 1) (fun c => A r c * (sg (r + c) * dt m (mn r c A))) := by
  rw [← dt_tr, dt_col _ hr]
  refine sm_congr (fun c hc => ?_)
  have h := dt_tr m (mn r c A)
  have e : mn c r (fun i j => A j i) = (fun a b => mn r c A b a) := rfl
  rw [e, h, Nat.add_comm]
theorem dt_tworow {m : Nat} {A : Nat → Nat → Int} {r s : Nat} (hr : r < m) (hs : s < m) (hne : r ≠ s) (h : ∀ j, j < m → A r j = A s j) : dt m A = 0 := by
  rw [← dt_tr]
  exact dt_two hr hs hne h
theorem dt_alien {m : Nat} (B : Nat → Nat → Int) {r s : Nat} (hr : r < m + 1) (hs : s < m + 1) : sm (m + 1) (fun c => B r c * (sg (s + c) * dt m (mn s c B))) = if s = r then dt (m + 1) B else 0 := by
  by_cases e : s = r
  · subst e
    rw [if_pos rfl, ← dt_row B hs]
  · rw [if_neg e]
    have h := dt_row (fun i j => if i = s then B r j else B i j) hs
    rw [dt_tworow (r := s) (s := r) hs hr e (fun j _ => by simp [Ne.symm e])] at h
    rw [h]
    refine sm_congr (fun c _ => ?_)
    have : mn s c (fun i j => if i = s then B r j else B i j) = mn s c B := by
      funext a b
      exact if_neg (sk_ne s a)
    rw [this]
    simp
/-- THE ADJUGATE -/
theorem dt_adj {m : Nat} (B : Nat → Nat → Int) (y : Nat → Int) {r : Nat} (hr : r < m) : sm m (fun c => dt m (sc B c y) * B r c) = dt m B * y r := by
  obtain ⟨m, rfl⟩ : ∃ k, m = k + 1 := ⟨m - 1, by omega⟩
  have h1 : ∀ c, c < m + 1 → dt (m + 1) (sc B c y) * B r c = sm (m + 1) (fun s => y s * (B r c * (sg (s + c) * dt m (mn s c B)))) := fun c hc => by
    rw [dt_col (sc B c y) hc, ← sm_mulr]
    refine sm_congr (fun s _ => ?_)
    rw [mn_sc_same, show sc B c y s c = y s from if_pos rfl]
    grind
  rw [sm_congr h1, sm_swap, sm_congr (fun s hs => by rw [sm_mul, dt_alien B hr hs]), sm_one hr (fun s _ hne => by rw [if_neg hne, Int.mul_zero]), if_pos rfl, Int.mul_comm]
/-- TWO COLUMNS ANEW -/
theorem dt_P {m : Nat} (B : Nat → Nat → Int) {k i : Nat} (hk : k < m) (hi : i < m) (hne : i ≠ k) (x y : Nat → Int) : dt m B * dt m (sc (sc B k x) i y) = dt m (sc B k x) * dt m (sc B i y) - dt m (sc B k y) * dt m (sc B i x) := by
  have h0 : dt m B * dt m (sc (sc B k x) i y) = dt m (sc (sc B k x) i (fun r => sm m (fun c => dt m (sc B c y) * B r c))) := by
    rw [← dt_mulc _ hi]
    refine dt_congr (fun a b ha hb => ?_)
    show (if b = i then _ else _) = (if b = i then _ else _)
    split
    · exact (dt_adj B y ha).symm
    · rfl
  rw [h0, dt_smc _ hi, sm_two hi hk hne (fun c hc h1 h2 => ?_)]
  · have e1 : sc (sc B k x) i (fun r => B r i) = sc B k x := by
      rw [sc_comm B (Ne.symm hne), sc_self]
    have e2 : dt m (sc (sc B k x) i (fun r => B r k)) = - dt m (sc B i x) := by
      rw [dt_swap B hk hi (Ne.symm hne), sc_self]
    rw [e1, e2]
    grind
  · have h9 : dt m (sc (sc B k x) i (fun r => B r c)) = 0 := dt_two (c := i) (d := c) hi hc (Ne.symm h1) (fun a ha => by simp [sc, h1, h2])
    show dt m (sc B c y) * dt m (sc (sc B k x) i (fun r => B r c)) = 0
    rw [h9, Int.mul_zero]
theorem sg_dbl (a : Nat) : sg (a + a) = 1 := by rw [sg_add, sg_sq]
/-- one number more, its column a unit -/
theorem dt_ins {m c : Nat} {A : Nat → Nat → Int} (hc : c < m + 1) (h : ∀ i, i < m + 1 → A i c = if i = c then 1 else 0) : dt (m + 1) A = dt m (mn c c A) := by
  rw [dt_unit hc hc h, sg_dbl, Int.one_mul]
-- bounds
def pz (a : Int) : Int := if 0 ≤ a then a else 0
theorem pz_nonneg (a : Int) : 0 ≤ pz a := by unfold pz; split <;> omega
theorem pz_add (a b : Int) : pz (a + b) ≤ pz a + pz b := by unfold pz; split <;> split <;> split <;> omega
theorem pz_split (a : Int) : a = pz a - pz (-a) := by unfold pz; split <;> split <;> omega
def pr : Nat → (Nat → Int) → Int
  | 0, _ => 1
  | n + 1, p => p 0 * pr n (fun i => p (i + 1))
theorem pr_nonneg : ∀ {n : Nat} {p : Nat → Int}, (∀ i, i < n → 0 ≤ p i) → 0 ≤ pr n p
  | 0, _, _ => by show (0 : Int) ≤ 1; omega
  | n + 1, p, h => Int.mul_nonneg (h 0 (by omega)) (pr_nonneg (fun i hi => h (i + 1) (by omega)))
/-- balanced by p: what is above 0, and what is below, comes to p at most -/
def bl (m : Nat) (f : Nat → Int) (p : Int) : Prop := sm m (fun j => pz (f j)) ≤ p ∧ sm m (fun j => pz (- f j)) ≤ p
theorem bl_nonneg {m : Nat} {f : Nat → Int} {p : Int} (h : bl m f p) : 0 ≤ p := Int.le_trans (sm_nonneg (fun i _ => pz_nonneg (f i))) h.1
theorem hi_ex (C : Nat → Int) : ∀ n, ∃ hi : Int, (hi = 0 ∨ ∃ i, i < n ∧ hi = C i) ∧ 0 ≤ hi ∧ ∀ i, i < n → C i ≤ hi
  | 0 => ⟨0, Or.inl rfl, by omega, fun i hi => by omega⟩
  | n + 1 => by
    obtain ⟨hi, h1, h2, h3⟩ := hi_ex C n
    by_cases q : C n ≤ hi
    · refine ⟨hi, ?_, h2, fun i hi' => ?_⟩
      · rcases h1 with h | ⟨i, a, b⟩
        · exact Or.inl h
        · exact Or.inr ⟨i, by omega, b⟩
      · by_cases e : i = n
        · subst e; exact q
        · exact h3 i (by omega)
    · refine ⟨C n, Or.inr ⟨n, by omega, rfl⟩, by omega, fun i hi' => ?_⟩
      by_cases e : i = n
      · subst e; omega
      · have := h3 i (by omega); omega
theorem lin_bound {n : Nat} {a C : Nat → Int} {p Q : Int} (hb : bl n a p) (hQ : 0 ≤ Q) (h1 : ∀ i, i < n → - Q ≤ C i ∧ C i ≤ Q) (h2 : ∀ i j, i < n → j < n → C j - C i ≤ Q) : sm n (fun i => a i * C i) ≤ p * Q ∧ - (p * Q) ≤ sm n (fun i => a i * C i) := by
  obtain ⟨hi, a1, a2, a3⟩ := hi_ex C n
  obtain ⟨lo, b1, b2, b3⟩ := hi_ex (fun i => - C i) n
  have hd : hi + lo ≤ Q := by
    rcases a1 with a | ⟨i, x, y⟩ <;> rcases b1 with b | ⟨j, z, w⟩
    · omega
    · have := h1 j z; omega
    · have := h1 i x; omega
    · have := h2 j i z x; omega
  have hp := bl_nonneg hb
  have hpQ : p * (hi + lo) ≤ p * Q := Int.mul_le_mul_of_nonneg_left hd hp
  have up : sm n (fun i => a i * C i) ≤ sm n (fun i => pz (a i) * hi + pz (- a i) * lo) := sm_le (fun i hi' => by
    have e := pz_split (a i)
    have x1 := Int.mul_le_mul_of_nonneg_left (a3 i hi') (pz_nonneg (a i))
    have x2 := Int.mul_le_mul_of_nonneg_left (b3 i hi') (pz_nonneg (- a i))
    have e2 : a i * C i = pz (a i) * C i + pz (- a i) * - C i := by
      conv => lhs; rw [e]
      grind
    rw [e2]; omega)
  have dn : sm n (fun i => - (pz (a i) * lo + pz (- a i) * hi)) ≤ sm n (fun i => a i * C i) := sm_le (fun i hi' => by
    have e := pz_split (a i)
    have x1 := Int.mul_le_mul_of_nonneg_left (a3 i hi') (pz_nonneg (- a i))
    have x2 := Int.mul_le_mul_of_nonneg_left (b3 i hi') (pz_nonneg (a i))
    have e2 : a i * C i = - (pz (a i) * - C i + pz (- a i) * C i) := by
      conv => lhs; rw [e]
      grind
    rw [e2]; omega)
  rw [sm_add, sm_mulr, sm_mulr] at up
  rw [sm_neg, sm_add, sm_mulr, sm_mulr] at dn
  have m1 := Int.mul_le_mul_of_nonneg_right hb.1 a2
  have m2 := Int.mul_le_mul_of_nonneg_right hb.2 b2
  have m3 := Int.mul_le_mul_of_nonneg_right hb.1 b2
  have m4 := Int.mul_le_mul_of_nonneg_right hb.2 a2
  rw [Int.mul_add] at hpQ
  constructor <;> omega
theorem bl_sub {m : Nat} {f : Nat → Int} {p : Int} (h : bl (m + 1) f p) {c : Nat} (hc : c < m + 1) : bl m (fun j => f (sk c j)) p := by
  have h1 := sm_sk' hc (fun j => pz (f j))
  have h2 := sm_sk' hc (fun j => pz (- f j))
  have a1 := pz_nonneg (f c)
  have a2 := pz_nonneg (- f c)
  have b1 := h.1
  have b2 := h.2
  exact ⟨by show sm m (fun j => pz (f (sk c j))) ≤ p; omega, by show sm m (fun j => pz (- f (sk c j))) ≤ p; omega⟩
theorem sm_mrg {m i j : Nat} (hi : i < j) (hj : j < m + 1) (F : Nat → Int) (z : Int) : sm m (fun a => F (sk j a) + if a = i then z else 0) = sm (m + 1) F - F j + z := by
  rw [sm_add, sm_one (f := fun a => if a = i then z else 0) (k := i) (by omega) (fun a _ hne => if_neg hne), if_pos rfl]
  have := sm_sk' hj F
  omega
theorem bl_mrg {m : Nat} {f : Nat → Int} {p : Int} (h : bl (m + 1) f p) {i j : Nat} (hi : i < j) (hj : j < m + 1) : bl m (fun a => if a = i then f i + f j else f (sk j a)) p := by
  have e1 := sm_mrg hi hj (fun k => pz (f k)) (pz (f j))
  have e2 := sm_mrg hi hj (fun k => pz (- f k)) (pz (- f j))
  have l1 : sm m (fun a => pz (if a = i then f i + f j else f (sk j a))) ≤ sm m (fun a => pz (f (sk j a)) + if a = i then pz (f j) else 0) := sm_le (fun a _ => by
    by_cases q : a = i
    · subst q
      rw [if_pos rfl, if_pos rfl, sk_lo hi]
      exact pz_add _ _
    · rw [if_neg q, if_neg q]; omega)
  have l2 : sm m (fun a => pz (- if a = i then f i + f j else f (sk j a))) ≤ sm m (fun a => pz (- f (sk j a)) + if a = i then pz (- f j) else 0) := sm_le (fun a _ => by
    by_cases q : a = i
    · subst q
      rw [if_pos rfl, if_pos rfl, sk_lo hi, Int.neg_add]
      exact pz_add _ _
    · rw [if_neg q, if_neg q]; omega)
  have b1 := h.1
  have b2 := h.2
  exact ⟨by show sm m (fun a => pz (if a = i then f i + f j else f (sk j a))) ≤ p; omega, by show sm m (fun a => pz (- if a = i then f i + f j else f (sk j a))) ≤ p; omega⟩
/-- BALANCED ROWS -/
theorem dt_blr : ∀ {m : Nat} {A : Nat → Nat → Int} {p : Nat → Int}, (∀ r, r < m → bl m (A r) (p r)) → dt m A ≤ pr m p ∧ - pr m p ≤ dt m A
  | 0, _, _, _ => by show (1 : Int) ≤ 1 ∧ -(1 : Int) ≤ 1; omega
  | m + 1, A, p, h => by
    have hQ : 0 ≤ pr m (fun i => p (i + 1)) := pr_nonneg (fun i hi => bl_nonneg (h (i + 1) (by omega)))
    have hC : ∀ j, j < m + 1 → - pr m (fun i => p (i + 1)) ≤ sg j * dt m (mn 0 j A) ∧ sg j * dt m (mn 0 j A) ≤ pr m (fun i => p (i + 1)) := fun j hj => by
      have ih := dt_blr (m := m) (A := mn 0 j A) (p := fun i => p (i + 1)) (fun r hr => by
        show bl m (fun b => A (sk 0 r) (sk j b)) _
        rw [sk_0]
        exact bl_sub (h (r + 1) (by omega)) hj)
      rcases sg_cases j with e | e <;> rw [e] <;> omega
    have hd : ∀ i j, i < j → j < m + 1 → - pr m (fun i => p (i + 1)) ≤ sg j * dt m (mn 0 j A) - sg i * dt m (mn 0 i A) ∧ sg j * dt m (mn 0 j A) - sg i * dt m (mn 0 i A) ≤ pr m (fun i => p (i + 1)) := fun i j hij hj => by
      let R : Nat → Nat → Int := fun a b => if a = 0 then (if b = j then 1 else if b = i then -1 else 0) else A a b
      have e0 : ∀ k, mn 0 k R = mn 0 k A := fun k => by
        funext a b
        have z : ¬ sk 0 a = 0 := by rw [sk_0]; omega
        have hR : ∀ u v, ¬ u = 0 → R u v = A u v := fun u v hu => if_neg hu
        exact hR _ _ z
      have e1 : dt (m + 1) R = sg j * dt m (mn 0 j A) - sg i * dt m (mn 0 i A) := by
        rw [dt_succ, sm_two (i := j) (k := i) hj (by omega) (by omega) (fun c hc h1 h2 => by
          have : R 0 c = 0 := by simp [R, h1, h2]
          rw [this]; simp), e0, e0]
        have r1 : R 0 j = 1 := by simp [R]
        have r2 : R 0 i = -1 := by simp [R, show i ≠ j by omega]
        rw [r1, r2]; grind
      have e2 : dt (m + 1) (sc R i (fun a => R a i + R a j)) = dt (m + 1) R := by
        rw [dt_addc R (by omega), sc_self, dt_two (A := sc R i (fun a => R a j)) (c := i) (d := j) (by omega) hj (by omega) (fun a _ => by simp [sc, show j ≠ i by omega])]
        omega
      have e3 : dt (m + 1) (sc R i (fun a => R a i + R a j)) = sg j * dt m (mn 0 j (sc R i (fun a => R a i + R a j))) := by
        rw [dt_succ, sm_one hj (fun c hc hne => by
          have : sc R i (fun a => R a i + R a j) 0 c = 0 := by
            by_cases q : c = i
            · subst q; simp [sc, R, hne]
            · simp [sc, R, q, hne]
          rw [this]; simp)]
        have : sc R i (fun a => R a i + R a j) 0 j = 1 := by simp [sc, R, show j ≠ i by omega]
        rw [this]; simp
      have ih := dt_blr (m := m) (A := mn 0 j (sc R i (fun a => R a i + R a j))) (p := fun i => p (i + 1)) (fun r hr => by
        have e4 : mn 0 j (sc R i (fun a => R a i + R a j)) r = (fun b => if b = i then A (r + 1) i + A (r + 1) j else A (r + 1) (sk j b)) := by
          funext b
          show (if sk j b = i then R (sk 0 r) i + R (sk 0 r) j else R (sk 0 r) (sk j b)) = _
          have e5 : ∀ k, R (sk 0 r) k = A (r + 1) k := fun k => by
            rw [sk_0]; exact if_neg (by omega)
          rw [e5, e5, e5]
          have : sk j b = i ↔ b = i := by rcases sk_cases j b with ⟨x, y⟩ | ⟨x, y⟩ <;> omega
          by_cases q : b = i
          · rw [if_pos q, if_pos (this.mpr q)]
          · rw [if_neg q, if_neg (fun z => q (this.mp z))]
        rw [e4]
        exact bl_mrg (h (r + 1) (by omega)) hij hj)
      rw [← e1, ← e2, e3]
      rcases sg_cases j with e | e <;> rw [e] <;> omega
    have hd2 : ∀ i j, i < m + 1 → j < m + 1 → sg j * dt m (mn 0 j A) - sg i * dt m (mn 0 i A) ≤ pr m (fun i => p (i + 1)) := fun i j hi hj => by
      rcases Nat.lt_trichotomy i j with q | q | q
      · exact (hd i j q hj).2
      · subst q; omega
      · have := (hd j i q hi).1; omega
    have hl := lin_bound (h 0 (by omega)) hQ hC hd2
    have e : dt (m + 1) A = sm (m + 1) (fun i => A 0 i * (sg i * dt m (mn 0 i A))) := by
      rw [dt_succ]
      exact sm_congr (fun j _ => by grind)
    rw [e]
    exact ⟨hl.1, hl.2⟩
/-- BALANCED COLUMNS -/
theorem dt_bl {m : Nat} {A : Nat → Nat → Int} {p : Nat → Int} (h : ∀ c, c < m → bl m (fun i => A i c) (p c)) : dt m A ≤ pr m p ∧ - pr m p ≤ dt m A := by
  rw [← dt_tr]
  exact dt_blr h
