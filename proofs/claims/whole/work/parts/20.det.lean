/-! SUMS AND DETERMINANTS over Int, by the first row -/
def sm : Nat → (Nat → Int) → Int
  | 0, _ => 0
  | n + 1, f => sm n f + f n
theorem sm_congr : ∀ {n : Nat} {f g : Nat → Int}, (∀ i, i < n → f i = g i) → sm n f = sm n g
  | 0, _, _, _ => rfl
  | n + 1, f, g, h => by
    show sm n f + f n = sm n g + g n
    rw [sm_congr (fun i hi => h i (by omega)), h n (by omega)]
theorem sm_zero : ∀ {n : Nat} {f : Nat → Int}, (∀ i, i < n → f i = 0) → sm n f = 0
  | 0, _, _ => rfl
  | n + 1, f, h => by
    show sm n f + f n = 0
    rw [sm_zero (fun i hi => h i (by omega)), h n (by omega)]; rfl
theorem sm_add (f g : Nat → Int) : ∀ n, sm n (fun i => f i + g i) = sm n f + sm n g
  | 0 => rfl
  | n + 1 => by
    show sm n _ + (f n + g n) = sm n f + f n + (sm n g + g n)
    rw [sm_add f g n]; omega
theorem sm_mul (a : Int) (f : Nat → Int) : ∀ n, sm n (fun i => a * f i) = a * sm n f
  | 0 => by show (0 : Int) = a * 0; simp
  | n + 1 => by
    show sm n _ + a * f n = a * (sm n f + f n)
    rw [sm_mul a f n, Int.mul_add]
theorem sm_mulr (a : Int) (f : Nat → Int) (n : Nat) : sm n (fun i => f i * a) = sm n f * a := by
  rw [Int.mul_comm, ← sm_mul]
  exact sm_congr (fun i _ => Int.mul_comm _ _)
theorem sm_neg (f : Nat → Int) : ∀ n, sm n (fun i => - f i) = - sm n f
  | 0 => rfl
  | n + 1 => by
    show sm n _ + - f n = - (sm n f + f n)
    rw [sm_neg f n]; omega
theorem sm_sub (f g : Nat → Int) (n : Nat) : sm n (fun i => f i - g i) = sm n f - sm n g := by
  have h := sm_add f (fun i => - g i) n
  rw [sm_neg] at h
  rw [show (fun i => f i - g i) = (fun i => f i + - g i) from funext fun i => Int.sub_eq_add_neg, h]; omega
theorem sm_swap (f : Nat → Nat → Int) (m : Nat) : ∀ n, sm n (fun i => sm m (fun j => f i j)) = sm m (fun j => sm n (fun i => f i j))
  | 0 => (sm_zero (fun _ _ => rfl)).symm
  | n + 1 => by
    show sm n _ + sm m (fun j => f n j) = sm m (fun j => sm n (fun i => f i j) + f n j)
    rw [sm_swap f m n, sm_add]
theorem sm_one {n k : Nat} {f : Nat → Int} (hk : k < n) (h : ∀ i, i < n → i ≠ k → f i = 0) : sm n f = f k := by
  induction n with
  | zero => omega
  | succ n ih =>
    show sm n f + f n = f k
    by_cases e : k = n
    · subst e
      rw [sm_zero (fun i hi => h i (by omega) (by omega))]; omega
    · rw [ih (by omega) (fun i hi hne => h i (by omega) hne), h n (by omega) (by omega)]; omega
theorem sm_first (f : Nat → Int) : ∀ n, sm (n + 1) f = f 0 + sm n (fun i => f (i + 1))
  | 0 => by show 0 + f 0 = f 0 + 0; omega
  | n + 1 => by
    show sm (n + 1) f + f (n + 1) = f 0 + (sm n (fun i => f (i + 1)) + f (n + 1))
    rw [sm_first f n]; omega
theorem sm_nonneg {f : Nat → Int} : ∀ {n : Nat}, (∀ i, i < n → 0 ≤ f i) → 0 ≤ sm n f
  | 0, _ => Int.le_refl 0
  | n + 1, h => by
    show 0 ≤ sm n f + f n
    have := sm_nonneg (n := n) (fun i hi => h i (by omega))
    have := h n (by omega)
    omega
theorem sm_le {f g : Nat → Int} : ∀ {n : Nat}, (∀ i, i < n → f i ≤ g i) → sm n f ≤ sm n g
  | 0, _ => Int.le_refl 0
  | n + 1, h => by
    show sm n f + f n ≤ sm n g + g n
    have := sm_le (n := n) (f := f) (g := g) (fun i hi => h i (by omega))
    have := h n (by omega)
    omega
theorem sm_nonneg_zero {f : Nat → Int} : ∀ {n : Nat}, (∀ i, i < n → 0 ≤ f i) → sm n f = 0 → ∀ i, i < n → f i = 0
  | 0, _, _, i, hi => by omega
  | n + 1, h, e, i, hi => by
    have e : sm n f + f n = 0 := e
    have h1 := sm_nonneg (n := n) (fun i hi => h i (by omega))
    have h2 := h n (by omega)
    by_cases q : i = n
    · subst q; omega
    · exact sm_nonneg_zero (n := n) (fun i hi => h i (by omega)) (by omega) i (by omega)
/-- the numbers but c -/
def sk (c j : Nat) : Nat := if j < c then j else j + 1
theorem sk_lo {c j : Nat} (h : j < c) : sk c j = j := if_pos h
theorem sk_hi {c j : Nat} (h : c ≤ j) : sk c j = j + 1 := if_neg (by omega)
theorem sk_cases (c j : Nat) : (j < c ∧ sk c j = j) ∨ (c ≤ j ∧ sk c j = j + 1) := by
  by_cases h : j < c
  · exact Or.inl ⟨h, sk_lo h⟩
  · exact Or.inr ⟨by omega, sk_hi (by omega)⟩
theorem sk_ne (c j : Nat) : sk c j ≠ c := by rcases sk_cases c j with ⟨h, e⟩ | ⟨h, e⟩ <;> omega
theorem sk_lt {c j m : Nat} (h : j < m) : sk c j < m + 1 := by rcases sk_cases c j with ⟨h, e⟩ | ⟨h, e⟩ <;> omega
theorem sm_sk {m c : Nat} (hc : c < m + 1) (f : Nat → Int) (h : f c = 0) : sm (m + 1) f = sm m (fun j => f (sk c j)) := by
  induction m with
  | zero =>
    have : c = 0 := by omega
    subst this
    show 0 + f 0 = 0
    omega
  | succ m ih =>
    show sm (m + 1) f + f (m + 1) = sm m (fun j => f (sk c j)) + f (sk c m)
    by_cases e : c = m + 1
    · subst e
      rw [h, sk_lo (by omega)]
      have : sm m (fun j => f (sk (m + 1) j)) = sm m f := sm_congr (fun i hi => by rw [sk_lo (by omega)])
      rw [this]
      show sm m f + f m + 0 = _
      omega
    · rw [ih (by omega), sk_hi (by omega)]
/-- (-1)^j -/
def sg : Nat → Int
  | 0 => 1
  | n + 1 => - sg n
theorem sg_add (a : Nat) : ∀ b, sg (a + b) = sg a * sg b
  | 0 => by show sg a = sg a * 1; omega
  | b + 1 => by
    show - sg (a + b) = sg a * - sg b
    rw [sg_add a b, Int.mul_neg]
theorem sg_sq : ∀ a, sg a * sg a = 1
  | 0 => rfl
  | a + 1 => by
    show - sg a * - sg a = 1
    rw [Int.neg_mul_neg, sg_sq a]
theorem sg_cases : ∀ a, sg a = 1 ∨ sg a = -1
  | 0 => Or.inl rfl
  | a + 1 => by
    rcases sg_cases a with h | h
    · right; show - sg a = -1; rw [h]
    · left; show - sg a = 1; rw [h]; rfl
/-- without a row and a column -/
def mn (r c : Nat) (A : Nat → Nat → Int) : Nat → Nat → Int := fun i j => A (sk r i) (sk c j)
def dt : Nat → (Nat → Nat → Int) → Int
  | 0, _ => 1
  | m + 1, A => sm (m + 1) (fun j => sg j * A 0 j * dt m (mn 0 j A))
theorem dt_succ (m : Nat) (A : Nat → Nat → Int) : dt (m + 1) A = sm (m + 1) (fun j => sg j * A 0 j * dt m (mn 0 j A)) := rfl
theorem dt_congr : ∀ {m : Nat} {A B : Nat → Nat → Int}, (∀ i j, i < m → j < m → A i j = B i j) → dt m A = dt m B
  | 0, _, _, _ => rfl
  | m + 1, A, B, h => by
    rw [dt_succ, dt_succ]
    refine sm_congr (fun j hj => ?_)
    rw [h 0 j (by omega) hj, dt_congr (A := mn 0 j A) (B := mn 0 j B) (fun a b ha hb => h _ _ (sk_lt ha) (sk_lt hb))]
/-- a column anew -/
def sc (A : Nat → Nat → Int) (c : Nat) (x : Nat → Int) : Nat → Nat → Int := fun i j => if j = c then x i else A i j
theorem sc_self (A : Nat → Nat → Int) (c : Nat) : sc A c (fun i => A i c) = A := by
  funext i j
  unfold sc
  split
  · rename_i h; rw [h]
  · rfl
theorem sc_sc (A : Nat → Nat → Int) (c : Nat) (x y : Nat → Int) : sc (sc A c x) c y = sc A c y := by
  funext i j
  unfold sc
  split <;> rfl
theorem sc_comm (A : Nat → Nat → Int) {c d : Nat} (h : c ≠ d) (x y : Nat → Int) : sc (sc A c x) d y = sc (sc A d y) c x := by
  funext i j
  unfold sc
  by_cases e : j = d
  · have : j ≠ c := by omega
    simp [e, Ne.symm h]
  · simp [e]
theorem mn_sc_same (A : Nat → Nat → Int) (r c : Nat) (x : Nat → Int) : mn r c (sc A c x) = mn r c A := by
  funext i j
  exact if_neg (sk_ne c j)
theorem mn_sc_ne (A : Nat → Nat → Int) (r : Nat) {c d : Nat} (h : d ≠ c) (x : Nat → Int) : mn r c (sc A d x) = sc (mn r c A) (if d < c then d else d - 1) (fun i => x (sk r i)) := by
  funext i j
  show (if sk c j = d then x (sk r i) else A (sk r i) (sk c j)) = if j = (if d < c then d else d - 1) then x (sk r i) else A (sk r i) (sk c j)
  have e : sk c j = d ↔ j = (if d < c then d else d - 1) := by
    rcases sk_cases c j with ⟨h1, e1⟩ | ⟨h1, e1⟩ <;> split <;> omega
  by_cases q : sk c j = d
  · rw [if_pos q, if_pos (e.mp q)]
  · rw [if_neg q, if_neg (fun z => q (e.mpr z))]
theorem dt_lin : ∀ {m : Nat} (A : Nat → Nat → Int) {c : Nat}, c < m → ∀ (a b : Int) (x y : Nat → Int), dt m (sc A c (fun i => a * x i + b * y i)) = a * dt m (sc A c x) + b * dt m (sc A c y)
  | 0, _, c, hc, _, _, _, _ => by omega
  | m + 1, A, c, hc, a, b, x, y => by
    rw [dt_succ, dt_succ, dt_succ, ← sm_mul, ← sm_mul, ← sm_add]
    refine sm_congr (fun j hj => ?_)
    by_cases e : j = c
    · subst e
      rw [mn_sc_same, mn_sc_same, mn_sc_same]
      have h1 : ∀ z : Nat → Int, sc A j z 0 j = z 0 := fun z => if_pos rfl
      rw [h1, h1, h1]
      generalize dt m (mn 0 j A) = d
      generalize sg j = s
      grind
    · have h1 : ∀ z : Nat → Int, sc A c z 0 j = A 0 j := fun z => if_neg e
      rw [h1, h1, h1, mn_sc_ne _ _ (Ne.symm e), mn_sc_ne _ _ (Ne.symm e), mn_sc_ne _ _ (Ne.symm e)]
      have hb : (if c < j then c else c - 1) < m := by split <;> omega
      rw [dt_lin (mn 0 j A) hb a b (fun i => x (sk 0 i)) (fun i => y (sk 0 i))]
      generalize dt m _ = d1
      generalize dt m _ = d2
      generalize sg j = s
      grind
theorem dt_zcol {m : Nat} (A : Nat → Nat → Int) {c : Nat} (hc : c < m) {x : Nat → Int} (h : ∀ i, i < m → x i = 0) : dt m (sc A c x) = 0 := by
  have e : dt m (sc A c x) = dt m (sc A c (fun i => 0 * x i + 0 * x i)) := dt_congr (fun i j hi hj => by
    unfold sc
    split
    · show x i = 0 * x i + 0 * x i
      rw [h i hi]; rfl
    · rfl)
  rw [e, dt_lin A hc]
  omega
theorem dt_addc {m : Nat} (A : Nat → Nat → Int) {c : Nat} (hc : c < m) (x y : Nat → Int) : dt m (sc A c (fun i => x i + y i)) = dt m (sc A c x) + dt m (sc A c y) := by
  have h := dt_lin A hc 1 1 x y
  have e : (fun i => 1 * x i + 1 * y i) = (fun i => x i + y i) := funext fun i => by omega
  rw [e] at h
  rw [h]; omega
theorem dt_mulc {m : Nat} (A : Nat → Nat → Int) {c : Nat} (hc : c < m) (a : Int) (x : Nat → Int) : dt m (sc A c (fun i => a * x i)) = a * dt m (sc A c x) := by
  have h := dt_lin A hc a 0 x x
  have e : (fun i => a * x i + 0 * x i) = (fun i => a * x i) := funext fun i => by omega
  rw [e] at h
  rw [h]; omega
theorem dt_smc {m : Nat} (A : Nat → Nat → Int) {c : Nat} (hc : c < m) (z : Nat → Int) (X : Nat → Nat → Int) : ∀ n, dt m (sc A c (fun i => sm n (fun k => z k * X i k))) = sm n (fun k => z k * dt m (sc A c (fun i => X i k)))
  | 0 => dt_zcol A hc (fun _ _ => rfl)
  | n + 1 => by
    show dt m (sc A c (fun i => sm n (fun k => z k * X i k) + z n * X i n)) = sm n _ + z n * _
    rw [dt_addc A hc, dt_smc A hc z X n, dt_mulc A hc]
/-- two neighbours alike -/
theorem dt_alt1 : ∀ {m : Nat} {A : Nat → Nat → Int} {c : Nat}, c + 1 < m → (∀ i, i < m → A i c = A i (c + 1)) → dt m A = 0
  | 0, _, c, hc, _ => by omega
  | m + 1, A, c, hc, h => by
    rw [dt_succ]
    have hz : ∀ j, j < m + 1 → j ≠ c → j ≠ c + 1 → sg j * A 0 j * dt m (mn 0 j A) = 0 := fun j hj h1 h2 => by
      have : dt m (mn 0 j A) = 0 := by
        by_cases q : j < c
        · refine dt_alt1 (c := c - 1) (by omega) (fun i hi => ?_)
          show A (sk 0 i) (sk j (c - 1)) = A (sk 0 i) (sk j (c - 1 + 1))
          rw [sk_hi (c := j) (j := c - 1) (by omega), sk_hi (c := j) (j := c - 1 + 1) (by omega), show c - 1 + 1 = c by omega]
          exact h _ (sk_lt hi)
        · refine dt_alt1 (c := c) (by omega) (fun i hi => ?_)
          show A (sk 0 i) (sk j c) = A (sk 0 i) (sk j (c + 1))
          rw [sk_lo (c := j) (j := c) (by omega), sk_lo (c := j) (j := c + 1) (by omega)]
          exact h _ (sk_lt hi)
      rw [this, Int.mul_zero]
    have e2 : dt m (mn 0 c A) = dt m (mn 0 (c + 1) A) := dt_congr (fun i j hi hj => by
      show A (sk 0 i) (sk c j) = A (sk 0 i) (sk (c + 1) j)
      by_cases q : j = c
      · subst q
        rw [sk_hi (c := j) (j := j) (by omega), sk_lo (c := j + 1) (j := j) (by omega)]
        exact (h _ (sk_lt hi)).symm
      · rcases sk_cases c j with ⟨a, b⟩ | ⟨a, b⟩
        · rw [b, sk_lo (c := c + 1) (j := j) (by omega)]
        · rw [b, sk_hi (c := c + 1) (j := j) (by omega)])
    -- all terms but two are 0, those two cancel
    have hs : sm (m + 1) (fun j => sg j * A 0 j * dt m (mn 0 j A)) = sm (m + 1) (fun j => if j = c then sg c * A 0 c * dt m (mn 0 c A) else 0) + sm (m + 1) (fun j => if j = c + 1 then sg (c + 1) * A 0 (c + 1) * dt m (mn 0 (c + 1) A) else 0) := by
      rw [← sm_add]
      refine sm_congr (fun j hj => ?_)
      by_cases q : j = c
      · subst q; simp
      · by_cases q2 : j = c + 1
        · subst q2; simp
        · rw [hz j hj q q2, if_neg q, if_neg q2]; rfl
    rw [hs, sm_one (k := c) (by omega) (fun i _ hne => if_neg hne), sm_one (k := c + 1) hc (fun i _ hne => if_neg hne), if_pos rfl, if_pos rfl, e2, h 0 (by omega)]
    show sg c * _ * _ + - sg c * _ * _ = 0
    grind
theorem dt_swap1 {m : Nat} (A : Nat → Nat → Int) {c : Nat} (hc : c + 1 < m) (x y : Nat → Int) : dt m (sc (sc A c x) (c + 1) y) = - dt m (sc (sc A c y) (c + 1) x) := by
  have h := dt_alt1 (m := m) (A := sc (sc A c (fun i => x i + y i)) (c + 1) (fun i => x i + y i)) (c := c) hc (fun i hi => by simp [sc])
  have hx : dt m (sc (sc A c x) (c + 1) x) = 0 := dt_alt1 (c := c) hc (fun i hi => by simp [sc])
  have hy : dt m (sc (sc A c y) (c + 1) y) = 0 := dt_alt1 (c := c) hc (fun i hi => by simp [sc])
  have hcn : c ≠ c + 1 := by omega
  rw [dt_addc _ hc, sc_comm _ hcn, sc_comm _ hcn, dt_addc _ (by omega), dt_addc _ (by omega)] at h
  rw [← sc_comm _ hcn, ← sc_comm _ hcn, ← sc_comm _ hcn, ← sc_comm _ hcn] at h
  omega
/-- two columns alike -/
theorem dt_alt {m : Nat} : ∀ {k : Nat} {A : Nat → Nat → Int} {c : Nat}, c + 1 + k < m → (∀ i, i < m → A i c = A i (c + 1 + k)) → dt m A = 0
  | 0, A, c, hk, h => dt_alt1 hk h
  | k + 1, A, c, hk, h => by
    have e : A = sc (sc A (c + 1 + k) (fun i => A i (c + 1 + k))) (c + 1 + k + 1) (fun i => A i (c + 1 + k + 1)) := by
      rw [sc_self, sc_self]
    rw [e, dt_swap1 A (by omega), dt_alt (k := k) (c := c) (by omega) (fun i hi => ?_)]
    · rfl
    · simp only [sc]
      rw [if_neg (by omega), if_neg (by omega), if_neg (by omega), if_pos trivial]
      exact h i hi
theorem dt_two {m : Nat} {A : Nat → Nat → Int} {c d : Nat} (hc : c < m) (hd : d < m) (hne : c ≠ d) (h : ∀ i, i < m → A i c = A i d) : dt m A = 0 := by
  rcases Nat.lt_or_ge c d with q | q
  · exact dt_alt (k := d - c - 1) (c := c) (by omega) (fun i hi => by rw [show c + 1 + (d - c - 1) = d by omega]; exact h i hi)
  · exact dt_alt (k := c - d - 1) (c := d) (by omega) (fun i hi => by rw [show d + 1 + (c - d - 1) = c by omega]; exact (h i hi).symm)
theorem dt_swap {m : Nat} (A : Nat → Nat → Int) {c d : Nat} (hc : c < m) (hd : d < m) (hne : c ≠ d) (x y : Nat → Int) : dt m (sc (sc A c x) d y) = - dt m (sc (sc A c y) d x) := by
  have h := dt_two (m := m) (A := sc (sc A c (fun i => x i + y i)) d (fun i => x i + y i)) hc hd hne (fun i hi => by simp [sc])
  have hx : dt m (sc (sc A c x) d x) = 0 := dt_two hc hd hne (fun i hi => by simp [sc])
  have hy : dt m (sc (sc A c y) d y) = 0 := dt_two hc hd hne (fun i hi => by simp [sc])
  rw [dt_addc _ hd, sc_comm _ hne, sc_comm _ hne, dt_addc _ hc, dt_addc _ hc] at h
  rw [← sc_comm _ hne, ← sc_comm _ hne, ← sc_comm _ hne, ← sc_comm _ hne] at h
  omega
/-- CRAMER -/
theorem dt_cramer {m : Nat} (B : Nat → Nat → Int) {c : Nat} (hc : c < m) (z : Nat → Int) : dt m (sc B c (fun i => sm m (fun k => z k * B i k))) = z c * dt m B := by
  rw [dt_smc B hc z B m, sm_one hc (fun k hk hne => ?_), sc_self]
  rw [dt_two (c := c) (d := k) hc hk (Ne.symm hne) (fun i hi => by simp [sc, hne]), Int.mul_zero]
