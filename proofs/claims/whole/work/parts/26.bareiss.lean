/-! A PART of a square (the knots of S in their order), and a determinant by whole numbers with rows exchanged -/
def enL (S : Nat → Bool) (n : Nat) : List Nat := (List.range n).filter S
theorem enL_succ_t {S : Nat → Bool} {n : Nat} (h : S n = true) : enL S (n + 1) = enL S n ++ [n] := by
  unfold enL; rw [List.range_succ, List.filter_append]; simp [h]
theorem enL_succ_f {S : Nat → Bool} {n : Nat} (h : S n = false) : enL S (n + 1) = enL S n := by
  unfold enL; rw [List.range_succ, List.filter_append]; simp [h]
theorem enL_mem {S : Nat → Bool} {n i : Nat} (hi : i < (enL S n).length) : (enL S n).getD i 0 < n ∧ S ((enL S n).getD i 0) = true := by
  have h : (enL S n).getD i 0 ∈ enL S n := by
    rw [List.getD_eq_getElem?_getD, List.getElem?_eq_getElem hi]
    exact List.getElem_mem hi
  have h2 := List.mem_filter.mp h
  exact ⟨List.mem_range.mp h2.1, h2.2⟩
/-- the i-th knot of S -/
def eF (S : Nat → Bool) (n i : Nat) : Nat := (enL S n).getD i 0
def eM (S : Nat → Bool) (n : Nat) : Nat := (enL S n).length
theorem eM_t {S : Nat → Bool} {n : Nat} (h : S n = true) : eM S (n + 1) = eM S n + 1 := by unfold eM; rw [enL_succ_t h]; simp
theorem eM_f {S : Nat → Bool} {n : Nat} (h : S n = false) : eM S (n + 1) = eM S n := by unfold eM; rw [enL_succ_f h]
theorem eF_t {S : Nat → Bool} {n i : Nat} (h : S n = true) (hi : i < eM S n) : eF S (n + 1) i = eF S n i := by
  unfold eF; rw [enL_succ_t h, List.getD_eq_getElem?_getD, List.getElem?_append_left hi, List.getD_eq_getElem?_getD]
theorem eF_last {S : Nat → Bool} {n : Nat} (h : S n = true) : eF S (n + 1) (eM S n) = n := by
  unfold eF eM; rw [enL_succ_t h, List.getD_eq_getElem?_getD, List.getElem?_append_right (Nat.le_refl _)]; simp
theorem eF_f {S : Nat → Bool} {n i : Nat} (h : S n = false) : eF S (n + 1) i = eF S n i := by unfold eF; rw [enL_succ_f h]
theorem eF_lt {S : Nat → Bool} {n i : Nat} (hi : i < eM S n) : eF S n i < n := (enL_mem hi).1
theorem eF_in {S : Nat → Bool} {n i : Nat} (hi : i < eM S n) : S (eF S n i) = true := (enL_mem hi).2
theorem eM_le {S : Nat → Bool} : ∀ n, eM S n ≤ n
  | 0 => Nat.le_refl 0
  | n + 1 => by
    have := eM_le (S := S) n
    cases h : S n with
    | true => rw [eM_t h]; omega
    | false => rw [eM_f h]; omega
theorem eM_lt {S : Nat → Bool} {k : Nat} (hk : S k = false) : ∀ {n}, k < n → eM S n < n
  | n + 1, h => by
    by_cases e : k = n
    · subst e
      rw [eM_f hk]
      have := eM_le (S := S) k
      omega
    · have := eM_lt hk (n := n) (by omega)
      cases h : S n with
      | true => rw [eM_t h]; omega
      | false => rw [eM_f h]; omega
theorem eF_inj {S : Nat → Bool} : ∀ {n i j : Nat}, i < eM S n → j < eM S n → eF S n i = eF S n j → i = j
  | 0, i, j, hi, _, _ => absurd hi (Nat.not_lt_zero i)
  | n + 1, i, j, hi, hj, e => by
    cases h : S n with
    | false =>
      rw [eM_f h] at hi hj
      rw [eF_f h, eF_f h] at e
      exact eF_inj hi hj e
    | true =>
      rw [eM_t h] at hi hj
      by_cases h1 : i = eM S n <;> by_cases h2 : j = eM S n
      · omega
      · subst h1
        rw [eF_last h, eF_t h (by omega)] at e
        have := eF_lt (S := S) (n := n) (i := j) (by omega)
        omega
      · subst h2
        rw [eF_last h, eF_t h (by omega)] at e
        have := eF_lt (S := S) (n := n) (i := i) (by omega)
        omega
      · rw [eF_t h (by omega), eF_t h (by omega)] at e
        exact eF_inj (by omega) (by omega) e
theorem sm_sel (S : Nat → Bool) (f : Nat → Int) : ∀ n, sm n (fun c => if S c = true then f c else 0) = sm (eM S n) (fun j => f (eF S n j))
  | 0 => rfl
  | n + 1 => by
    have ih := sm_sel S f n
    show sm n _ + (if S n = true then f n else 0) = _
    rw [ih]
    cases h : S n with
    | true =>
      rw [eM_t h]
      show _ = sm (eM S n) (fun j => f (eF S (n + 1) j)) + f (eF S (n + 1) (eM S n))
      rw [eF_last h, sm_congr (f := fun j => f (eF S (n + 1) j)) (g := fun j => f (eF S n j)) (fun i hi => by rw [eF_t h hi])]
      simp
    | false =>
      rw [eM_f h, sm_congr (f := fun j => f (eF S (n + 1) j)) (g := fun j => f (eF S n j)) (fun i hi => by rw [eF_f h])]
      simp
def eG (S : Nat → Bool) (n i : Nat) : Nat := if i < eM S n then eF S n i else n + (i - eM S n)
theorem eG_t {S : Nat → Bool} {n : Nat} (h : S n = true) (i : Nat) : eG S (n + 1) i = eG S n i := by
  unfold eG
  rw [eM_t h]
  by_cases h1 : i < eM S n
  · rw [if_pos h1, if_pos (by omega), eF_t h h1]
  · rw [if_neg h1]
    by_cases h2 : i = eM S n
    · subst h2
      rw [if_pos (by omega), eF_last h]; omega
    · rw [if_neg (by omega)]; omega
theorem dt_block : ∀ (n t : Nat) (S : Nat → Bool) (A : Nat → Nat → Int), dt (eM S n + t) (fun i j => A (eG S n i) (eG S n j)) = dt (n + t) (fun i j => if j < n ∧ S j = false then dl i j else A i j)
  | 0, t, S, A => dt_congr (fun i j _ _ => by
    have e : ∀ i, eG S 0 i = i := fun i => by
      unfold eG
      show (if i < 0 then eF S 0 i else 0 + (i - 0)) = i
      rw [if_neg (Nat.not_lt_zero i)]
      omega
    rw [e, e, if_neg (by omega)])
  | n + 1, t, S, A => by
    cases h : S n with
    | true =>
      have ih := dt_block n (t + 1) S A
      rw [eM_t h, show eM S n + 1 + t = eM S n + (t + 1) by omega, show n + 1 + t = n + (t + 1) by omega]
      rw [show (fun i j => A (eG S (n + 1) i) (eG S (n + 1) j)) = (fun i j => A (eG S n i) (eG S n j)) from by
        funext i j; rw [eG_t h, eG_t h], ih]
      refine dt_congr (fun i j _ _ => ?_)
      by_cases e : j = n
      · subst e; simp [h]
      · by_cases e2 : j < n
        · have : j < n + 1 := by omega
          simp [e2, this]
        · have : ¬ j < n + 1 := by omega
          simp [e2, this]
    | false =>
      have ih := dt_block n t S (fun i j => A (sk n i) (sk n j))
      rw [eM_f h, show n + 1 + t = (n + t) + 1 by omega]
      rw [dt_ins (c := n) (by omega) (fun i _ => by simp [h]; rfl)]
      have e1 : dt (n + t) (mn n n (fun i j => if j < n + 1 ∧ S j = false then dl i j else A i j)) = dt (n + t) (fun i j => if j < n ∧ S j = false then dl i j else A (sk n i) (sk n j)) := dt_congr (fun i j _ _ => by
        show (if sk n j < n + 1 ∧ S (sk n j) = false then dl (sk n i) (sk n j) else A (sk n i) (sk n j)) = _
        have hdl : dl (sk n i) (sk n j) = dl i j := by
          unfold dl
          have : sk n i = sk n j ↔ i = j := by
            rcases sk_cases n i with ⟨a, b⟩ | ⟨a, b⟩ <;> rcases sk_cases n j with ⟨c, d⟩ | ⟨c, d⟩ <;> omega
          by_cases q : i = j
          · rw [if_pos q, if_pos (this.mpr q)]
          · rw [if_neg q, if_neg (fun z => q (this.mp z))]
        rw [hdl]
        by_cases e : j < n
        · rw [sk_lo e]
          have : j < n + 1 := by omega
          simp [e, this]
        · have h1 : ¬ sk n j < n + 1 := by rw [sk_hi (by omega)]; omega
          simp [e, h1])
      rw [e1, ← ih]
      refine dt_congr (fun i j _ _ => ?_)
      have e2 : ∀ i, eG S (n + 1) i = sk n (eG S n i) := fun i => by
        unfold eG
        rw [eM_f h]
        by_cases q : i < eM S n
        · rw [if_pos q, if_pos q, eF_f h, sk_lo (eF_lt q)]
        · rw [if_neg q, if_neg q, sk_hi (by omega)]; omega
      rw [e2, e2]
theorem dt_part (n : Nat) (S : Nat → Bool) (A : Nat → Nat → Int) : dt (eM S n) (fun i j => A (eF S n i) (eF S n j)) = dt n (bm S A) := by
  have h := dt_block n 0 S A
  rw [Nat.add_zero, Nat.add_zero] at h
  have e1 : dt (eM S n) (fun i j => A (eF S n i) (eF S n j)) = dt (eM S n) (fun i j => A (eG S n i) (eG S n j)) := dt_congr (fun i j hi hj => by
    unfold eG; rw [if_pos hi, if_pos hj])
  rw [e1, h]
  refine dt_congr (fun i j hi hj => ?_)
  unfold bm
  cases S j <;> simp [hj]
theorem part_D (n : Nat) (A : Nat → Nat → Int) (S : Nat → Bool) : dt (eM S n) (fun i j => A (eF S n i) (eF S n j)) = Dn n A S := dt_part n S A
theorem part_N {n : Nat} (A : Nat → Nat → Int) {S : Nat → Bool} {a b : Nat} (ha : S a = true) (hb : S b = true) : dt (eM S n) (fun r c => if eF S n c = a then dl (eF S n r) b else A (eF S n r) (eF S n c)) = Nn n A S a b := by
  have h := dt_part n S (sc A a (fun i => dl i b))
  have e1 : (fun i j => sc A a (fun i => dl i b) (eF S n i) (eF S n j)) = (fun r c => if eF S n c = a then dl (eF S n r) b else A (eF S n r) (eF S n c)) := rfl
  rw [e1] at h
  rw [h]
  unfold Nn
  congr 1
  funext i j
  unfold bm sc wv
  by_cases e : j = a
  · subst e; simp [ha, hb]
  · simp [e]
theorem part_W {n : Nat} (A : Nat → Nat → Int) {S : Nat → Bool} {a b : Nat} (han : a < n) (ha : S a = false) (hb : S b = false) (hD : Dn n A S ≠ 0) : dt (eM S n + 1) (fun i j => A (if i < eM S n then eF S n i else a) (if j < eM S n then eF S n j else b)) = Nn n A S a b := by
  let M : Nat → Nat → Int := fun i j => A (if i < eM S n then eF S n i else a) (if j < eM S n then eF S n j else b)
  let R : Nat → Nat := fun i => if i < eM S n then eF S n i else a
  show dt (eM S n + 1) M = _
  have hR : ∀ i, R i < n := fun i => by
    show (if i < eM S n then eF S n i else a) < n
    split
    · rename_i h; exact eF_lt h
    · exact han
  have hcol : ∀ i, i < eM S n + 1 → Dn n A S * M i (eM S n) = sm (eM S n) (fun j => Nn n A S (eF S n j) b * M i j) + Nn n A S a b * dl i (eM S n) := fun i hi => by
    have h := dt_adj (m := n) (bm S A) (wv S A b) (hR i)
    have e1 : wv S A b (R i) = M i (eM S n) := by
      show (if S b = true then dl (R i) b else A (R i) b) = A (R i) (if eM S n < eM S n then _ else b)
      rw [hb, if_neg (Nat.lt_irrefl _)]; simp
    rw [e1] at h
    rw [show Dn n A S = dt n (bm S A) from rfl, ← h]
    have e2 : sm n (fun c => dt n (sc (bm S A) c (wv S A b)) * bm S A (R i) c) = sm n (fun c => if S c = true then Nn n A S c b * A (R i) c else 0) + sm n (fun c => (if S c = true then 0 else Nn n A S c b) * dl (R i) c) := by
      rw [← sm_add]
      refine sm_congr (fun c _ => ?_)
      show Nn n A S c b * (if S c = true then A (R i) c else dl (R i) c) = _
      cases S c <;> simp
    rw [e2, sm_dl' (hR i), sm_sel S (fun c => Nn n A S c b * A (R i) c) n]
    have e3 : sm (eM S n) (fun j => Nn n A S (eF S n j) b * A (R i) (eF S n j)) = sm (eM S n) (fun j => Nn n A S (eF S n j) b * M i j) := sm_congr (fun j hj => by
      show _ = _ * A (R i) (if j < eM S n then eF S n j else b)
      rw [if_pos hj])
    rw [e3]
    congr 1
    by_cases q : i < eM S n
    · have : R i = eF S n i := if_pos q
      rw [this, eF_in q, dl_ne (by omega)]; simp
    · have h1 : R i = a := if_neg q
      have h2 : i = eM S n := by omega
      rw [h1, ha, h2, dl_self]; simp
  have h1 : dt (eM S n + 1) (sc M (eM S n) (fun i => Dn n A S * M i (eM S n))) = Dn n A S * dt (eM S n + 1) M := by
    rw [dt_mulc M (by omega), sc_self]
  have h2 : dt (eM S n + 1) (sc M (eM S n) (fun i => Dn n A S * M i (eM S n))) = dt (eM S n + 1) (sc M (eM S n) (fun i => sm (eM S n) (fun j => Nn n A S (eF S n j) b * M i j) + Nn n A S a b * dl i (eM S n))) := dt_congr (fun i j hi _ => by
    unfold sc
    split
    · exact hcol i hi
    · rfl)
  have h3 : dt (eM S n + 1) (sc M (eM S n) (fun i => dl i (eM S n))) = Dn n A S := by
    rw [dt_ins (c := eM S n) (by omega) (fun i _ => if_pos rfl), ← part_D]
    refine dt_congr (fun i j hi hj => ?_)
    show (if sk (eM S n) j = eM S n then _ else M (sk (eM S n) i) (sk (eM S n) j)) = _
    rw [if_neg (sk_ne _ _), sk_lo hi, sk_lo hj]
    show A (if i < eM S n then eF S n i else a) (if j < eM S n then eF S n j else b) = _
    rw [if_pos hi, if_pos hj]
  rw [h1, dt_addc M (by omega), dt_mulc M (by omega), h3, dt_smc M (by omega), sm_zero (fun j hj => by
    have : dt (eM S n + 1) (sc M (eM S n) (fun i => M i j)) = 0 := dt_two (c := eM S n) (d := j) (by omega) (by omega) (by omega) (fun i _ => by simp [sc, show j ≠ eM S n by omega])
    rw [this, Int.mul_zero])] at h2
  rw [Int.zero_add, Int.mul_comm (Nn n A S a b)] at h2
  exact Int.eq_of_mul_eq_mul_left hD h2
theorem bl_sel {n : Nat} {f : Nat → Int} {p : Int} (h : bl n f p) (S : Nat → Bool) : bl (eM S n) (fun i => f (eF S n i)) p := by
  have h1 := sm_sel S (fun c => pz (f c)) n
  have h2 := sm_sel S (fun c => pz (- f c)) n
  have l1 : sm n (fun c => if S c = true then pz (f c) else 0) ≤ sm n (fun c => pz (f c)) := sm_le (fun c _ => by have := pz_nonneg (f c); split <;> omega)
  have l2 : sm n (fun c => if S c = true then pz (- f c) else 0) ≤ sm n (fun c => pz (- f c)) := sm_le (fun c _ => by have := pz_nonneg (- f c); split <;> omega)
  have b1 := h.1
  have b2 := h.2
  exact ⟨by show sm (eM S n) (fun i => pz (f (eF S n i))) ≤ p; omega, by show sm (eM S n) (fun i => pz (- f (eF S n i))) ≤ p; omega⟩
theorem sm_sel1 {n : Nat} (S : Nat → Bool) {a : Nat} (han : a < n) (ha : S a = false) {f : Nat → Int} (hf : ∀ c, c < n → 0 ≤ f c) : sm (eM S n + 1) (fun i => f (if i < eM S n then eF S n i else a)) ≤ sm n f := by
  show sm (eM S n) (fun i => f (if i < eM S n then eF S n i else a)) + f (if eM S n < eM S n then eF S n (eM S n) else a) ≤ _
  rw [if_neg (Nat.lt_irrefl _), sm_congr (f := fun i => f (if i < eM S n then eF S n i else a)) (g := fun i => f (eF S n i)) (fun i hi => by rw [if_pos hi]), ← sm_sel S f n]
  have h : sm n (fun c => (if S c = true then f c else 0) + dl c a * f a) ≤ sm n f := sm_le (fun c hc => by
    have := hf c hc
    by_cases e : c = a
    · subst e; rw [ha, dl_self]; simp
    · rw [dl_ne e]; split <;> omega)
  rw [sm_add, sm_dl han (fun _ => f a)] at h
  exact h
theorem bl_sel1 {n : Nat} {f : Nat → Int} {p : Int} (h : bl n f p) (S : Nat → Bool) {a : Nat} (han : a < n) (ha : S a = false) : bl (eM S n + 1) (fun i => f (if i < eM S n then eF S n i else a)) p :=
  ⟨Int.le_trans (sm_sel1 S han ha (f := fun c => pz (f c)) (fun c _ => pz_nonneg _)) h.1, Int.le_trans (sm_sel1 S han ha (f := fun c => pz (- f c)) (fun c _ => pz_nonneg _)) h.2⟩
-- BAREISS
def bk (k : Nat) (ρ : Nat → Nat) (A : Nat → Nat → Int) : Nat → Nat → Int := fun i j => if j < k then A i j else dl i (ρ j)
def BI (m : Nat) (A : Nat → Nat → Int) (k : Nat) (ρ : Nat → Nat) (s d : Int) (sq : Nat → Nat → Int) : Prop :=
  s * s = 1 ∧ d ≠ 0 ∧ dt m (bk k ρ A) = s * d ∧ ∀ r c, k ≤ r → r < m → k ≤ c → c < m → sq r c = s * dt m (sc (bk k ρ A) r (fun i => A i c))
theorem BI_0 (m : Nat) (A : Nat → Nat → Int) : BI m A 0 (fun i => i) 1 1 A := by
  have e : bk 0 (fun i => i) A = dl := by funext i j; simp [bk]
  refine ⟨rfl, by decide, by rw [e, dt_id]; rfl, fun r c _ hr _ hc => ?_⟩
  rw [e, dt_idc hr, Int.one_mul]
def swp {α : Type} (k r : Nat) (f : Nat → α) : Nat → α := fun i => if i = r then f k else if i = k then f r else f i
theorem BI_swap {m : Nat} {A : Nat → Nat → Int} {k : Nat} {ρ : Nat → Nat} {s d : Int} {sq : Nat → Nat → Int} (h : BI m A k ρ s d sq) {r0 : Nat} (hk : k < r0) (hr : r0 < m) : BI m A k (swp k r0 ρ) (-s) d (swp k r0 sq) := by
  obtain ⟨h1, h2, h3, h4⟩ := h
  have hb : bk k (swp k r0 ρ) A = sc (sc (bk k ρ A) k (fun i => dl i (ρ r0))) r0 (fun i => dl i (ρ k)) := by
    funext i j
    unfold bk sc swp
    by_cases e1 : j = r0
    · subst e1; rw [if_neg (by omega), if_pos rfl, if_pos rfl]
    · rw [if_neg e1]
      by_cases e2 : j = k
      · subst e2; rw [if_neg (by omega), if_neg e1, if_pos rfl, if_pos rfl]
      · rw [if_neg e2, if_neg e1, if_neg e2]
  have hck : (fun i => bk k ρ A i k) = (fun i => dl i (ρ k)) := by funext i; simp [bk]
  have hcr : (fun i => bk k ρ A i r0) = (fun i => dl i (ρ r0)) := by funext i; unfold bk; rw [if_neg (by omega)]
  have hne : k ≠ r0 := by omega
  have hswap : ∀ B : Nat → Nat → Int, dt m (sc (sc B k (fun i => dl i (ρ r0))) r0 (fun i => dl i (ρ k))) = - dt m (sc (sc B k (fun i => dl i (ρ k))) r0 (fun i => dl i (ρ r0))) := fun B => dt_swap B (by omega) hr hne _ _
  have hself : sc (sc (bk k ρ A) k (fun i => dl i (ρ k))) r0 (fun i => dl i (ρ r0)) = bk k ρ A := by
    rw [← hck, sc_self, ← hcr, sc_self]
  refine ⟨by grind, h2, ?_, fun r c hkr hrm hkc hcm => ?_⟩
  · rw [hb, hswap, hself, h3]; grind
  · unfold swp
    by_cases e1 : r = r0
    · subst e1
      rw [if_pos rfl, h4 k c (Nat.le_refl _) (by omega) hkc hcm, show bk k (fun i => if i = r then ρ k else if i = k then ρ r else ρ i) A = _ from hb, sc_sc]
      have e : dt m (sc (sc (bk k ρ A) k (fun i => dl i (ρ r))) r (fun i => A i c)) = - dt m (sc (sc (bk k ρ A) k (fun i => A i c)) r (fun i => dl i (ρ r))) := dt_swap _ (by omega) hr hne _ _
      rw [e, sc_comm _ hne, ← hcr, sc_self]; grind
    · rw [if_neg e1]
      by_cases e2 : r = k
      · subst e2
        rw [if_pos rfl, h4 r0 c (by omega) hr hkc hcm, show bk r (fun i => if i = r0 then ρ r else if i = r then ρ r0 else ρ i) A = _ from hb]
        have e : sc (sc (sc (bk r ρ A) r (fun i => dl i (ρ r0))) r0 (fun i => dl i (ρ r))) r (fun i => A i c) = sc (sc (bk r ρ A) r (fun i => A i c)) r0 (fun i => dl i (ρ r)) := by
          rw [sc_comm _ (Ne.symm hne), sc_sc]
        rw [e, dt_swap _ (by omega) hr hne, ← hck, sc_self]; grind
      · rw [if_neg e2, h4 r c hkr hrm hkc hcm, show bk k (fun i => if i = r0 then ρ k else if i = k then ρ r0 else ρ i) A = _ from hb]
        have e : sc (sc (sc (bk k ρ A) k (fun i => dl i (ρ r0))) r0 (fun i => dl i (ρ k))) r (fun i => A i c) = sc (sc (sc (bk k ρ A) r (fun i => A i c)) k (fun i => dl i (ρ r0))) r0 (fun i => dl i (ρ k)) := by
          rw [sc_comm _ (show r0 ≠ r by omega), sc_comm _ (show k ≠ r by omega)]
        have e3 : sc (sc (sc (bk k ρ A) r (fun i => A i c)) k (fun i => dl i (ρ k))) r0 (fun i => dl i (ρ r0)) = sc (bk k ρ A) r (fun i => A i c) := by
          rw [sc_comm _ (show r ≠ k by omega), ← hck, sc_self, sc_comm _ (show r ≠ r0 by omega), ← hcr, sc_self]
        rw [e, hswap, e3]; grind
theorem bk_succ (k : Nat) (ρ : Nat → Nat) (A : Nat → Nat → Int) : bk (k + 1) ρ A = sc (bk k ρ A) k (fun i => A i k) := by
  funext i j
  unfold bk sc
  by_cases e : j = k
  · subst e; rw [if_pos (by omega), if_pos rfl]
  · rw [if_neg e]
    show _ = if j < k then A i j else dl i (ρ j)
    by_cases q : j < k
    · rw [if_pos q, if_pos (by omega)]
    · rw [if_neg q, if_neg (by omega)]
/-- what a step makes -/
def bnx (m : Nat) (A : Nat → Nat → Int) (k : Nat) (ρ : Nat → Nat) (s : Int) (r c : Nat) : Int := s * dt m (sc (bk (k + 1) ρ A) r (fun i => A i c))
theorem BI_step {m : Nat} {A : Nat → Nat → Int} {k : Nat} {ρ : Nat → Nat} {s d : Int} {sq : Nat → Nat → Int} (h : BI m A k ρ s d sq) (hk : k < m) (hne : sq k k ≠ 0) : BI m A (k + 1) ρ s (sq k k) (bnx m A k ρ s) ∧ ∀ r c, k < r → r < m → k < c → c < m → sq r c * sq k k - sq r k * sq k c = d * bnx m A k ρ s r c := by
  obtain ⟨h1, h2, h3, h4⟩ := h
  refine ⟨⟨h1, hne, ?_, fun r c _ _ _ _ => rfl⟩, fun r c hr hrm hc hcm => ?_⟩
  · rw [bk_succ, h4 k k (Nat.le_refl _) hk (Nat.le_refl _) hk]
    grind
  · have hP := dt_P (m := m) (bk k ρ A) hk hrm (by omega) (fun i => A i k) (fun i => A i c)
    unfold bnx
    rw [h4 r c (by omega) hrm (by omega) hcm, h4 k k (Nat.le_refl _) hk (Nat.le_refl _) hk, h4 r k (by omega) hrm (Nat.le_refl _) hk, h4 k c (Nat.le_refl _) hk (by omega) hcm, bk_succ]
    rw [h3] at hP
    generalize dt m (sc (sc (bk k ρ A) k (fun i => A i k)) r (fun i => A i c)) = x1 at *
    generalize dt m (sc (bk k ρ A) k (fun i => A i k)) = x2 at *
    generalize dt m (sc (bk k ρ A) r (fun i => A i c)) = x3 at *
    generalize dt m (sc (bk k ρ A) k (fun i => A i c)) = x4 at *
    generalize dt m (sc (bk k ρ A) r (fun i => A i k)) = x5 at *
    grind
theorem BI_zero {m : Nat} {A : Nat → Nat → Int} {k : Nat} {ρ : Nat → Nat} {s d : Int} {sq : Nat → Nat → Int} (h : BI m A k ρ s d sq) (hk : k < m) (hz : ∀ r, k ≤ r → r < m → sq r k = 0) : dt m A = 0 := by
  obtain ⟨h1, h2, h3, h4⟩ := h
  have hs : s ≠ 0 := by intro e; rw [e] at h1; simp at h1
  have hD : dt m (bk k ρ A) ≠ 0 := by
    rw [h3]; exact Int.mul_ne_zero hs h2
  have hN : ∀ r, k ≤ r → r < m → dt m (sc (bk k ρ A) r (fun i => A i k)) = 0 := fun r hr hrm => by
    have := h4 r k hr hrm (Nat.le_refl _) hk
    rw [hz r hr hrm] at this
    rcases Int.mul_eq_zero.mp this.symm with q | q
    · exact absurd q hs
    · exact q
  have h5 : dt m (sc A k (fun i => dt m (bk k ρ A) * A i k)) = dt m (sc A k (fun i => sm m (fun c => dt m (sc (bk k ρ A) c (fun i => A i k)) * bk k ρ A i c))) := dt_congr (fun i j hi _ => by
    unfold sc
    split
    · exact (dt_adj (bk k ρ A) (fun i => A i k) hi).symm
    · rfl)
  rw [dt_mulc A hk, sc_self, dt_smc A hk, sm_zero (fun c hc => by
    by_cases q : c < k
    · have : dt m (sc A k (fun i => bk k ρ A i c)) = 0 := dt_two (c := k) (d := c) hk hc (by omega) (fun i _ => by simp [sc, bk, q, show c ≠ k by omega])
      rw [this, Int.mul_zero]
    · rw [hN c (by omega) hc, Int.zero_mul])] at h5
  rcases Int.mul_eq_zero.mp h5 with q | q
  · exact absurd q hD
  · exact q
theorem BI_end {m : Nat} {A : Nat → Nat → Int} {ρ : Nat → Nat} {s d : Int} {sq : Nat → Nat → Int} (h : BI (m + 1) A m ρ s d sq) : dt (m + 1) A = s * sq m m := by
  obtain ⟨h1, h2, h3, h4⟩ := h
  rw [h4 m m (Nat.le_refl _) (by omega) (Nat.le_refl _) (by omega), ← bk_succ]
  have e : dt (m + 1) (bk (m + 1) ρ A) = dt (m + 1) A := dt_congr (fun i j _ hj => if_pos hj)
  rw [e]; grind
/-- the bounds of all that is met on the way: columns balanced by p, 1 at least each, 151 in all -/
theorem BI_bound {m : Nat} {A : Nat → Nat → Int} {k : Nat} {ρ : Nat → Nat} {p : Nat → Int} (hm : m ≤ 6) (hρ : ∀ i, i < m → ρ i < m) (hA : ∀ c, c < m → bl m (fun i => A i c) (p c)) (hp : ∀ c, c < m → 1 ≤ p c) (hs : sm m p ≤ 151) {r c : Nat} (hr : r < m) (hkr : k ≤ r) (hkc : k ≤ c) (hc : c < m) : -255000000 ≤ dt m (sc (bk k ρ A) r (fun i => A i c)) ∧ dt m (sc (bk k ρ A) r (fun i => A i c)) ≤ 255000000 := by
  let q : Nat → Int := fun j => if j = r then p c else if j < k then p j else 1
  have hq : ∀ j, j < m → bl m (fun i => sc (bk k ρ A) r (fun i => A i c) i j) (q j) := fun j hj => by
    show bl m _ (if j = r then p c else if j < k then p j else 1)
    by_cases e : j = r
    · subst e
      rw [if_pos rfl]
      exact bl_congr (hA c hc) (fun i _ => by simp [sc])
    · rw [if_neg e]
      by_cases e2 : j < k
      · rw [if_pos e2]
        exact bl_congr (hA j hj) (fun i _ => by simp [sc, bk, e, e2])
      · rw [if_neg e2]
        exact bl_congr (bl_dl (hρ j hj)) (fun i _ => by simp [sc, bk, e, e2])
  have hsum : sm m q ≤ sm m p := by
    have h : sm m q ≤ sm m (fun j => p j + (dl j r * (p c - p r) + dl j c * (1 - p c) + (if r = c then dl j c * (p c - 1) else 0))) := sm_le (fun j hj => by
      have := hp j hj
      have := hp c hc
      have := hp r hr
      show (if j = r then p c else if j < k then p j else 1) ≤ _
      by_cases e : j = r
      · subst e
        rw [if_pos rfl, dl_self]
        by_cases e2 : j = c
        · subst e2; rw [dl_self]; simp; omega
        · rw [dl_ne e2]; simp [e2]; omega
      · rw [if_neg e, dl_ne e]
        by_cases e2 : j = c
        · subst e2
          rw [dl_self, if_neg (by omega)]; simp [Ne.symm e]; omega
        · rw [dl_ne e2]; simp; split <;> omega)
    rw [sm_add, sm_add, sm_add, sm_dl hr (fun _ => p c - p r), sm_dl hc (fun _ => 1 - p c)] at h
    have h3 : sm m (fun j => if r = c then dl j c * (p c - 1) else 0) = if r = c then p c - 1 else 0 := by
      by_cases e : r = c
      · simp only [if_pos e]; rw [sm_dl hc (fun _ => p c - 1)]
      · simp only [if_neg e]; exact sm_zero (fun _ _ => rfl)
    rw [h3] at h
    have := hp c hc
    have := hp r hr
    have e9 : sm m (fun j => p j) = sm m p := rfl
    by_cases e : r = c
    · subst e; simp at h; omega
    · simp [e] at h; omega
  have h1 := dt_bl hq
  have h2 := pr_le6 hm (fun i hi => bl_nonneg (hq i hi)) (by omega)
  omega
