/-! NETS: knots taken out of a square matrix; Laplacians; what is fed -/
def dl (i k : Nat) : Int := if i = k then 1 else 0
theorem dl_self (i : Nat) : dl i i = 1 := if_pos rfl
theorem dl_ne {i k : Nat} (h : i ≠ k) : dl i k = 0 := if_neg h
theorem sm_dl {n k : Nat} (hk : k < n) (f : Nat → Int) : sm n (fun i => dl i k * f i) = f k := by
  rw [sm_one hk (fun i _ hne => by rw [dl_ne hne, Int.zero_mul]), dl_self, Int.one_mul]
theorem sm_dl' {n k : Nat} (hk : k < n) (f : Nat → Int) : sm n (fun i => f i * dl k i) = f k := by
  rw [sm_one hk (fun i _ hne => by rw [dl_ne (Ne.symm hne), Int.mul_zero]), dl_self, Int.mul_one]
theorem dt_id : ∀ m, dt m dl = 1
  | 0 => rfl
  | m + 1 => by
    rw [dt_ins (c := 0) (by omega) (fun i _ => rfl)]
    have e : dt m (mn 0 0 dl) = dt m dl := dt_congr (fun i j _ _ => by
      show (if sk 0 i = sk 0 j then (1 : Int) else 0) = if i = j then 1 else 0
      rw [sk_0, sk_0]
      by_cases h : i = j
      · rw [if_pos h, if_pos (by omega)]
      · rw [if_neg h, if_neg (by omega)])
    rw [e, dt_id m]
theorem dt_idc {m c : Nat} (hc : c < m) (x : Nat → Int) : dt m (sc dl c x) = x c := by
  have h := dt_cramer (m := m) dl hc x
  rw [dt_id, Int.mul_one] at h
  rw [← h]
  refine dt_congr (fun i j hi hj => ?_)
  show (if j = c then x i else dl i j) = (if j = c then sm m (fun k => x k * dl i k) else dl i j)
  rw [sm_dl' hi]
/-- the matrix where the columns of S are A's, the others units -/
def bm (S : Nat → Bool) (A : Nat → Nat → Int) : Nat → Nat → Int := fun i j => if S j = true then A i j else dl i j
def Dn (n : Nat) (A : Nat → Nat → Int) (S : Nat → Bool) : Int := dt n (bm S A)
def wv (S : Nat → Bool) (A : Nat → Nat → Int) (j : Nat) : Nat → Int := fun i => if S j = true then dl i j else A i j
def Nn (n : Nat) (A : Nat → Nat → Int) (S : Nat → Bool) (i j : Nat) : Int := dt n (sc (bm S A) i (wv S A j))
/-- the cells when the knots of S are taken out -/
def cl (n : Nat) (A : Nat → Nat → Int) (S : Nat → Bool) (i j : Nat) : Int := if S i = S j then Nn n A S i j else - Nn n A S i j
def insS (S : Nat → Bool) (k : Nat) : Nat → Bool := fun i => S i || decide (i = k)
theorem insS_self (S : Nat → Bool) (k : Nat) : insS S k k = true := by simp [insS]
theorem insS_ne (S : Nat → Bool) {k i : Nat} (h : i ≠ k) : insS S k i = S i := by simp [insS, h]
theorem bm_ins {S : Nat → Bool} {A : Nat → Nat → Int} {k : Nat} (_ : S k = false) : bm (insS S k) A = sc (bm S A) k (fun i => A i k) := by
  funext i j
  unfold bm sc
  by_cases e : j = k
  · subst e; simp [insS_self]
  · simp [insS_ne S e, e]
theorem wv_ins_ne {S : Nat → Bool} {A : Nat → Nat → Int} {k j : Nat} (h : j ≠ k) : wv (insS S k) A j = wv S A j := by
  funext i
  simp [wv, insS_ne S h]
theorem Dn_ins {n : Nat} {A : Nat → Nat → Int} {S : Nat → Bool} {k : Nat} (hS : S k = false) : Dn n A (insS S k) = cl n A S k k := by
  unfold Dn cl Nn
  rw [bm_ins hS, if_pos rfl]
  congr 2
  funext i
  simp [wv, hS]
theorem bool_ne {a b : Bool} (h : ¬ a = b) : a = !b := by cases a <;> cases b <;> simp_all
theorem cl_ins {n : Nat} {A : Nat → Nat → Int} {S : Nat → Bool} {k i j : Nat} (hk : k < n) (hi : i < n) (hS : S k = false) (h1 : i ≠ k) (h2 : j ≠ k) : cl n A (insS S k) i j * Dn n A S = cl n A S i j * cl n A S k k - cl n A S i k * cl n A S k j := by
  have hP := dt_P (m := n) (bm S A) hk hi h1 (fun r => A r k) (wv S A j)
  have e1 : Nn n A (insS S k) i j = dt n (sc (sc (bm S A) k (fun r => A r k)) i (wv S A j)) := by
    unfold Nn
    rw [bm_ins hS, wv_ins_ne h2]
  have e2 : wv S A k = (fun r => A r k) := by funext r; simp [wv, hS]
  have hP2 : Dn n A S * Nn n A (insS S k) i j = Nn n A S k k * Nn n A S i j - Nn n A S k j * Nn n A S i k := by
    rw [e1]
    unfold Dn Nn
    rw [e2]
    exact hP
  unfold cl
  rw [insS_ne S h1, insS_ne S h2, hS]
  simp only [if_pos trivial]
  generalize Dn n A S = d at *
  generalize Nn n A (insS S k) i j = a at *
  generalize Nn n A S k k = b at *
  generalize Nn n A S i j = c at *
  generalize Nn n A S k j = e at *
  generalize Nn n A S i k = f at *
  cases S i <;> cases S j <;> simp <;> grind
theorem cl_ins_row {n : Nat} {A : Nat → Nat → Int} {S : Nat → Bool} {k j : Nat} (hS : S k = false) (h2 : j ≠ k) : cl n A (insS S k) k j = - cl n A S k j := by
  have e1 : Nn n A (insS S k) k j = Nn n A S k j := by
    unfold Nn
    rw [bm_ins hS, wv_ins_ne h2, sc_sc]
  unfold cl
  rw [insS_ne S h2, insS_self, hS, e1]
  cases S j <;> simp
theorem cl_ins_col {n : Nat} {A : Nat → Nat → Int} {S : Nat → Bool} {k i : Nat} (hk : k < n) (hi : i < n) (hS : S k = false) (h1 : i ≠ k) : cl n A (insS S k) i k = cl n A S i k := by
  have e1 : Nn n A (insS S k) i k = - Nn n A S i k := by
    unfold Nn
    have e2 : wv (insS S k) A k = (fun r => dl r k) := by funext r; simp [wv, insS_self]
    have e3 : wv S A k = (fun r => A r k) := by funext r; simp [wv, hS]
    rw [bm_ins hS, e2, e3, dt_swap _ hk hi (Ne.symm h1)]
    have e4 : sc (bm S A) k (fun r => dl r k) = bm S A := by
      have : (fun r => dl r k) = (fun r => bm S A r k) := by funext r; simp [bm, hS]
      rw [this, sc_self]
    rw [e4]
  unfold cl
  rw [insS_ne S h1, insS_self, hS, e1]
  cases S i <;> simp
theorem cl_ins_kk {n : Nat} {A : Nat → Nat → Int} {S : Nat → Bool} {k : Nat} (hS : S k = false) : cl n A (insS S k) k k = Dn n A S := by
  unfold cl Nn Dn
  rw [if_pos rfl]
  have e2 : wv (insS S k) A k = (fun r => dl r k) := by funext r; simp [wv, insS_self]
  rw [bm_ins hS, e2, sc_sc]
  have : (fun r => dl r k) = (fun r => bm S A r k) := by funext r; simp [bm, hS]
  rw [this, sc_self]
theorem bm_none (A : Nat → Nat → Int) : bm (fun _ => false) A = dl := by funext i j; simp [bm]
theorem Dn_none (n : Nat) (A : Nat → Nat → Int) : Dn n A (fun _ => false) = 1 := by
  unfold Dn; rw [bm_none, dt_id]
theorem cl_none {n : Nat} (A : Nat → Nat → Int) {i j : Nat} (hi : i < n) : cl n A (fun _ => false) i j = A i j := by
  unfold cl Nn
  rw [if_pos rfl, bm_none, dt_idc hi]
  simp [wv]
theorem bm_congr {n : Nat} {A : Nat → Nat → Int} {S S' : Nat → Bool} (h : ∀ k, k < n → S k = S' k) : ∀ i j, i < n → j < n → bm S A i j = bm S' A i j := fun i j _ hj => by
  unfold bm; rw [h j hj]
theorem Dn_congr {n : Nat} {A A' : Nat → Nat → Int} {S S' : Nat → Bool} (h : ∀ k, k < n → S k = S' k) (hA : ∀ i j, i < n → j < n → A i j = A' i j) : Dn n A S = Dn n A' S' := dt_congr (fun i j hi hj => by
  unfold bm; rw [h j hj, hA i j hi hj])
theorem Nn_congr {n : Nat} {A A' : Nat → Nat → Int} {S S' : Nat → Bool} (h : ∀ k, k < n → S k = S' k) (hA : ∀ i j, i < n → j < n → A i j = A' i j) {i j : Nat} (hj : j < n) : Nn n A S i j = Nn n A' S' i j := dt_congr (fun a b ha hb => by
  unfold sc wv bm; rw [h j hj, h b hb, hA a b ha hb, hA a j ha hj])
theorem cl_congr {n : Nat} {A A' : Nat → Nat → Int} {S S' : Nat → Bool} (h : ∀ k, k < n → S k = S' k) (hA : ∀ i j, i < n → j < n → A i j = A' i j) {i j : Nat} (hi : i < n) (hj : j < n) : cl n A S i j = cl n A' S' i j := by
  unfold cl; rw [h i hi, h j hj, Nn_congr h hA hj]
/-- the Laplacian of E wires -/
def lp (E : Nat) (fa ta : Nat → Nat) (wd : Nat → Int) (i j : Nat) : Int := sm E (fun w => wd w * ((dl i (fa w) - dl i (ta w)) * (dl j (fa w) - dl j (ta w))))
theorem lp_sym (E : Nat) (fa ta : Nat → Nat) (wd : Nat → Int) (i j : Nat) : lp E fa ta wd i j = lp E fa ta wd j i := sm_congr (fun w _ => by rw [Int.mul_comm (dl i (fa w) - dl i (ta w))])
theorem sm_dlsub {n a b : Nat} (ha : a < n) (hb : b < n) (x : Nat → Int) : sm n (fun j => (dl j a - dl j b) * x j) = x a - x b := by
  have h : sm n (fun j => (dl j a - dl j b) * x j) = sm n (fun j => dl j a * x j - dl j b * x j) := sm_congr (fun j _ => Int.sub_mul _ _ _)
  rw [h, sm_sub, sm_dl ha, sm_dl hb]
theorem lp_x {n E : Nat} {fa ta : Nat → Nat} {wd : Nat → Int} (hf : ∀ w, w < E → fa w < n) (ht : ∀ w, w < E → ta w < n) (x : Nat → Int) (i : Nat) : sm n (fun j => lp E fa ta wd i j * x j) = sm E (fun w => wd w * ((dl i (fa w) - dl i (ta w)) * (x (fa w) - x (ta w)))) := by
  have h : sm n (fun j => lp E fa ta wd i j * x j) = sm n (fun j => sm E (fun w => wd w * (dl i (fa w) - dl i (ta w)) * ((dl j (fa w) - dl j (ta w)) * x j))) := sm_congr (fun j _ => by
    unfold lp
    rw [← sm_mulr]
    exact sm_congr (fun w _ => by grind))
  rw [h, sm_swap]
  refine sm_congr (fun w hw => ?_)
  rw [sm_mul, sm_dlsub (hf w hw) (ht w hw), Int.mul_assoc]
theorem lp_en {n E : Nat} {fa ta : Nat → Nat} {wd : Nat → Int} (hf : ∀ w, w < E → fa w < n) (ht : ∀ w, w < E → ta w < n) (x : Nat → Int) : sm n (fun i => x i * sm n (fun j => lp E fa ta wd i j * x j)) = sm E (fun w => wd w * ((x (fa w) - x (ta w)) * (x (fa w) - x (ta w)))) := by
  have h : sm n (fun i => x i * sm n (fun j => lp E fa ta wd i j * x j)) = sm n (fun i => sm E (fun w => wd w * (x (fa w) - x (ta w)) * ((dl i (fa w) - dl i (ta w)) * x i))) := sm_congr (fun i _ => by
    rw [lp_x hf ht, ← sm_mul]
    exact sm_congr (fun w _ => by grind))
  rw [h, sm_swap]
  refine sm_congr (fun w hw => ?_)
  rw [sm_mul, sm_dlsub (hf w hw) (ht w hw), Int.mul_assoc]
/-- from each knot wires of some width lead to K: no set without K is closed -/
def Fed (n E : Nat) (fa ta : Nat → Nat) (wd : Nat → Int) (K : Nat → Bool) : Prop := ∀ h : Nat → Bool, (∀ w, w < E → wd w ≠ 0 → h (fa w) = h (ta w)) → (∀ k, k < n → K k = true → h k = false) → ∀ k, k < n → h k = false
theorem Fed.mono {n E : Nat} {fa ta : Nat → Nat} {wd : Nat → Int} {K K' : Nat → Bool} (h : Fed n E fa ta wd K) (hk : ∀ k, k < n → K k = true → K' k = true) : Fed n E fa ta wd K' := fun g g1 g2 => h g g1 (fun k hk1 hk2 => g2 k hk1 (hk k hk1 hk2))
theorem Dn_unfed {n E : Nat} {fa ta : Nat → Nat} {wd : Nat → Int} {S : Nat → Bool} (hf : ∀ w, w < E → fa w < n) (ht : ∀ w, w < E → ta w < n) (h : ¬ Fed n E fa ta wd (fun k => !S k)) : Dn n (lp E fa ta wd) S = 0 := by
  obtain ⟨g, h⟩ := Classical.not_forall.mp h
  obtain ⟨g1, h⟩ := Classical.not_imp.mp h
  obtain ⟨g2, h⟩ := Classical.not_imp.mp h
  obtain ⟨k, h⟩ := Classical.not_forall.mp h
  obtain ⟨hk, h⟩ := Classical.not_imp.mp h
  have hgk : g k = true := by simpa using h
  have hc := dt_cramer (m := n) (bm S (lp E fa ta wd)) hk (fun i => if g i = true then 1 else 0)
  simp only [hgk, if_true, Int.one_mul] at hc
  unfold Dn
  rw [← hc]
  refine dt_zcol _ hk (fun r hr => ?_)
  have e : sm n (fun j => (if g j = true then 1 else 0) * bm S (lp E fa ta wd) r j) = sm n (fun j => lp E fa ta wd r j * (if g j = true then 1 else 0)) := sm_congr (fun j hj => by
    cases hg : g j with
    | false => simp
    | true =>
      have hS : S j = true := by
        cases hs : S j with
        | true => rfl
        | false => exact absurd (g2 j hj (by simp [hs])) (by simp [hg])
      simp [bm, hS])
  rw [e, lp_x hf ht]
  refine sm_zero (fun w hw => ?_)
  by_cases q : wd w = 0
  · rw [q, Int.zero_mul]
  · rw [g1 w hw q, Int.sub_self, Int.mul_zero, Int.mul_zero]
/-- one knot more is taken out -/
theorem Dn_step {n E : Nat} {fa ta : Nat → Nat} {wd : Nat → Int} {S : Nat → Bool} {t : Nat} (hf : ∀ w, w < E → fa w < n) (ht : ∀ w, w < E → ta w < n) (hw : ∀ w, w < E → 0 ≤ wd w) (htn : t < n) (hS : S t = false) (hD : 0 < Dn n (lp E fa ta wd) S) (hF : Fed n E fa ta wd (fun k => !insS S t k)) : 0 < Dn n (lp E fa ta wd) (insS S t) := by
  let L := lp E fa ta wd
  let x : Nat → Int := fun i => if i = t then Dn n L S else if S i = true then - Nn n L S i t else 0
  have hx : ∀ r, r < n → sm n (fun j => L r j * x j) = if S r = true then 0 else Nn n L S r t := fun r hr => by
    have ha := dt_adj (m := n) (bm S L) (wv S L t) hr
    have ewt : wv S L t r = L r t := by simp [wv, hS]
    have hsum : sm n (fun j => L r j * x j) + sm n (fun c => Nn n L S c t * bm S L r c) = sm n (fun j => dl j t * (L r t * Dn n L S)) + sm n (fun j => (if S j = true then 0 else Nn n L S j t) * dl r j) := by
      rw [← sm_add, ← sm_add]
      refine sm_congr (fun j hj => ?_)
      by_cases e : j = t
      · subst e
        simp only [x, bm, hS, if_pos trivial, dl_self]
        simp
      · simp only [x, if_neg e, dl_ne e]
        cases hs : S j with
        | true => simp only [bm, hs, if_true]; grind
        | false => simp [bm, hs]
    rw [sm_dl htn, sm_dl' hr] at hsum
    have ha2 : sm n (fun c => Nn n L S c t * bm S L r c) = Dn n L S * L r t := by
      rw [← ewt]; exact ha
    rw [ha2] at hsum
    have := Int.mul_comm (Dn n L S) (L r t)
    omega
  have hen := lp_en (n := n) (wd := wd) hf ht x
  have h1 : sm n (fun i => x i * sm n (fun j => lp E fa ta wd i j * x j)) = Dn n L S * Nn n L S t t := by
    have : sm n (fun i => x i * sm n (fun j => lp E fa ta wd i j * x j)) = sm n (fun i => dl i t * (Dn n L S * Nn n L S t t)) := sm_congr (fun i hi => by
      have h2 : sm n (fun j => lp E fa ta wd i j * x j) = _ := hx i hi
      rw [h2]
      by_cases e : i = t
      · subst e
        simp [x, hS, dl_self]
      · simp only [x, if_neg e, dl_ne e]
        cases S i <;> simp)
    rw [this, sm_dl htn]
  rw [h1] at hen
  have e0 : Dn n L (insS S t) = Nn n L S t t := by rw [Dn_ins hS]; simp [cl]
  show 0 < Dn n L (insS S t)
  rw [e0]
  have hnn : 0 ≤ sm E (fun w => wd w * ((x (fa w) - x (ta w)) * (x (fa w) - x (ta w)))) := sm_nonneg (fun w hw' => Int.mul_nonneg (hw w hw') (by
    rcases Int.le_total 0 (x (fa w) - x (ta w)) with q | q
    · exact Int.mul_nonneg q q
    · exact Int.mul_nonneg_of_nonpos_of_nonpos q q))
  rw [← hen] at hnn
  have h0 : 0 ≤ Nn n L S t t := by
    rcases Int.lt_or_le (Nn n L S t t) 0 with q | q
    · have := Int.mul_neg_of_pos_of_neg hD q
      exact absurd hnn (by show ¬ 0 ≤ Dn n L S * Nn n L S t t; exact Int.not_le.mpr this)
    · exact q
  rcases Int.lt_or_eq_of_le h0 with q | q
  · exact q
  · exfalso
    rw [← q, Int.mul_zero] at hen
    have hz := sm_nonneg_zero (n := E) (f := fun w => wd w * ((x (fa w) - x (ta w)) * (x (fa w) - x (ta w)))) (fun w hw' => Int.mul_nonneg (hw w hw') (by
      rcases Int.le_total 0 (x (fa w) - x (ta w)) with q | q
      · exact Int.mul_nonneg q q
      · exact Int.mul_nonneg_of_nonpos_of_nonpos q q)) hen.symm
    have hh := hF (fun i => decide (x i ≠ 0)) (fun w hw' hne => by
      have h3 := hz w hw'
      rcases Int.mul_eq_zero.mp h3 with z | z
      · exact absurd z hne
      · have : x (fa w) - x (ta w) = 0 := by
          rcases Int.mul_eq_zero.mp z with z | z <;> exact z
        have : x (fa w) = x (ta w) := by omega
        rw [this]) (fun k hk hk2 => by
      have : insS S t k = false := by simpa using hk2
      have e1 : k ≠ t := fun e => by subst e; rw [insS_self] at this; cases this
      rw [insS_ne S e1] at this
      simp [x, e1, this]) t htn
    have : x t = Dn n L S := if_pos rfl
    simp only [this] at hh
    have h9 : Dn n L S = 0 := by simpa using hh
    have hD' : 0 < Dn n L S := hD
    omega
/-- S from t on -/
def frm (S : Nat → Bool) (t : Nat) : Nat → Bool := fun k => S k && decide (t ≤ k)
theorem frm_0 (S : Nat → Bool) : frm S 0 = S := by funext k; simp [frm]
theorem frm_end {n : Nat} (S : Nat → Bool) : ∀ k, k < n → frm S n k = (fun _ => false) k := fun k hk => by simp [frm, Nat.not_le.mpr hk]
theorem frm_in {S : Nat → Bool} {t : Nat} (h : S t = true) : frm S t = insS (frm S (t + 1)) t := by
  funext k
  unfold frm insS
  by_cases e : k = t
  · subst e; simp [h]
  · by_cases q : t ≤ k
    · have : t + 1 ≤ k := by omega
      simp [e, q, this]
    · have : ¬ t + 1 ≤ k := by omega
      simp [e, q, this]
theorem frm_out {S : Nat → Bool} {t : Nat} (h : S t = false) : frm S t = frm S (t + 1) := by
  funext k
  unfold frm
  by_cases e : k = t
  · subst e; simp [h]
  · by_cases q : t ≤ k
    · have : t + 1 ≤ k := by omega
      simp [q, this]
    · have : ¬ t + 1 ≤ k := by omega
      simp [q, this]
theorem frm_self (S : Nat → Bool) (t : Nat) : frm S (t + 1) t = false := by simp [frm]
theorem Dn_frm {n E : Nat} {fa ta : Nat → Nat} {wd : Nat → Int} {S : Nat → Bool} (hf : ∀ w, w < E → fa w < n) (ht : ∀ w, w < E → ta w < n) (hw : ∀ w, w < E → 0 ≤ wd w) (hF : Fed n E fa ta wd (fun k => !S k)) : ∀ (d t : Nat), t + d = n → 0 < Dn n (lp E fa ta wd) (frm S t)
  | 0, t, h => by
    have : Dn n (lp E fa ta wd) (frm S t) = 1 := by
      rw [Dn_congr (S' := fun _ => false) (A' := lp E fa ta wd) (fun k hk => by rw [show t = n by omega]; exact frm_end S k hk) (fun _ _ _ _ => rfl), Dn_none]
    rw [this]; omega
  | d + 1, t, h => by
    have ih := Dn_frm hf ht hw hF d (t + 1) (by omega)
    cases hs : S t with
    | false => rw [frm_out hs]; exact ih
    | true =>
      rw [frm_in hs]
      refine Dn_step hf ht hw (by omega) (frm_self S t) ih (hF.mono (fun k hk h2 => ?_))
      rw [← frm_in hs]
      have : S k = false := by simpa using h2
      simp [frm, this]
theorem Dn_pos {n E : Nat} {fa ta : Nat → Nat} {wd : Nat → Int} {S : Nat → Bool} (hf : ∀ w, w < E → fa w < n) (ht : ∀ w, w < E → ta w < n) (hw : ∀ w, w < E → 0 ≤ wd w) (hF : Fed n E fa ta wd (fun k => !S k)) : 0 < Dn n (lp E fa ta wd) S := by
  have := Dn_frm hf ht hw hF n 0 (by omega)
  rwa [frm_0] at this
