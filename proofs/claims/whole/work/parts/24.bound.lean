/-! BOUNDS of what nets of at most 7 knots and 12 wires of width 6 give -/
theorem bl_add {n : Nat} {f g : Nat → Int} {p q : Int} (h : bl n f p) (k : bl n g q) : bl n (fun i => f i + g i) (p + q) := by
  have a1 : sm n (fun j => pz (f j + g j)) ≤ sm n (fun j => pz (f j) + pz (g j)) := sm_le (fun i _ => pz_add _ _)
  have a2 : sm n (fun j => pz (- (f j + g j))) ≤ sm n (fun j => pz (- f j) + pz (- g j)) := sm_le (fun i _ => by rw [Int.neg_add]; exact pz_add _ _)
  rw [sm_add] at a1 a2
  have h1 := h.1
  have h2 := h.2
  have k1 := k.1
  have k2 := k.2
  exact ⟨by show sm n (fun j => pz (f j + g j)) ≤ p + q; omega, by show sm n (fun j => pz (- (f j + g j))) ≤ p + q; omega⟩
theorem bl_zero (n : Nat) : bl n (fun _ => 0) 0 := ⟨Int.le_of_eq (sm_zero (f := fun _ => pz 0) (fun _ _ => rfl)), Int.le_of_eq (sm_zero (f := fun _ => pz (-0)) (fun _ _ => rfl))⟩
theorem bl_le {n : Nat} {f : Nat → Int} {p q : Int} (h : bl n f p) (hq : p ≤ q) : bl n f q := ⟨Int.le_trans h.1 hq, Int.le_trans h.2 hq⟩
theorem bl_congr {n : Nat} {f g : Nat → Int} {p : Int} (h : bl n f p) (e : ∀ i, i < n → f i = g i) : bl n g p := by
  have e1 : sm n (fun j => pz (g j)) = sm n (fun j => pz (f j)) := sm_congr (fun i hi => by rw [e i hi])
  have e2 : sm n (fun j => pz (- g j)) = sm n (fun j => pz (- f j)) := sm_congr (fun i hi => by rw [e i hi])
  exact ⟨by rw [e1]; exact h.1, by rw [e2]; exact h.2⟩
theorem pz_zero : pz 0 = 0 := rfl
theorem bl_dl {n k : Nat} (hk : k < n) : bl n (fun i => dl i k) 1 := by
  constructor
  · show sm n (fun i => pz (dl i k)) ≤ 1
    rw [sm_one hk (fun i _ hne => by rw [dl_ne hne]; rfl), dl_self]; decide
  · show sm n (fun i => pz (- dl i k)) ≤ 1
    rw [sm_zero (fun i _ => by unfold dl; split <;> rfl)]; omega
theorem bl_pair {n a b : Nat} (ha : a < n) (hb : b < n) (c : Int) : bl n (fun i => c * (dl i a - dl i b)) (pz c + pz (-c)) := by
  have key : ∀ c : Int, sm n (fun i => pz (c * (dl i a - dl i b))) ≤ pz c + pz (-c) := fun c => by
    have h : sm n (fun i => pz (c * (dl i a - dl i b))) ≤ sm n (fun i => dl i a * pz c + dl i b * pz (-c)) := sm_le (fun i _ => by
      unfold dl
      split <;> split
      · simp [pz_zero]; have := pz_nonneg c; have := pz_nonneg (-c); omega
      · simp
      · simp
      · simp [pz_zero])
    rw [sm_add, sm_dl ha (fun _ => pz c), sm_dl hb (fun _ => pz (-c))] at h
    exact h
  have h2 := key (-c)
  rw [Int.neg_neg] at h2
  refine ⟨key c, ?_⟩
  have e : sm n (fun j => pz (- (c * (dl j a - dl j b)))) = sm n (fun i => pz (-c * (dl i a - dl i b))) := sm_congr (fun i _ => by rw [Int.neg_mul])
  rw [e]; omega
/-- nets as the document has them -/
def NetOK (n E : Nat) (fa ta : Nat → Nat) (wd : Nat → Int) : Prop := n ≤ 7 ∧ E ≤ 12 ∧ (∀ w, w < E → fa w < n) ∧ (∀ w, w < E → ta w < n) ∧ ∀ w, w < E → 0 ≤ wd w ∧ wd w ≤ 6
theorem lp_bl {n E : Nat} {fa ta : Nat → Nat} {wd : Nat → Int} (hf : ∀ w, w < E → fa w < n) (ht : ∀ w, w < E → ta w < n) (hw : ∀ w, w < E → 0 ≤ wd w) (j : Nat) : bl n (fun i => lp E fa ta wd i j) (lp E fa ta wd j j) := by
  induction E with
  | zero => exact bl_zero n
  | succ E ih =>
    refine bl_le (bl_add (ih (fun w h => hf w (by omega)) (fun w h => ht w (by omega)) (fun w h => hw w (by omega))) (bl_congr (bl_pair (hf E (by omega)) (ht E (by omega)) (wd E * (dl j (fa E) - dl j (ta E)))) (fun i _ => show _ = wd E * ((dl i (fa E) - dl i (ta E)) * (dl j (fa E) - dl j (ta E))) by grind))) ?_
    show lp E fa ta wd j j + _ ≤ lp E fa ta wd j j + wd E * ((dl j (fa E) - dl j (ta E)) * (dl j (fa E) - dl j (ta E)))
    have h0 := hw E (by omega)
    have : pz (wd E * (dl j (fa E) - dl j (ta E))) + pz (-(wd E * (dl j (fa E) - dl j (ta E)))) ≤ wd E * ((dl j (fa E) - dl j (ta E)) * (dl j (fa E) - dl j (ta E))) := by
      unfold dl pz
      split <;> split <;> simp <;> omega
    omega
theorem lp_nonneg {n E : Nat} {fa ta : Nat → Nat} {wd : Nat → Int} (hf : ∀ w, w < E → fa w < n) (ht : ∀ w, w < E → ta w < n) (hw : ∀ w, w < E → 0 ≤ wd w) (j : Nat) : 0 ≤ lp E fa ta wd j j := bl_nonneg (lp_bl hf ht hw j)
theorem lp_sum {n : Nat} {fa ta : Nat → Nat} {wd : Nat → Int} : ∀ {E : Nat}, (∀ w, w < E → fa w < n) → (∀ w, w < E → ta w < n) → (∀ w, w < E → 0 ≤ wd w ∧ wd w ≤ 6) → sm n (fun c => lp E fa ta wd c c) ≤ 12 * (E : Int)
  | 0, _, _, _ => by
    have : sm n (fun c => lp 0 fa ta wd c c) = 0 := sm_zero (fun _ _ => rfl)
    omega
  | E + 1, hf, ht, hw => by
    have ih := lp_sum (E := E) (fun w h => hf w (by omega)) (fun w h => ht w (by omega)) (fun w h => hw w (by omega))
    have h0 := hw E (by omega)
    have h : sm n (fun c => lp (E + 1) fa ta wd c c) ≤ sm n (fun c => lp E fa ta wd c c + (dl c (fa E) * wd E + dl c (ta E) * wd E)) := sm_le (fun c _ => by
      show lp E fa ta wd c c + wd E * ((dl c (fa E) - dl c (ta E)) * (dl c (fa E) - dl c (ta E))) ≤ _
      have : wd E * ((dl c (fa E) - dl c (ta E)) * (dl c (fa E) - dl c (ta E))) ≤ dl c (fa E) * wd E + dl c (ta E) * wd E := by
        unfold dl
        split <;> split <;> simp <;> omega
      omega)
    rw [sm_add, sm_add, sm_dl (hf E (by omega)) (fun _ => wd E), sm_dl (ht E (by omega)) (fun _ => wd E)] at h
    omega
def ph (E : Nat) (fa ta : Nat → Nat) (wd : Nat → Int) (c : Nat) : Int := lp E fa ta wd c c + 1
theorem ph_sum {n E : Nat} {fa ta : Nat → Nat} {wd : Nat → Int} (h : NetOK n E fa ta wd) : sm n (ph E fa ta wd) ≤ 151 := by
  obtain ⟨h7, hE, hf, ht, hw⟩ := h
  have h1 := lp_sum hf ht hw
  have e : sm n (ph E fa ta wd) = sm n (fun c => lp E fa ta wd c c) + sm n (fun _ => 1) := by rw [← sm_add]; rfl
  have e2 : ∀ m : Nat, sm m (fun _ => (1 : Int)) = (m : Int) := fun m => by
    induction m with
    | zero => rfl
    | succ m ih => show sm m _ + 1 = _; rw [ih]; omega
  rw [e, e2]; omega
theorem ph_pos {n E : Nat} {fa ta : Nat → Nat} {wd : Nat → Int} (h : NetOK n E fa ta wd) (c : Nat) : 1 ≤ ph E fa ta wd c := by
  have := lp_nonneg h.2.2.1 h.2.2.2.1 (fun w hw => (h.2.2.2.2 w hw).1) c
  unfold ph; omega
/-- any matrix whose columns are those of the net, each once, or units -/
theorem mat_bound {n E : Nat} {fa ta : Nat → Nat} {wd : Nat → Int} (h : NetOK n E fa ta wd) {B : Nat → Nat → Int} {q : Nat → Int} (hB : ∀ c, c < n → bl n (fun i => B i c) (q c)) (hq : sm n q ≤ 151) : -2200000000 ≤ dt n B ∧ dt n B ≤ 2200000000 := by
  have h1 := dt_bl hB
  have h2 := pr_le7 h.1 (fun i hi => bl_nonneg (hB i hi)) hq
  omega
theorem sm_sk_le {m c : Nat} {q : Nat → Int} (hc : c < m + 1) (h0 : 0 ≤ q c) : sm m (fun i => q (sk c i)) ≤ sm (m + 1) q := by
  rw [sm_sk' hc]; omega
theorem mat_bound6 {n E : Nat} {fa ta : Nat → Nat} {wd : Nat → Int} (h : NetOK n E fa ta wd) {B : Nat → Nat → Int} {q : Nat → Int} {k : Nat} (hk : k < n) (hqk : q k = 1) (hB : ∀ c, c < n → bl n (fun i => B i c) (q c)) (hq : sm n q ≤ 151) : -255000000 ≤ dt n B ∧ dt n B ≤ 255000000 := by
  have h1 := dt_bl hB
  obtain ⟨m, rfl⟩ : ∃ m, n = m + 1 := ⟨n - 1, by omega⟩
  have h7 := h.1
  have hs := sm_sk_le hk (by rw [hqk]; omega : 0 ≤ q k)
  have h2 := pr_le6 (n := m) (q := fun i => q (sk k i)) (by omega) (fun i hi => bl_nonneg (hB _ (sk_lt hi))) (by omega)
  rw [pr_sk q hk, hqk, Int.one_mul] at h1
  omega
theorem mat_bound5 {n E : Nat} {fa ta : Nat → Nat} {wd : Nat → Int} (h : NetOK n E fa ta wd) {B : Nat → Nat → Int} {q : Nat → Int} {k a : Nat} (hk : k < n) (ha : a < n) (hne : a ≠ k) (hqk : q k = 1) (hqa : q a = 1) (hB : ∀ c, c < n → bl n (fun i => B i c) (q c)) (hq : sm n q ≤ 151) : -25200000 ≤ dt n B ∧ dt n B ≤ 25200000 := by
  have h1 := dt_bl hB
  obtain ⟨m, rfl⟩ : ∃ m, n = m + 1 + 1 := ⟨n - 2, by omega⟩
  have h7 := h.1
  have hs := sm_sk_le hk (by rw [hqk]; omega : 0 ≤ q k)
  obtain ⟨a', ha', ea⟩ : ∃ a', a' < m + 1 ∧ sk k a' = a := by
    by_cases e : a < k
    · exact ⟨a, by omega, sk_lo e⟩
    · exact ⟨a - 1, by omega, by rw [sk_hi (by omega)]; omega⟩
  have hs2 := sm_sk_le (q := fun i => q (sk k i)) ha' (by rw [ea, hqa]; omega)
  have h2 := pr_le5 (n := m) (q := fun i => q (sk k (sk a' i))) (by omega) (fun i hi => bl_nonneg (hB _ (sk_lt (sk_lt hi)))) (by omega)
  rw [pr_sk q hk, hqk, Int.one_mul, pr_sk (fun i => q (sk k i)) ha', ea, hqa, Int.one_mul] at h1
  omega
theorem bm_blc {n E : Nat} {fa ta : Nat → Nat} {wd : Nat → Int} (h : NetOK n E fa ta wd) (S : Nat → Bool) {c : Nat} (hc : c < n) : bl n (fun i => bm S (lp E fa ta wd) i c) (if S c = true then ph E fa ta wd c else 1) := by
  unfold bm
  cases S c with
  | true => exact bl_le (lp_bl h.2.2.1 h.2.2.2.1 (fun w hw => (h.2.2.2.2 w hw).1) c) (by unfold ph; simp; omega)
  | false => exact bl_dl hc
theorem bm_sum {n E : Nat} {fa ta : Nat → Nat} {wd : Nat → Int} (h : NetOK n E fa ta wd) (S : Nat → Bool) : sm n (fun c => if S c = true then ph E fa ta wd c else 1) ≤ 151 := by
  refine Int.le_trans (sm_le (fun c _ => ?_)) (ph_sum h)
  show (if S c = true then ph E fa ta wd c else 1) ≤ ph E fa ta wd c
  have := ph_pos h c
  split <;> omega
theorem Dn_bound {n E : Nat} {fa ta : Nat → Nat} {wd : Nat → Int} (h : NetOK n E fa ta wd) {S : Nat → Bool} {k : Nat} (hk : k < n) (hS : S k = false) : -255000000 ≤ Dn n (lp E fa ta wd) S ∧ Dn n (lp E fa ta wd) S ≤ 255000000 :=
  mat_bound6 h hk (by simp [hS]) (fun c hc => bm_blc h S hc) (bm_sum h S)
/-- a column y in the place of one of the net's -/
theorem scy_bound {n E : Nat} {fa ta : Nat → Nat} {wd : Nat → Int} (h : NetOK n E fa ta wd) {S : Nat → Bool} {k a : Nat} (hk : k < n) (ha : a < n) (hne : a ≠ k) (hS : S k = false) {y : Nat → Int} (hy : bl n y 1) : -25200000 ≤ dt n (sc (bm S (lp E fa ta wd)) a y) ∧ dt n (sc (bm S (lp E fa ta wd)) a y) ≤ 25200000 := by
  refine mat_bound5 h (q := fun c => if c = a then 1 else if S c = true then ph E fa ta wd c else 1) hk ha hne (by simp [hS, Ne.symm hne]) (by simp) (fun c hc => ?_) ?_
  · by_cases e : c = a
    · subst e
      simp only [if_pos trivial]
      exact bl_congr hy (fun i _ => by simp [sc])
    · simp only [if_neg e]
      exact bl_congr (bm_blc h S hc) (fun i _ => by simp [sc, e])
  · refine Int.le_trans (sm_le (fun c _ => ?_)) (ph_sum h)
    have := ph_pos h c
    split
    · omega
    · split <;> omega
theorem cl_bound {n E : Nat} {fa ta : Nat → Nat} {wd : Nat → Int} (h : NetOK n E fa ta wd) (S : Nat → Bool) {i j : Nat} (hi : i < n) (hj : j < n) : -2200000000 ≤ cl n (lp E fa ta wd) S i j ∧ cl n (lp E fa ta wd) S i j ≤ 2200000000 := by
  have hN : -2200000000 ≤ Nn n (lp E fa ta wd) S i j ∧ Nn n (lp E fa ta wd) S i j ≤ 2200000000 := by
    cases hs : S j with
    | true =>
      refine mat_bound h (q := fun c => if c = i then 1 else if S c = true then ph E fa ta wd c else 1) (fun c hc => ?_) ?_
      · by_cases e : c = i
        · subst e
          simp only [if_pos trivial]
          exact bl_congr (bl_dl hj) (fun a _ => by simp [sc, wv, hs])
        · simp only [if_neg e]
          exact bl_congr (bm_blc h S hc) (fun a _ => by simp [sc, e])
      · refine Int.le_trans (sm_le (fun c _ => ?_)) (ph_sum h)
        have := ph_pos h c
        split
        · omega
        · split <;> omega
    | false =>
      refine mat_bound h (q := fun c => if c = i then ph E fa ta wd j else if S c = true then ph E fa ta wd c else 1) (fun c hc => ?_) ?_
      · by_cases e : c = i
        · subst e
          simp only [if_pos trivial]
          exact bl_congr (bl_le (lp_bl h.2.2.1 h.2.2.2.1 (fun w hw => (h.2.2.2.2 w hw).1) j) (by unfold ph; omega)) (fun a _ => by simp [sc, wv, hs])
        · simp only [if_neg e]
          exact bl_congr (bm_blc h S hc) (fun a _ => by simp [sc, e])
      · by_cases e : i = j
        · subst e
          refine Int.le_trans (sm_le (fun c _ => ?_)) (ph_sum h)
          have := ph_pos h c
          split
          · rename_i q; subst q; omega
          · split <;> omega
        · obtain ⟨m, rfl⟩ : ∃ m, n = m + 1 := ⟨n - 1, by omega⟩
          have h1 := sm_sk' hi (fun c => if c = i then ph E fa ta wd j else if S c = true then ph E fa ta wd c else 1)
          have h2 := sm_sk' hj (fun c => ph E fa ta wd c)
          have h3 : sm (m + 1) (fun c => (if c = i then ph E fa ta wd j else if S c = true then ph E fa ta wd c else 1)) ≤ sm (m + 1) (fun c => ph E fa ta wd c + (dl c i * (ph E fa ta wd j - ph E fa ta wd i) + dl c j * (1 - ph E fa ta wd j))) := sm_le (fun c _ => by
            have := ph_pos h c
            by_cases e1 : c = i
            · subst e1
              rw [if_pos rfl, dl_self, dl_ne e]; omega
            · rw [if_neg e1, dl_ne e1]
              by_cases e2 : c = j
              · subst e2
                rw [dl_self, hs]; simp; omega
              · rw [dl_ne e2]; split <;> omega)
          rw [sm_add, sm_add, sm_dl hi (fun _ => ph E fa ta wd j - ph E fa ta wd i), sm_dl hj (fun _ => 1 - ph E fa ta wd j)] at h3
          have h4 := ph_sum h
          have h5 := ph_pos h i
          have h6 : sm (m + 1) (fun c => ph E fa ta wd c) = sm (m + 1) (ph E fa ta wd) := rfl
          omega
  unfold cl
  split <;> omega
