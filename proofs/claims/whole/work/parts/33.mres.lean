/-! THE REFERENCE'S minor, cramer, findResist: Dn, Nn, Rn -/
/-- all but side, rows, columns, square alike -/
def eqS (t t' : MT) : Prop := m_under t' = m_under t ∧ m_woken t' = m_woken t ∧ m_resist t' = m_resist t ∧ m_gets t' = m_gets t ∧ m_picked t' = m_picked t ∧ m_more t' = m_more t ∧ m_bestMore t' = m_bestMore t ∧ m_order t' = m_order t ∧ m_bestOrder t' = m_bestOrder t ∧ m_now t' = m_now t
theorem eqS.rfl' {t : MT} : eqS t t := ⟨rfl, rfl, rfl, rfl, rfl, rfl, rfl, rfl, rfl, rfl⟩
theorem eqS.trans {t t' t'' : MT} (h : eqS t t') (k : eqS t' t'') : eqS t t'' := by
  obtain ⟨a1, a2, a3, a4, a5, a6, a7, a8, a9, a10⟩ := h
  obtain ⟨b1, b2, b3, b4, b5, b6, b7, b8, b9, b10⟩ := k
  exact ⟨b1.trans a1, b2.trans a2, b3.trans a3, b4.trans a4, b5.trans a5, b6.trans a6, b7.trans a7, b8.trans a8, b9.trans a9, b10.trans a10⟩
/-- the knots that are not in a set -/
def cS (B : Nat) (k : Nat) : Bool := !bt7 B k
theorem eM_lt2 {S : Nat → Bool} {a b : Nat} (hab : a < b) (ha : S a = false) (hb : S b = false) : ∀ {n}, b < n → eM S n + 2 ≤ n
  | n + 1, h => by
    by_cases e : b = n
    · subst e
      rw [eM_f hb]
      have := eM_lt ha hab
      omega
    · have := eM_lt2 hab ha hb (n := n) (by omega)
      cases h : S n with
      | true => rw [eM_t h]; omega
      | false => rw [eM_f h]; omega
section MRES
variable {c : CS} {but : Int32} {m : Nat}
/-- the square is filled, and its determinant told -/
theorem fill_ok {K : Int64 → CS → MT → Prop} {t1 : MT} {R C : Nat → Nat} {p : Nat → Int} (hC : CI c) (hside : m_side t1 = nI m) (hm : m ≤ 6) (hR : ∀ i, i < m → m_rows t1 i = nI (R i) ∧ R i < kN c) (hCc : ∀ i, i < m → m_columns t1 i = nI (C i) ∧ C i < kN c)
    (hA : ∀ j, j < m → bl m (fun i => kL c but (R i) (C j)) (p j)) (hp : ∀ j, j < m → 1 ≤ p j) (hs : sm m p ≤ 151)
    (hK : ∀ (r : Int64) (f : Nat → Int64), r.toInt = dt m (fun i j => kL c but (R i) (C j)) → K r c (ms_square t1 f)) : nd_X6_minor_99 K but c t1 := by
  show ∃ n102 : Nat, nd_X6_minor_102 K n102 but (nI 0) c (ms_square t1 (m_square t1))
  let J : Nat → Nat → (Nat → Int64) → Prop := fun r j f => ∀ a b, a < m → b < m → (a < r ∨ (a = r ∧ b < j)) → (f (7 * a + b)).toInt = kL c but (R a) (C b)
  refine upto (fun n r (f : Nat → Int64) => nd_X6_minor_102 K n but (nI r) c (ms_square t1 f)) (fun r f => J r 0 f) m 0 _ (by omega) (fun a b _ _ h => by omega) ?_ ?_
  · intro n f hf
    refine ⟨fun _ => det_ok (t0 := ms_square t1 f) (m := m) (A := fun i j => kL c but (R i) (C j)) (p := p) hside hm hA hp hs (fun a b ha hb => hf a b ha hb (by omega)) (fun r g hr => hK r g hr), fun h => absurd (show m_side t1 ≤ nI m from by rw [hside]; exact Int32.le_refl _) h⟩
  · intro n r f hr _ hf hW
    refine ⟨fun h => absurd h (by show ¬ m_side t1 ≤ nI r; rw [hside]; exact nI_ge hr (by omega)), fun _ => ?_⟩
    show ∃ n114 : Nat, nd_X6_minor_114 K _ n114 but (nI r) (nI 0) c (ms_square t1 f)
    refine upto (fun n' j (f : Nat → Int64) => nd_X6_minor_114 K (fun v4 v5 c t => nd_X6_minor_102 K n v4 v5 c t) n' but (nI r) (nI j) c (ms_square t1 f)) (fun j f => J r j f) m 0 f (by omega) hf ?_ ?_
    · intro n' g hg
      refine ⟨fun _ => ?_, fun h => absurd (show m_side t1 ≤ nI m from by rw [hside]; exact Int32.le_refl _) h⟩
      show nd_X6_minor_102 K n but (nI r + 1) c (ms_square t1 g)
      rw [nI_1]
      exact hW g (fun a b ha hb h => hg a b ha hb (by omega))
    · intro n' j g hj _ hg hW'
      refine ⟨fun h => absurd h (by show ¬ m_side t1 ≤ nI j; rw [hside]; exact nI_ge hj (by omega)), fun _ => ?_⟩
      refine ⟨vi (by omega) (by omega), vi (by omega) (by omega), ?_⟩
      rw [cl_ (by omega), cl_ (by omega)]
      show wp_X6_between (m_rows t1 r) (m_columns t1 j) but c (ms_square t1 g) _
      rw [(hR r hr).1, (hCc j hj).1]
      refine btw_ok hC (hR r hr).2 (hCc j hj).2 (fun v hv => ?_)
      rw [nI_7]
      refine ⟨vi (by omega) (by omega), ?_⟩
      rw [cl_ (by omega), nI_1]
      refine hW' (vp_updL g (7 * r + j) v) (fun a b ha hb h => ?_)
      by_cases e : a = r ∧ b = j
      · obtain ⟨rfl, rfl⟩ := e
        rw [upL_s]; exact hv
      · rw [upL_n (by omega)]
        exact hg a b ha hb (by omega)
/-- the knots not in a set come into rows and columns -/
theorem minor_rows {K : Int64 → CS → MT → Prop} {t0 : MT} {B : Nat} {a b : Int32} (hC : CI c) (hB : B < 128)
    (hK : ∀ (rw cm : Nat → Int32), (∀ i, i < eM (cS B) (kN c) → rw i = nI (eF (cS B) (kN c) i) ∧ cm i = nI (eF (cS B) (kN c) i)) →
      (a = (-1 : Int32) → nd_X6_minor_99 K but c (ms_side (ms_columns (ms_rows t0 rw) cm) (nI (eM (cS B) (kN c))))) ∧
      (¬ a = (-1 : Int32) → vp_in (nI (eM (cS B) (kN c))) 7 ∧ vp_in (nI (eM (cS B) (kN c))) 7 ∧ nd_X6_minor_99 K but c (ms_side (ms_columns (ms_rows t0 (upd rw (eM (cS B) (kN c)) a)) (upd cm (eM (cS B) (kN c)) b)) (nI (eM (cS B) (kN c)) + (1 : Int32))))) : wp_X6_minor (nI B) a b but c t0 K := by
  obtain ⟨hn, -⟩ := hC
  show ∃ n8 : Nat, nd_X6_minor_8 K n8 (nI B) a b but (nI 0) c (ms_side (ms_columns (ms_rows t0 (m_rows t0)) (m_columns t0)) (nI 0))
  refine upto (fun n k (z : Nat × (Nat → Int32) × (Nat → Int32)) => nd_X6_minor_8 K n (nI B) a b but (nI k) c (ms_side (ms_columns (ms_rows t0 z.2.1) z.2.2) (nI z.1))) (fun k z => z.1 = eM (cS B) k ∧ ∀ i, i < eM (cS B) k → z.2.1 i = nI (eF (cS B) k i) ∧ z.2.2 i = nI (eF (cS B) k i)) (kN c) 0 (0, m_rows t0, m_columns t0) (by omega) ⟨rfl, fun i hi => absurd hi (Nat.not_lt_zero i)⟩ ?_ ?_
  · rintro n ⟨sd, rw_, cm⟩ ⟨h1, h2⟩
    simp only at h1 h2
    subst h1
    have hle := eM_le (S := cS B) (kN c)
    have h7 := hn.2.1
    have h := hK rw_ cm h2
    refine ⟨fun _ => ⟨fun e => h.1 e, fun e => ?_⟩, fun h => absurd (show c_n c ≤ nI (kN c) from by rw [← hn.2.2]; exact Int32.le_refl _) h⟩
    have h3 := h.2 e
    refine ⟨h3.1, h3.1, ?_⟩
    have hcl : (nI (eM (cS B) (kN c))).toNatClampNeg = eM (cS B) (kN c) := cl_ (by omega)
    show nd_X6_minor_99 K but c (ms_side (ms_columns (ms_rows t0 (upd rw_ (nI (eM (cS B) (kN c))).toNatClampNeg a)) (upd cm (nI (eM (cS B) (kN c))).toNatClampNeg b)) (nI (eM (cS B) (kN c)) + (1 : Int32)))
    rw [hcl]
    exact h3.2.2
  · rintro n k ⟨sd, rw_, cm⟩ hk _ ⟨h1, h2⟩ hW
    simp only at h1 h2
    subst h1
    have h7 := hn.2.1
    have hle := eM_le (S := cS B) k
    refine ⟨fun h => absurd h (by rw [hn.2.2]; exact nI_ge hk (by omega)), fun _ => ⟨fun hb => ?_, fun hb => ?_⟩⟩
    · have hb2 : cS B k = false := by
        unfold cS
        cases h : bt7 B k with
        | true => rfl
        | false => exact absurd ((bit_0 hB (by omega)).mpr h) hb
      show nd_X6_minor_8 K n (nI B) a b but (nI k + 1) c _
      rw [nI_1]
      exact hW (eM (cS B) k, rw_, cm) ⟨(eM_f hb2).symm, fun i hi => by rw [eM_f hb2] at hi; rw [eF_f hb2]; exact h2 i hi⟩
    · have hb2 : cS B k = true := by
        unfold cS
        rw [(bit_0 hB (by omega)).mp hb]; rfl
      refine ⟨vi (by omega) (by omega), vi (by omega) (by omega), ?_⟩
      have hcl : (nI (eM (cS B) k)).toNatClampNeg = eM (cS B) k := cl_ (by omega)
      show nd_X6_minor_8 K n (nI B) a b but (nI k + 1) c (ms_side (ms_columns (ms_rows t0 (upd rw_ (nI (eM (cS B) k)).toNatClampNeg (nI k))) (upd cm (nI (eM (cS B) k)).toNatClampNeg (nI k))) (nI (eM (cS B) k) + (1 : Int32)))
      rw [hcl, nI_a1, nI_1]
      refine hW (eM (cS B) k + 1, upd rw_ (eM (cS B) k) (nI k), upd cm (eM (cS B) k) (nI k)) ⟨(eM_t hb2).symm, fun i hi => ?_⟩
      rw [eM_t hb2] at hi
      show upd rw_ (eM (cS B) k) (nI k) i = nI (eF (cS B) (k + 1) i) ∧ upd cm (eM (cS B) k) (nI k) i = nI (eF (cS B) (k + 1) i)
      by_cases e : i = eM (cS B) k
      · subst e
        rw [eF_last hb2, up_s, up_s]; exact ⟨rfl, rfl⟩
      · rw [eF_t hb2 (by omega), up_n e, up_n e]
        exact h2 i (by omega)
theorem kL_bl (hC : CI c) (j : Nat) : bl (kN c) (fun i => kL c but i j) (ph (kE c) (kF c) (kT c) (wB c but) j) := by
  have h := hC.net but
  exact bl_le (lp_bl h.2.2.1 h.2.2.2.1 (fun w hw => (h.2.2.2.2 w hw).1) j) (by unfold ph; omega)
theorem sel_sum (hC : CI c) (S : Nat → Bool) : sm (eM S (kN c)) (fun j => ph (kE c) (kF c) (kT c) (wB c but) (eF S (kN c) j)) ≤ 151 := by
  rw [← sm_sel S (fun j => ph (kE c) (kF c) (kT c) (wB c but) j) (kN c)]
  refine Int.le_trans (sm_le (fun j _ => ?_)) (ph_sum (hC.net but))
  have := ph_pos (hC.net but) j
  show (if S j = true then ph (kE c) (kF c) (kT c) (wB c but) j else 0) ≤ _
  split <;> omega
theorem minor_D {K : Int64 → CS → MT → Prop} {t0 : MT} {B k0 : Nat} (hC : CI c) (hB : B < 128) (hk0 : k0 < kN c) (hpad : bt7 B k0 = true)
    (hK : ∀ (r : Int64) (t' : MT), eqS t0 t' → r.toInt = Dn (kN c) (kL c but) (cS B) → K r c t') : wp_X6_minor (nI B) (-1 : Int32) (-1 : Int32) but c t0 K := by
  have hn := hC.1
  have hlt : eM (cS B) (kN c) < kN c := eM_lt (k := k0) (by unfold cS; rw [hpad]; rfl) hk0
  have h7 := hn.2.1
  refine minor_rows hC hB (fun rw_ cm h => ⟨fun _ => ?_, fun e => absurd rfl e⟩)
  refine fill_ok (t1 := ms_side (ms_columns (ms_rows t0 rw_) cm) (nI (eM (cS B) (kN c)))) (R := eF (cS B) (kN c)) (C := eF (cS B) (kN c)) (p := fun j => ph (kE c) (kF c) (kT c) (wB c but) (eF (cS B) (kN c) j)) hC rfl (by omega) (fun i hi => ⟨(h i hi).1, eF_lt hi⟩) (fun i hi => ⟨(h i hi).2, eF_lt hi⟩) (fun j _ => bl_sel (kL_bl hC _) (cS B)) (fun j _ => ph_pos (hC.net but) _) (sel_sum hC (cS B)) (fun r f hr => ?_)
  exact hK r _ ⟨rfl, rfl, rfl, rfl, rfl, rfl, rfl, rfl, rfl, rfl⟩ (by rw [hr, part_D])
theorem minor_W {K : Int64 → CS → MT → Prop} {t0 : MT} {B a b : Nat} (hC : CI c) (hB : B < 128) (ha : a < kN c) (hb : b < kN c) (hab : a ≠ b) (hpa : bt7 B a = true) (hpb : bt7 B b = true) (hD : Dn (kN c) (kL c but) (cS B) ≠ 0)
    (hK : ∀ (r : Int64) (t' : MT), eqS t0 t' → r.toInt = Nn (kN c) (kL c but) (cS B) a b → K r c t') : wp_X6_minor (nI B) (nI a) (nI b) but c t0 K := by
  have hn := hC.1
  have hSa : cS B a = false := by unfold cS; rw [hpa]; rfl
  have hSb : cS B b = false := by unfold cS; rw [hpb]; rfl
  have hlt : eM (cS B) (kN c) + 2 ≤ kN c := by
    rcases Nat.lt_or_ge a b with q | q
    · exact eM_lt2 q hSa hSb hb
    · exact eM_lt2 (show b < a by omega) hSb hSa ha
  have h7 := hn.2.1
  have hna : ¬ nI a = (-1 : Int32) := fun e => by
    have := congrArg Int32.toInt e
    rw [nI_toInt (by omega)] at this
    have h1 : (-1 : Int32).toInt = -1 := by decide
    omega
  refine minor_rows hC hB (fun rw_ cm h => ⟨fun e => absurd e hna, fun _ => ⟨vi (by omega) (by omega), vi (by omega) (by omega), ?_⟩⟩)
  let m := eM (cS B) (kN c)
  rw [nI_a1]
  refine fill_ok (m := m + 1) (t1 := ms_side (ms_columns (ms_rows t0 (upd rw_ m (nI a))) (upd cm m (nI b))) (nI (m + 1))) (R := fun i => if i < m then eF (cS B) (kN c) i else a) (C := fun j => if j < m then eF (cS B) (kN c) j else b) (p := fun j => ph (kE c) (kF c) (kT c) (wB c but) (if j < m then eF (cS B) (kN c) j else b)) hC rfl (by show eM (cS B) (kN c) + 1 ≤ 6; omega) (fun i hi => ?_) (fun i hi => ?_) (fun j _ => bl_sel1 (kL_bl hC _) (cS B) ha hSa) (fun j _ => ph_pos (hC.net but) _) (Int.le_trans (sm_sel1 (cS B) hb hSb (f := fun j => ph (kE c) (kF c) (kT c) (wB c but) j) (fun j _ => by have := ph_pos (hC.net but) j; omega)) (ph_sum (hC.net but))) (fun r f hr => ?_)
  · by_cases q : i < m
    · rw [if_pos q]
      exact ⟨by show upd rw_ m (nI a) i = _; rw [up_n (by omega)]; exact (h i q).1, eF_lt q⟩
    · rw [if_neg q, show i = m by omega]
      exact ⟨up_s, ha⟩
  · by_cases q : i < m
    · rw [if_pos q]
      exact ⟨by show upd cm m (nI b) i = _; rw [up_n (by omega)]; exact (h i q).2, eF_lt q⟩
    · rw [if_neg q, show i = m by omega]
      exact ⟨up_s, hb⟩
  · exact hK r _ ⟨rfl, rfl, rfl, rfl, rfl, rfl, rfl, rfl, rfl, rfl⟩ (by rw [hr]; exact part_W (kL c but) ha hSa hSb hD)
/-- a column a unit -/
theorem cramer_ok {K : Int64 → CS → MT → Prop} {t0 : MT} {B a b : Nat} (hC : CI c) (hB : B < 128) (ha : a < kN c) (hb : b < kN c) (hpa : bt7 B a = false) (hpb : bt7 B b = false) {k0 : Nat} (hk0 : k0 < kN c) (hpad : bt7 B k0 = true)
    (hK : ∀ (r : Int64) (t' : MT), eqS t0 t' → r.toInt = Nn (kN c) (kL c but) (cS B) a b → K r c t') : wp_X6_cramer (nI B) (nI a) (nI b) but c t0 K := by
  have hn := hC.1
  have h7 := hn.2.1
  have hSa : cS B a = true := by unfold cS; rw [hpa]; rfl
  have hSb : cS B b = true := by unfold cS; rw [hpb]; rfl
  have hlt : eM (cS B) (kN c) < kN c := eM_lt (k := k0) (by unfold cS; rw [hpad]; rfl) hk0
  show ∃ n8 : Nat, nd_X6_cramer_8 K n8 (nI B) (nI a) (nI b) but (nI 0) c (ms_side (ms_rows t0 (m_rows t0)) (nI 0))
  refine upto (fun n k (z : Nat × (Nat → Int32)) => nd_X6_cramer_8 K n (nI B) (nI a) (nI b) but (nI k) c (ms_side (ms_rows t0 z.2) (nI z.1))) (fun k z => z.1 = eM (cS B) k ∧ ∀ i, i < eM (cS B) k → z.2 i = nI (eF (cS B) k i)) (kN c) 0 (0, m_rows t0) (by omega) ⟨rfl, fun i hi => absurd hi (Nat.not_lt_zero i)⟩ ?_ ?_
  · rintro n ⟨sd, rw_⟩ ⟨h1, h2⟩
    simp only at h1 h2
    subst h1
    refine ⟨fun _ => ?_, fun h => absurd (show c_n c ≤ nI (kN c) from by rw [← hn.2.2]; exact Int32.le_refl _) h⟩
    let m := eM (cS B) (kN c)
    let F := eF (cS B) (kN c)
    let A : Nat → Nat → Int := fun r j => if F j = a then dl (F r) b else kL c but (F r) (F j)
    let t1 : MT := ms_side (ms_rows t0 rw_) (nI m)
    have hF : ∀ i, i < m → F i < kN c := fun i hi => eF_lt hi
    let J : Nat → Nat → (Nat → Int64) → Prop := fun r j f => ∀ x y, x < m → y < m → (x < r ∨ (x = r ∧ y < j)) → (f (7 * x + y)).toInt = A x y
    show ∃ n56 : Nat, nd_X6_cramer_56 K n56 (nI a) (nI b) but (nI 0) c (ms_square t1 (m_square t1))
    refine upto (fun n r (f : Nat → Int64) => nd_X6_cramer_56 K n (nI a) (nI b) but (nI r) c (ms_square t1 f)) (fun r f => J r 0 f) m 0 _ (by omega) (fun x y _ _ h => by omega) ?_ ?_
    · intro n f hf
      refine ⟨fun _ => ?_, fun h => absurd (show nI m ≤ nI m from Int32.le_refl _) h⟩
      refine det_ok (t0 := ms_square t1 f) (m := m) (A := A) (p := fun j => if F j = a then 1 else ph (kE c) (kF c) (kT c) (wB c but) (F j)) rfl (by show eM (cS B) (kN c) ≤ 6; omega) (fun j hj => ?_) (fun j hj => ?_) ?_ (fun x y hx hy => hf x y hx hy (by omega)) (fun r g hr => ?_)
      · by_cases e : F j = a
        · simp only [e, if_true]
          exact bl_congr (bl_sel (bl_dl hb) (cS B)) (fun i _ => by show dl (F i) b = A i j; simp [A, e])
        · simp only [if_neg e]
          exact bl_congr (bl_sel (kL_bl hC (F j)) (cS B)) (fun i _ => by show kL c but (F i) (F j) = A i j; simp [A, e])
      · have := ph_pos (hC.net but) (F j)
        show 1 ≤ if F j = a then (1 : Int) else _
        split <;> omega
      · refine Int.le_trans (sm_le (fun j _ => ?_)) (sel_sum (but := but) hC (cS B))
        have := ph_pos (hC.net but) (F j)
        show (if F j = a then (1 : Int) else _) ≤ ph (kE c) (kF c) (kT c) (wB c but) (F j)
        split <;> omega
      · exact hK r _ ⟨rfl, rfl, rfl, rfl, rfl, rfl, rfl, rfl, rfl, rfl⟩ (by rw [hr]; exact part_N (kL c but) hSa hSb)
    · intro n r f hr _ hf hW
      refine ⟨fun h => absurd h (by show ¬ nI m ≤ nI r; exact nI_ge hr (by show eM (cS B) (kN c) < _; omega)), fun _ => ?_⟩
      show ∃ n68 : Nat, nd_X6_cramer_68 K _ n68 (nI a) (nI b) but (nI r) (nI 0) c (ms_square t1 f)
      refine upto (fun n' j (f : Nat → Int64) => nd_X6_cramer_68 K (fun v2 v3 v4 v5 c t => nd_X6_cramer_56 K n v2 v3 v4 v5 c t) n' (nI a) (nI b) but (nI r) (nI j) c (ms_square t1 f)) (fun j f => J r j f) m 0 f (by omega) hf ?_ ?_
      · intro n' g hg
        refine ⟨fun _ => ?_, fun h => absurd (show nI m ≤ nI m from Int32.le_refl _) h⟩
        show nd_X6_cramer_56 K n (nI a) (nI b) but (nI r + 1) c (ms_square t1 g)
        rw [nI_1]
        exact hW g (fun x y hx hy h => hg x y hx hy (by omega))
      · intro n' j g hj _ hg hW'
        have hrm : r < eM (cS B) (kN c) := hr
        have hjm : j < eM (cS B) (kN c) := hj
        refine ⟨fun h => absurd h (by show ¬ nI m ≤ nI j; exact nI_ge hj (by show eM (cS B) (kN c) < _; omega)), fun _ => ?_⟩
        refine ⟨vi (by omega) (by omega), ?_⟩
        rw [cl_ (show j < 2147483648 by omega), cl_ (show r < 2147483648 by omega)]
        have er : m_rows (ms_square t1 g) r = nI (F r) := h2 r hr
        have ej : m_rows (ms_square t1 g) j = nI (F j) := h2 j hj
        have hput : ∀ v : Int64, v.toInt = A r j → nd_X6_cramer_139 K (fun v2 v3 v4 v5 c t => nd_X6_cramer_56 K n v2 v3 v4 v5 c t) (fun v2 v3 v4 v5 v6 c t => nd_X6_cramer_68 K (fun v2 v3 v4 v5 c t => nd_X6_cramer_56 K n v2 v3 v4 v5 c t) n' v2 v3 v4 v5 v6 c t) (nI a) (nI b) but (nI r) (nI j) v (((7 : Int32) * nI r) + nI j) c (ms_square t1 g) := fun v hv => by
          rw [nI_7]
          refine ⟨vi (by omega) (by omega), ?_⟩
          rw [cl_ (by omega), nI_1]
          refine hW' (vp_updL g (7 * r + j) v) (fun x y hx hy h => ?_)
          have hx' : x < eM (cS B) (kN c) := hx
          have hy' : y < eM (cS B) (kN c) := hy
          by_cases e : x = r ∧ y = j
          · obtain ⟨rfl, rfl⟩ := e
            rw [upL_s]; exact hv
          · rw [upL_n (by omega)]
            exact hg x y hx hy (by omega)
        rw [er, ej]
        have hFj := hF j hj
        have hFr := hF r hr
        refine ⟨fun hne => ⟨vi (by omega) (by omega), vi (by omega) (by omega), ?_⟩, fun heq => ⟨vi (by omega) (by omega), fun h3 => ?_, fun h3 => ?_⟩⟩
        · have hne2 : F j ≠ a := fun e => hne (by rw [e])
          exact btw_ok hC hFr hFj (fun v hv => hput v (by rw [hv]; show _ = if F j = a then _ else _; rw [if_neg hne2]))
        · have heq2 : F j = a := (nI_eq (by omega) (by omega)).mp heq
          have h3' : F r ≠ b := fun e => h3 (by rw [e])
          exact hput 0 (by show (0 : Int) = if F j = a then _ else _; rw [if_pos heq2, dl_ne h3'])
        · have heq2 : F j = a := (nI_eq (by omega) (by omega)).mp heq
          have h3' : F r = b := (nI_eq (by omega) (by omega)).mp h3
          exact hput 1 (by show (1 : Int) = if F j = a then _ else _; rw [if_pos heq2, h3', dl_self])
  · rintro n k ⟨sd, rw_⟩ hk _ ⟨h1, h2⟩ hW
    simp only at h1 h2
    subst h1
    have hle := eM_le (S := cS B) k
    refine ⟨fun h => absurd h (by rw [hn.2.2]; exact nI_ge hk (by omega)), fun _ => ⟨fun hb => ?_, fun hb => ?_⟩⟩
    · have hb2 : cS B k = false := by
        unfold cS
        cases h : bt7 B k with
        | true => rfl
        | false => exact absurd ((bit_0 hB (by omega)).mpr h) hb
      show nd_X6_cramer_8 K n (nI B) (nI a) (nI b) but (nI k + 1) c _
      rw [nI_1]
      exact hW (eM (cS B) k, rw_) ⟨(eM_f hb2).symm, fun i hi => by rw [eM_f hb2] at hi; rw [eF_f hb2]; exact h2 i hi⟩
    · have hb2 : cS B k = true := by
        unfold cS
        rw [(bit_0 hB (by omega)).mp hb]; rfl
      refine ⟨vi (by omega) (by omega), ?_⟩
      have hcl : (nI (eM (cS B) k)).toNatClampNeg = eM (cS B) k := cl_ (by omega)
      show nd_X6_cramer_8 K n (nI B) (nI a) (nI b) but (nI k + 1) c (ms_side (ms_rows t0 (upd rw_ (nI (eM (cS B) k)).toNatClampNeg (nI k))) (nI (eM (cS B) k) + (1 : Int32)))
      rw [hcl, nI_a1, nI_1]
      refine hW (eM (cS B) k + 1, upd rw_ (eM (cS B) k) (nI k)) ⟨(eM_t hb2).symm, fun i hi => ?_⟩
      rw [eM_t hb2] at hi
      show upd rw_ (eM (cS B) k) (nI k) i = nI (eF (cS B) (k + 1) i)
      by_cases e : i = eM (cS B) k
      · subst e
        rw [eF_last hb2, up_s]
      · rw [eF_t hb2 (by omega), up_n e]
        exact h2 i (by omega)
/-- all but resist, under and the scratch of determinants alike -/
def eqR (t t' : MT) : Prop := m_woken t' = m_woken t ∧ m_gets t' = m_gets t ∧ m_picked t' = m_picked t ∧ m_more t' = m_more t ∧ m_bestMore t' = m_bestMore t ∧ m_order t' = m_order t ∧ m_bestOrder t' = m_bestOrder t ∧ m_now t' = m_now t
theorem eqS.R {t t' : MT} (h : eqS t t') : eqR t t' := ⟨h.2.1, h.2.2.2.1, h.2.2.2.2.1, h.2.2.2.2.2.1, h.2.2.2.2.2.2.1, h.2.2.2.2.2.2.2.1, h.2.2.2.2.2.2.2.2.1, h.2.2.2.2.2.2.2.2.2⟩
theorem eqR.trans {t t' t'' : MT} (h : eqR t t') (k : eqR t' t'') : eqR t t'' := by
  obtain ⟨a1, a2, a3, a4, a5, a6, a7, a8⟩ := h
  obtain ⟨b1, b2, b3, b4, b5, b6, b7, b8⟩ := k
  exact ⟨b1.trans a1, b2.trans a2, b3.trans a3, b4.trans a4, b5.trans a5, b6.trans a6, b7.trans a7, b8.trans a8⟩
/-- resist and under as the net has them -/
def resI (c : CS) (but : Int32) (B : Nat) (t : MT) : Prop := (m_under t).toInt = Dn (kN c) (kL c but) (cS B) ∧ ∀ a b, a < kN c → b < kN c → (m_resist t (7 * a + b)).toInt = Rn (kN c) (kL c but) (cS B) a b
theorem find_ok {K : CS → MT → Prop} {t0 : MT} {B k0 : Nat} (hC : CI c) (hB : B < 128) (hk0 : k0 < kN c) (hpad : bt7 B k0 = true)
    (hK : ∀ t' : MT, eqR t0 t' → resI c but B t' → K c t') : wp_X6_findResist (nI B) but c t0 K := by
  have hn := hC.1
  have h7 := hn.2.1
  refine minor_D hC hB hk0 hpad (fun r t1 he hr => ?_)
  let J : Nat → Nat → MT → Prop := fun b a t => eqR t0 t ∧ (m_under t).toInt = Dn (kN c) (kL c but) (cS B) ∧ ∀ x y, x < kN c → y < kN c → (y < b ∨ (y = b ∧ x < a)) → (m_resist t (7 * x + y)).toInt = Rn (kN c) (kL c but) (cS B) x y
  show ∃ n14 : Nat, nd_X6_findResist_14 K n14 (nI B) but (nI 0) c (ms_under t1 r)
  refine upto (fun n b (t : MT) => nd_X6_findResist_14 K n (nI B) but (nI b) c t) (fun b t => J b 0 t) (kN c) 0 _ (by omega) ⟨he.R, hr, fun x y _ _ h => by omega⟩ ?_ ?_
  · intro n t ⟨h1, h2, h3⟩
    exact ⟨fun _ => hK t h1 ⟨h2, fun a b ha hb => h3 a b ha hb (by omega)⟩, fun h => absurd (show c_n c ≤ nI (kN c) from by rw [← hn.2.2]; exact Int32.le_refl _) h⟩
  · intro n b t hb _ hJ hW
    refine ⟨fun h => absurd h (by rw [hn.2.2]; exact nI_ge hb (by omega)), fun _ => ?_⟩
    show ∃ n25 : Nat, nd_X6_findResist_25 K _ n25 (nI B) but (nI b) (nI 0) c t
    refine upto (fun n' a (t : MT) => nd_X6_findResist_25 K (fun v1 v2 v3 c t => nd_X6_findResist_14 K n v1 v2 v3 c t) n' (nI B) but (nI b) (nI a) c t) (fun a t => J b a t) (kN c) 0 t (by omega) hJ ?_ ?_
    · intro n' t' ⟨h1, h2, h3⟩
      refine ⟨fun _ => ?_, fun h => absurd (show c_n c ≤ nI (kN c) from by rw [← hn.2.2]; exact Int32.le_refl _) h⟩
      show nd_X6_findResist_14 K n (nI B) but (nI b + 1) c t'
      rw [nI_1]
      exact hW t' ⟨h1, h2, fun x y hx hy h => h3 x y hx hy (by omega)⟩
    · intro n' a t' ha _ ⟨h1, h2, h3⟩ hW'
      refine ⟨fun h => absurd h (by rw [hn.2.2]; exact nI_ge ha (by omega)), fun _ => ?_⟩
      have hput : ∀ (v : Int64) (t2 : MT), eqS t' t2 → v.toInt = Rn (kN c) (kL c but) (cS B) a b → nd_X6_findResist_74 K (fun v1 v2 v3 c t => nd_X6_findResist_14 K n v1 v2 v3 c t) (fun v1 v2 v3 v4 c t => nd_X6_findResist_25 K (fun v1 v2 v3 c t => nd_X6_findResist_14 K n v1 v2 v3 c t) n' v1 v2 v3 v4 c t) (nI B) but (nI b) (nI a) v (((7 : Int32) * nI a) + nI b) c t2 := fun v t2 e2 hv => by
        rw [nI_7]
        refine ⟨vi (by omega) (by omega), ?_⟩
        rw [cl_ (by omega), nI_1]
        refine hW' (ms_resist t2 (vp_updL (m_resist t2) (7 * a + b) v)) ⟨h1.trans (show eqR t' _ from e2.R), by show (m_under t2).toInt = _; rw [e2.1]; exact h2, fun x y hx hy h => ?_⟩
        show (vp_updL (m_resist t2) (7 * a + b) v (7 * x + y)).toInt = _
        by_cases e : x = a ∧ y = b
        · obtain ⟨rfl, rfl⟩ := e
          rw [upL_s]; exact hv
        · rw [upL_n (by omega), e2.2.2.1]
          exact h3 x y hx hy (by omega)
      refine ⟨fun hno => ?_, fun hor => ?_⟩
      · have hno2 : bt7 B a = false ∧ bt7 B b = false := by
          have : ¬ (bt7 B a = true ∨ bt7 B b = true) := fun q => hno ((bit_or hB (by omega) (by omega)).mpr q)
          cases h1 : bt7 B a <;> cases h2 : bt7 B b <;> simp_all
        refine cramer_ok hC hB ha hb hno2.1 hno2.2 hk0 hpad (fun v t2 e2 hv => hput v t2 e2 ?_)
        rw [hv]
        unfold Rn cS
        rw [hno2.1, hno2.2]; simp
      · have hor2 := (bit_or hB (by omega) (by omega)).mp hor
        refine hput 0 t' eqS.rfl' ?_
        show (0 : Int) = _
        unfold Rn cS
        rw [if_neg]
        rcases hor2 with q | q <;> rw [q] <;> simp
end MRES
