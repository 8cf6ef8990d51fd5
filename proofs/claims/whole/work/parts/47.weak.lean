/-! ONE ANSWER FOR BOTH: weakest -/
theorem least {P : Nat → Prop} : ∀ {n}, (∃ w, w < n ∧ ¬ P w) → ∃ w, w < n ∧ ¬ P w ∧ ∀ u, u < w → P u
  | 0, ⟨w, h, _⟩ => absurd h (Nat.not_lt_zero w)
  | n + 1, ⟨w, h, hp⟩ => by
    by_cases q : ∃ w, w < n ∧ ¬ P w
    · obtain ⟨v, v1, v2, v3⟩ := least q
      exact ⟨v, by omega, v2, v3⟩
    · have hall : ∀ u, u < n → P u := fun u hu => Classical.byContradiction (fun z => q ⟨u, hu, z⟩)
      have : w = n := by
        refine Classical.byContradiction (fun z => hp (hall w (by omega)))
      subst this
      exact ⟨w, by omega, hp, hall⟩
/-- the best of the first i: above f over below g, the first that no later one beats -/
def bst (f g : Nat → Int) : Nat → Option Nat
  | 0 => none
  | i + 1 => match bst f g i with | none => some i | some j => if f i * g j ≤ f j * g i then some j else some i
theorem bst_lt {f g : Nat → Int} : ∀ {i j}, bst f g i = some j → j < i
  | i + 1, j, h => by
    unfold bst at h
    cases e : bst f g i with
    | none => rw [e] at h; injection h with h; omega
    | some a =>
      have := bst_lt e
      rw [e] at h
      simp only at h
      split at h <;> (injection h with h; omega)
theorem bst_n {f g : Nat → Int} {i : Nat} (h : bst f g i = none) : bst f g (i + 1) = some i := by
  show (match bst f g i with | none => some i | some j => if f i * g j ≤ f j * g i then some j else some i) = _
  rw [h]
theorem bst_p {f g : Nat → Int} {i j : Nat} (h : bst f g i = some j) (q : f i * g j ≤ f j * g i) : bst f g (i + 1) = some j := by
  show (match bst f g i with | none => some i | some j => if f i * g j ≤ f j * g i then some j else some i) = _
  rw [h]
  exact if_pos q
theorem bst_q {f g : Nat → Int} {i j : Nat} (h : bst f g i = some j) (q : ¬ f i * g j ≤ f j * g i) : bst f g (i + 1) = some i := by
  show (match bst f g i with | none => some i | some j => if f i * g j ≤ f j * g i then some j else some i) = _
  rw [h]
  exact if_neg q
/-- what is kept of the best -/
def bstI (f g : Nat → Int) (o : Option Nat) (a b : Int64) : Prop := ∀ j, o = some j → a.toInt = f j ∧ b.toInt = g j
section WK
variable {c : CS} {x : XT} {t : MT}
theorem weak5_step {K : Int32 → CS → XT → Prop} (hC : CI c) (hF : FedC c) (hx : ST c (kB c) (x_bal x 0)) {i n : Nat} (hi : i < kE c) (hall : ∀ u, u ≤ i → FedO c u) {a b : Int64} {z : BS} (hI : bstI (oM c) (oD c) (bst (oM c) (oD c) i) a b)
    (hW : ∀ (a b : Int64) (z : BS), bstI (oM c) (oD c) (bst (oM c) (oD c) (i + 1)) a b → nd_X5_weakest_31 K n (rp (bst (oM c) (oD c) (i + 1))) a b (nI (i + 1)) c (xsb x 1 z)) : nd_X5_weakest_31 K (n + 1) (rp (bst (oM c) (oD c) i)) a b (nI i) c (xsb x 1 z) := by
  have h12 := hC.e12
  have hFo := hall i (Nat.le_refl _)
  have hM := oM_b hC hFo
  have hD := oD_b hC hFo
  refine ⟨fun h => absurd h (by rw [hC.ew]; exact nI_ge hi (by omega)), fun _ => ?_⟩
  refine open5 (x := xsb x 1 z) hC hF hi (by rw [xsb_ne x z (by decide)]; exact hx) (fun _ b' hb' => ⟨fun _ => ?_, fun e => absurd e n10⟩) (fun q => absurd hFo q)
  rw [xsb_xsb]
  refine ohigh5 hC hFo (by rw [xsb_get]; exact hb') (fun r hr => ?_)
  rw [xsb_get]
  cases e : bst (oM c) (oD c) i with
  | none =>
    refine ⟨fun _ => ?_, fun q => absurd rfl q⟩
    show nd_X5_weakest_31 K n (nI i) r (b_below (x_bal (xsb x 1 b') 1)) (nI i + 1) c (xsb x 1 b')
    rw [xsb_get, nI_1]
    have h := hW r (b_below b') b'
    rw [bst_n e] at h
    exact h (fun j hj => by injection hj with hj; subst hj; exact ⟨hr, hb'.2.1⟩)
  | some j =>
    have hji := bst_lt e
    obtain ⟨ha, hb⟩ := hI j e
    have hFj := hall j (by omega)
    have hMj := oM_b hC hFj
    have hDj := oD_b hC hFj
    have m1 := mul_bd (x := oM c i) (y := oD c j) (A := 17640000000) (B := 255000000) (by omega) (by omega)
    have m2 := mul_bd (x := oM c j) (y := oD c i) (A := 17640000000) (B := 255000000) (by omega) (by omega)
    have hle := l_lel (l_mul hr hb (by omega) (by omega)) (l_mul ha hb'.2.1 (by show _ ≤ oM c j * oD c i; omega) (by show oM c j * oD c i ≤ _; omega))
    refine ⟨fun q => absurd q (nI_nm1 (by omega)), fun _ => ⟨fun q => ⟨fun _ => ?_, fun y => absurd rfl y⟩, fun q => ⟨fun y => absurd y n10, fun _ => ?_⟩⟩⟩
    · show nd_X5_weakest_31 K n (nI j) a b (nI i + 1) c (xsb x 1 b')
      rw [nI_1]
      have h := hW a b b'
      rw [bst_p e (hle.mp q)] at h
      exact h (fun j' hj => by injection hj with hj; subst hj; exact ⟨ha, hb⟩)
    · show nd_X5_weakest_31 K n (nI i) r (b_below (x_bal (xsb x 1 b') 1)) (nI i + 1) c (xsb x 1 b')
      rw [xsb_get, nI_1]
      have h := hW r (b_below b') b'
      rw [bst_q e (fun y => q (hle.mpr y))] at h
      exact h (fun j hj => by injection hj with hj; subst hj; exact ⟨hr, hb'.2.1⟩)
theorem weak6_step {K : Int32 → CS → MT → Prop} (hC : CI c) {i n : Nat} (hi : i < kE c) (hall : ∀ u, u ≤ i → FedO c u) {a b : Int64} (hI : bstI (oM c) (oD c) (bst (oM c) (oD c) i) a b)
    (hW : ∀ (a b : Int64) (t : MT), bstI (oM c) (oD c) (bst (oM c) (oD c) (i + 1)) a b → nd_X6_weakest_51 K n (rp (bst (oM c) (oD c) (i + 1))) a b (nI (i + 1)) c t) : nd_X6_weakest_51 K (n + 1) (rp (bst (oM c) (oD c) i)) a b (nI i) c t := by
  have h12 := hC.e12
  have hFo := hall i (Nat.le_refl _)
  have hM := oM_b hC hFo
  have hD := oD_b hC hFo
  refine ⟨fun h => absurd h (by rw [hC.ew]; exact nI_ge hi (by omega)), fun _ => ?_⟩
  refine ores6 hC hFo (fun t' _ hR => omost6 hC hFo hR (fun r hr => ?_))
  cases e : bst (oM c) (oD c) i with
  | none =>
    refine ⟨fun _ => ?_, fun q => absurd rfl q⟩
    show nd_X6_weakest_51 K n (nI i) r (m_under t') (nI i + 1) c t'
    rw [nI_1]
    have h := hW r (m_under t') t'
    rw [bst_n e] at h
    exact h (fun j hj => by injection hj with hj; subst hj; exact ⟨hr, hR.1⟩)
  | some j =>
    have hji := bst_lt e
    obtain ⟨ha, hb⟩ := hI j e
    have hFj := hall j (by omega)
    have hMj := oM_b hC hFj
    have hDj := oD_b hC hFj
    have m1 := mul_bd (x := oM c i) (y := oD c j) (A := 17640000000) (B := 255000000) (by omega) (by omega)
    have m2 := mul_bd (x := oM c j) (y := oD c i) (A := 17640000000) (B := 255000000) (by omega) (by omega)
    have hle := l_lel (l_mul hr hb (by omega) (by omega)) (l_mul ha hR.1 (by show _ ≤ oM c j * oD c i; omega) (by show oM c j * oD c i ≤ _; omega))
    refine ⟨fun q => absurd q (nI_nm1 (by omega)), fun _ => ⟨fun q => ?_, fun q => ?_⟩⟩
    · show nd_X6_weakest_51 K n (nI j) a b (nI i + 1) c t'
      rw [nI_1]
      have h := hW a b t'
      rw [bst_p e (hle.mp q)] at h
      exact h (fun j' hj => by injection hj with hj; subst hj; exact ⟨ha, hb⟩)
    · show nd_X6_weakest_51 K n (nI i) r (m_under t') (nI i + 1) c t'
      rw [nI_1]
      have h := hW r (m_under t') t'
      rw [bst_q e (fun y => q (hle.mpr y))] at h
      exact h (fun j hj => by injection hj with hj; subst hj; exact ⟨hr, hR.1⟩)
theorem weak6_lead {K : Int32 → CS → MT → Prop} (hC : CI c) {i n : Nat} (hi : i < kE c) (hFo : FedO c i) {a b : Int64} (hW : nd_X6_weakest_10 K n (-1 : Int32) a b (nI (i + 1)) c t) : nd_X6_weakest_10 K (n + 1) (-1 : Int32) a b (nI i) c t := by
  have h12 := hC.e12
  refine ⟨fun h => absurd h (by rw [hC.ew]; exact nI_ge hi (by omega)), fun _ => ⟨fun q => absurd q (hFo.np hC), fun _ => lead6 hC (fun _ => ⟨fun _ => ?_, fun e => absurd e n10⟩) (fun q => absurd hFo q)⟩⟩
  rw [nI_1]
  exact hW
theorem weak6_stop {K : Int32 → CS → MT → Prop} (hC : CI c) {i n : Nat} (hi : i < kE c) (hFo : ¬ FedO c i) {v : Int32} {a b : Int64} (hK : K (nI i) c t) : nd_X6_weakest_10 K (n + 1) v a b (nI i) c t := by
  have h12 := hC.e12
  exact ⟨fun h => absurd h (by rw [hC.ew]; exact nI_ge hi (by omega)), fun _ => ⟨fun _ => hK, fun _ => lead6 hC (fun q => absurd q hFo) (fun _ => ⟨fun q => absurd rfl q, fun _ => hK⟩)⟩⟩
theorem ag_weakest (hC : CI c) : AGI c (fun x K => wp_X5_weakest c x K) (fun t K => wp_X6_weakest c t K) := by
  have h12 := hC.e12
  have ew := hC.ew
  by_cases h0 : kE c = 0
  · have e0 : c_wires c = 0 := by rw [ew, h0]; rfl
    refine AGI.mk' hC (-1) (fun x K hK => ⟨fun q => absurd e0 q, fun _ => hK x⟩) (fun t K hK => ⟨1, fun _ => ⟨1, fun _ => hK t, fun q => absurd ?_ q⟩, fun q => absurd ?_ q⟩)
    · rw [e0]; exact Int32.le_refl _
    · rw [e0]; exact Int32.le_refl _
  have hne : ¬ c_wires c = 0 := fun e => h0 (by
    have : nI (kE c) = nI 0 := by rw [← ew]; exact e
    exact (nI_eq (by omega) (by omega)).mp this)
  by_cases hF : FedC c
  case neg =>
    have hFo : ¬ FedO c 0 := fun q => hF (q.all hC (by omega))
    exact AGI.mk' hC 0 (fun x K hK => ⟨fun _ => set5 hC (fun q => absurd q hF) (fun _ x' => ⟨fun q => absurd rfl q, fun _ => hK x'⟩), fun q => absurd q hne⟩) (fun t K hK => ⟨1, weak6_stop (i := 0) hC (by omega) hFo (hK t)⟩)
  by_cases hall : ∃ w, w < kE c ∧ ¬ FedO c w
  · obtain ⟨w, hw, hno, hlt⟩ := least hall
    refine AGI.mk' hC (nI w) (fun x K hK => ⟨fun _ => set5 hC (fun _ x' hx => ⟨fun _ => ?_, fun q => absurd q n10⟩) (fun q => absurd hF q), fun q => absurd q hne⟩) (fun t K hK => ?_)
    · show ∃ n31 : Nat, nd_X5_weakest_31 K n31 (rp (bst (oM c) (oD c) 0)) (0 : Int64) (1 : Int64) (nI 0) c x'
      rw [← xsb_self x' 1]
      refine upto (fun n i (s : Int64 × Int64 × BS) => nd_X5_weakest_31 K n (rp (bst (oM c) (oD c) i)) s.1 s.2.1 (nI i) c (xsb x' 1 s.2.2)) (fun i s => bstI (oM c) (oD c) (bst (oM c) (oD c) i) s.1 s.2.1) w 0 (0, 1, x_bal x' 1) (by omega) (fun j hj => by cases hj) ?_ ?_
      · rintro n ⟨a, b, z⟩ _
        refine ⟨fun h => absurd h (by rw [ew]; exact nI_ge hw (by omega)), fun _ => ?_⟩
        exact open5 (x := xsb x' 1 z) hC hF hw (by rw [xsb_ne x' z (by decide)]; exact hx) (fun q => absurd q hno) (fun _ b' => ⟨fun q => absurd rfl q, fun _ => hK _⟩)
      · rintro n i ⟨a, b, z⟩ hi _ hI hW
        exact weak5_step hC hF hx (by omega) (fun u hu => hlt u (by omega)) hI (fun a b z h => hW (a, b, z) h)
    · show ∃ n10 : Nat, nd_X6_weakest_10 K n10 (-1 : Int32) (0 : Int64) (1 : Int64) (nI 0) c t
      refine upto (fun n i (_ : Unit) => nd_X6_weakest_10 K n (-1 : Int32) (0 : Int64) (1 : Int64) (nI i) c t) (fun _ _ => True) w 0 () (by omega) trivial ?_ ?_
      · intro n _ _
        exact weak6_stop hC hw hno (hK t)
      · intro n i _ hi _ _ hW
        exact weak6_lead hC (by omega) (hlt i hi) (hW () trivial)
  · have hall : ∀ w, w < kE c → FedO c w := fun w hw => Classical.byContradiction (fun q => hall ⟨w, hw, q⟩)
    refine AGI.mk' hC (rp (bst (oM c) (oD c) (kE c))) (fun x K hK => ⟨fun _ => set5 hC (fun _ x' hx => ⟨fun _ => ?_, fun q => absurd q n10⟩) (fun q => absurd hF q), fun q => absurd q hne⟩) (fun t K hK => ?_)
    · show ∃ n31 : Nat, nd_X5_weakest_31 K n31 (rp (bst (oM c) (oD c) 0)) (0 : Int64) (1 : Int64) (nI 0) c x'
      rw [← xsb_self x' 1]
      refine upto (fun n i (s : Int64 × Int64 × BS) => nd_X5_weakest_31 K n (rp (bst (oM c) (oD c) i)) s.1 s.2.1 (nI i) c (xsb x' 1 s.2.2)) (fun i s => bstI (oM c) (oD c) (bst (oM c) (oD c) i) s.1 s.2.1) (kE c) 0 (0, 1, x_bal x' 1) (by omega) (fun j hj => by cases hj) ?_ ?_
      · rintro n ⟨a, b, z⟩ _
        exact ⟨fun _ => hK _, fun h => absurd (show c_wires c ≤ nI (kE c) from by rw [← ew]; exact Int32.le_refl _) h⟩
      · rintro n i ⟨a, b, z⟩ hi _ hI hW
        exact weak5_step hC hF hx hi (fun u hu => hall u (by omega)) hI (fun a b z h => hW (a, b, z) h)
    · show ∃ n10 : Nat, nd_X6_weakest_10 K n10 (-1 : Int32) (0 : Int64) (1 : Int64) (nI 0) c t
      refine upto (fun n i (_ : Unit) => nd_X6_weakest_10 K n (-1 : Int32) (0 : Int64) (1 : Int64) (nI i) c t) (fun _ _ => True) (kE c) 0 () (by omega) trivial ?_ ?_
      · intro n _ _
        refine ⟨fun _ => ?_, fun h => absurd (show c_wires c ≤ nI (kE c) from by rw [← ew]; exact Int32.le_refl _) h⟩
        show ∃ n51 : Nat, nd_X6_weakest_51 K n51 (rp (bst (oM c) (oD c) 0)) (0 : Int64) (1 : Int64) (nI 0) c t
        refine upto (fun n i (s : Int64 × Int64 × MT) => nd_X6_weakest_51 K n (rp (bst (oM c) (oD c) i)) s.1 s.2.1 (nI i) c s.2.2) (fun i s => bstI (oM c) (oD c) (bst (oM c) (oD c) i) s.1 s.2.1) (kE c) 0 (0, 1, t) (by omega) (fun j hj => by cases hj) ?_ ?_
        · rintro n ⟨a, b, z⟩ _
          exact ⟨fun _ => hK _, fun h => absurd (show c_wires c ≤ nI (kE c) from by rw [← ew]; exact Int32.le_refl _) h⟩
        · rintro n i ⟨a, b, z⟩ hi _ hI hW
          exact weak6_step hC hi (fun u hu => hall u (by omega)) hI (fun a b z h => hW (a, b, z) h)
      · intro n i _ hi _ _ hW
        exact weak6_lead hC hi (hall i hi) (hW () trivial)
end WK
