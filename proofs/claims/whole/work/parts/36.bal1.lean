/-! THE CLASS'S Balance: lay -/
theorem upM_s {f : Nat → Nat → Int64} {i j : Nat} {v : Int64} : upM f i j v i j = v := by unfold upM; rw [if_pos rfl, upL_s]
theorem upM_n {f : Nat → Nat → Int64} {i j a b : Nat} {v : Int64} (h : ¬ (a = i ∧ b = j)) : upM f i j v a b = f a b := by
  unfold upM
  by_cases e : a = i
  · rw [if_pos e, upL_n (fun q => h ⟨e, q⟩), e]
  · rw [if_neg e]
theorem has_ok {K : Int32 → Prop} {B k : Nat} (hB : B < 128) (hk : k < 7) (h1 : bt7 B k = true → K 1) (h0 : bt7 B k = false → K 0) : wp_X5_has (nI B) (nI k) K := by
  refine ⟨fun h => h0 ((bit_0 hB hk).mp h), fun h => h1 ?_⟩
  cases q : bt7 B k with
  | true => rfl
  | false => exact absurd ((bit_0 hB hk).mpr q) h
/-- four places for a wire -/
def lay4 (f : Nat → Nat → Int64) (a b : Nat) (v : Int64) : Nat → Nat → Int64 :=
  upM (upM (upM (upM f a a (f a a + v)) b b (upM f a a (f a a + v) b b + v)) a b (upM (upM f a a (f a a + v)) b b (upM f a a (f a a + v) b b + v) a b - v)) b a (upM (upM (upM f a a (f a a + v)) b b (upM f a a (f a a + v) b b + v)) a b (upM (upM f a a (f a a + v)) b b (upM f a a (f a a + v) b b + v) a b - v) b a - v)
theorem lay4_ok {f : Nat → Nat → Int64} {a b i j : Nat} {v : Int64} {y : Int} {z : Int} (hab : a ≠ b) (hv : v.toInt = y) (hf : (f i j).toInt = z) (h1 : -1000000 ≤ z ∧ z ≤ 1000000) (h2 : -1000000 ≤ y ∧ y ≤ 1000000) : (lay4 f a b v i j).toInt = z + y * ((dl i a - dl i b) * (dl j a - dl j b)) := by
  have hba : b ≠ a := fun e => hab e.symm
  unfold lay4
  by_cases e1 : i = a
  · subst e1
    by_cases e2 : j = i
    · subst e2
      rw [upM_n (by omega), upM_n (by omega), upM_n (by omega), upM_s, dl_self, dl_ne hab]
      rw [l_add hf hv (by omega) (by omega)]; omega
    · by_cases e3 : j = b
      · subst e3
        rw [upM_n (by omega), upM_s, upM_n (by omega), upM_n (by omega), dl_self, dl_ne hab, dl_ne e2, dl_self]
        rw [l_sub hf hv (by omega) (by omega)]; omega
      · rw [upM_n (by omega), upM_n (by omega), upM_n (by omega), upM_n (by omega), dl_self, dl_ne hab, dl_ne e2, dl_ne e3, hf]; omega
  · by_cases e0 : i = b
    · subst e0
      by_cases e2 : j = i
      · subst e2
        rw [upM_n (by omega), upM_n (by omega), upM_s, upM_n (by omega), dl_self, dl_ne hba]
        rw [l_add hf hv (by omega) (by omega)]; omega
      · by_cases e3 : j = a
        · subst e3
          rw [upM_s, upM_n (by omega), upM_n (by omega), upM_n (by omega), dl_self, dl_ne hba, dl_ne e2, dl_self]
          rw [l_sub hf hv (by omega) (by omega)]; omega
        · rw [upM_n (by omega), upM_n (by omega), upM_n (by omega), upM_n (by omega), dl_self, dl_ne hba, dl_ne e2, dl_ne e3, hf]; omega
    · rw [upM_n (by omega), upM_n (by omega), upM_n (by omega), upM_n (by omega), dl_ne e1, dl_ne e0, hf]; omega
section BAL
variable {c : CS} {x : XT} {tb : Nat}
theorem lay_ok {K : CS → XT → Prop} (hC : CI c) (hK : ∀ f : Nat → Nat → Int64, (∀ i j, i < kN c → j < kN c → (f i j).toInt = kL c (-1) i j) → K c (xsb x tb (bs_cell (bs_below (bs_knots (x_bal x tb) (c_n c)) (1 : Int64)) f))) : wp_X0_lay tb c x K := by
  obtain ⟨hn, he, hw, -⟩ := hC
  have h7 := hn.2.1
  let b0 : BS := bs_below (bs_knots (x_bal x tb) (c_n c)) (1 : Int64)
  have hb0 : b_knots b0 = nI (kN c) := hn.2.2
  show ∃ n15 : Nat, nd_X0_lay_15 tb K n15 (nI 0) c (xsb x tb (bs_cell b0 (b_cell b0)))
  refine upto (fun n r (f : Nat → Nat → Int64) => nd_X0_lay_15 tb K n (nI r) c (xsb x tb (bs_cell b0 f))) (fun r f => ∀ i j, i < r → j < kN c → f i j = 0) (kN c) 0 _ (by omega) (fun i j h => by omega) ?_ ?_
  · intro n f hf
    refine ⟨fun _ => ?_, fun h => absurd (show b_knots (x_bal (xsb x tb (bs_cell b0 f)) tb) ≤ nI (kN c) from by rw [xsb_get]; show b_knots b0 ≤ _; rw [hb0]; exact Int32.le_refl _) h⟩
    show ∃ n56 : Nat, nd_X0_lay_56 tb K n56 (nI 0) c (xsb x tb (bs_cell b0 f))
    refine upto (fun n w (f : Nat → Nat → Int64) => nd_X0_lay_56 tb K n (nI w) c (xsb x tb (bs_cell b0 f))) (fun w f => ∀ i j, i < kN c → j < kN c → (f i j).toInt = sm w (fun u => wB c (-1) u * ((dl i (kF c u) - dl i (kT c u)) * (dl j (kF c u) - dl j (kT c u))))) (kE c) 0 f (by omega) (fun i j hi hj => by rw [hf i j hi hj]; rfl) ?_ ?_
    · intro n g hg
      exact ⟨fun _ => hK g hg, fun h => absurd (show c_wires c ≤ nI (kE c) from by rw [← he.2]; exact Int32.le_refl _) h⟩
    · intro n w g hw' _ hg hW
      have e12 := he.1
      obtain ⟨⟨f1, f2⟩, ⟨t1, t2⟩, hne, hwd, -⟩ := hw w hw'
      have hF : vp_in (c_from c w) 7 := by rw [f2]; exact vi (by omega) (by omega)
      have hT : vp_in (c_to c w) 7 := by rw [t2]; exact vi (by omega) (by omega)
      have hV : vp_in (nI w) 12 := vi (by omega) (by omega)
      have hcl : (nI w).toNatClampNeg = w := cl_ (by omega)
      refine ⟨fun h => absurd h (by rw [he.2]; exact nI_ge hw' (by omega)), fun _ => ?_⟩
      rw [hcl]
      refine ⟨hV, hV, hF, hF, hV, hF, hT, hT, hV, hT, hF, hT, hV, hT, hT, hF, hV, hF, ?_⟩
      rw [xsb_get, xsb_xsb, nI_a1]
      show nd_X0_lay_56 tb K n (nI (w + 1)) c (xsb x tb (bs_cell b0 (lay4 g (kF c w) (kT c w) (Int32.toInt64 (c_wide c w)))))
      refine hW _ (fun i j hi hj => ?_)
      have hb : ∀ u, u < w → -6 ≤ wB c (-1) u * ((dl i (kF c u) - dl i (kT c u)) * (dl j (kF c u) - dl j (kT c u))) ∧ wB c (-1) u * ((dl i (kF c u) - dl i (kT c u)) * (dl j (kF c u) - dl j (kT c u))) ≤ 6 := fun u hu => by
        have h1 := (hw u (by omega)).2.2.2.1
        have hd := (hw u (by omega)).2.2.1
        rw [wB_none c (by omega)]
        unfold dl
        generalize kW c u = z at *
        repeat' split
        all_goals omega
      have h3 := sm_abs (B := 6) hb
      have hwd' : (Int32.toInt64 (c_wide c w)).toInt = wB c (-1) w := by rw [wB_none c (by omega)]; exact l_of rfl
      refine lay4_ok hne hwd' (hg i j hi hj) (by omega) ?_
      rw [wB_none c (by omega)]
      omega
  · intro n r f hr _ hf hW
    have hkk : ∀ f : Nat → Nat → Int64, b_knots (x_bal (xsb x tb (bs_cell b0 f)) tb) = nI (kN c) := fun f => by rw [xsb_get]; exact hb0
    refine ⟨fun h => absurd h (by rw [hkk]; exact nI_ge hr (by omega)), fun _ => ?_⟩
    refine upto (fun n' j (f : Nat → Nat → Int64) => nd_X0_lay_25 tb K (fun v2 c x => nd_X0_lay_15 tb K n v2 c x) n' (nI r) (nI j) c (xsb x tb (bs_cell b0 f))) (fun j f => (∀ i' j', i' < r → j' < kN c → f i' j' = 0) ∧ ∀ j', j' < j → f r j' = 0) (kN c) 0 f (by omega) ⟨hf, fun j' h => by omega⟩ ?_ ?_
    · intro n' g hg
      refine ⟨fun _ => ?_, fun h => absurd (show _ ≤ nI (kN c) from by rw [hkk]; exact Int32.le_refl _) h⟩
      show nd_X0_lay_15 tb K n (nI r + 1) c _
      rw [nI_1]
      refine hW g (fun i' j' hi hj => ?_)
      by_cases e : i' = r
      · subst e; exact hg.2 j' hj
      · exact hg.1 i' j' (by omega) hj
    · intro n' j g hj _ hg hW'
      refine ⟨fun h => absurd h (by rw [hkk]; exact nI_ge hj (by omega)), fun _ => ⟨vi (by omega) (by omega), vi (by omega) (by omega), ?_⟩⟩
      rw [xsb_get, xsb_xsb, nI_1, cl_ (by omega), cl_ (by omega)]
      refine hW' (upM g r j 0) ⟨fun i' j' hi hj' => ?_, fun j' hj' => ?_⟩
      · rw [upM_n (by omega)]; exact hg.1 i' j' hi hj'
      · by_cases e : j' = j
        · subst e; exact upM_s
        · rw [upM_n (by omega)]; exact hg.2 j' (by omega)
end BAL
