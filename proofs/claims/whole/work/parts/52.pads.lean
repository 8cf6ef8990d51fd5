/-! ONE ANSWER FOR BOTH: pads -/
def pD (c : CS) (i : Nat) : Int := Dn (kN c) (kL c (-1)) (cS i)
def pM (c : CS) (i : Nat) : Int := mx (kN c) (fallN c (-1) i (kQ c))
def Cd (c : CS) (j : Int32) (i : Nat) : Prop := pcv (nI i) = j ∧ FedB c i
/-- the best of the sets below i -/
noncomputable def pb (c : CS) (j : Int32) : Nat → Option Nat
  | 0 => none
  | i + 1 => @ite _ (Cd c j i) (Classical.propDecidable _) (match pb c j i with | none => some i | some b => if pM c b * pD c i ≤ pM c i * pD c b then some b else some i) (pb c j i)
def rq : Option Nat → Int32
  | none => -3
  | some j => nI j
section PD
variable {c : CS} {x : XT} {t : MT} {j : Int32} {i : Nat}
theorem pb_no (h : ¬ Cd c j i) : pb c j (i + 1) = pb c j i := if_neg h
theorem pb_none (h : Cd c j i) (e : pb c j i = none) : pb c j (i + 1) = some i := by
  refine (if_pos h).trans ?_
  rw [e]
theorem pb_stay (h : Cd c j i) {b : Nat} (e : pb c j i = some b) (q : pM c b * pD c i ≤ pM c i * pD c b) : pb c j (i + 1) = some b := by
  refine (if_pos h).trans ?_
  rw [e]
  exact if_pos q
theorem pb_new (h : Cd c j i) {b : Nat} (e : pb c j i = some b) (q : ¬ pM c b * pD c i ≤ pM c i * pD c b) : pb c j (i + 1) = some i := by
  refine (if_pos h).trans ?_
  rw [e]
  exact if_neg q
theorem pb_c : ∀ {i b}, pb c j i = some b → b < i ∧ Cd c j b
  | i + 1, b, h => by
    by_cases q : Cd c j i
    · cases e : pb c j i with
      | none => rw [pb_none q e] at h; injection h with h; subst h; exact ⟨by omega, q⟩
      | some a =>
        have ih := pb_c e
        by_cases z : pM c a * pD c i ≤ pM c i * pD c a
        · rw [pb_stay q e z] at h; injection h with h; subst h; exact ⟨by omega, ih.2⟩
        · rw [pb_new q e z] at h; injection h with h; subst h; exact ⟨by omega, q⟩
    · rw [pb_no q] at h
      have ih := pb_c h
      exact ⟨by omega, ih.2⟩
theorem pb_1 (hC : CI c) : pb c j 1 = none := by
  refine (pb_no (i := 0) (fun h => ?_)).trans rfl
  obtain ⟨k0, hk0, hp⟩ := Fed.pad h.2 (show 0 < kN c by have := hC.n7; omega)
  unfold bt7 at hp
  rw [Nat.zero_testBit] at hp; cases hp
theorem pD_b (hC : CI c) (h : FedB c i) : 0 < pD c i ∧ pD c i ≤ 255000000 := by
  obtain ⟨k0, hk0, hp⟩ := Fed.pad h (show 0 < kN c by have := hC.n7; omega)
  have hN := hC.net (-1)
  exact ⟨Dn_pos (S := cS i) hN.2.2.1 hN.2.2.2.1 (fun w hw => (hN.2.2.2.2 w hw).1) (by rw [nots]; exact h), (Dn_bound hN hk0 (cS_f hp)).2⟩
theorem pM_b (hC : CI c) (h : FedB c i) : 0 ≤ pM c i ∧ pM c i ≤ 17640000000 := by
  obtain ⟨k0, hk0, hp⟩ := Fed.pad h (show 0 < kN c by have := hC.n7; omega)
  have h7 := hC.n7
  refine mx_abs (by omega) (fun a ha => ?_)
  have h := fl_abs (hC.net (-1)) hk0 (cS_f hp) ha (Q := 100) (by omega) (fun j hj => hC.2.2.2.1 j (by omega)) (m := kN c) (Nat.le_refl _)
  have h' : -(25200000 * 100 * (kN c : Int)) ≤ fallN c (-1) i (kQ c) a ∧ fallN c (-1) i (kQ c) a ≤ 25200000 * 100 * (kN c : Int) := h
  omega
theorem phigh5 {K : Int64 → CS → XT → Prop} (hC : CI c) (hF : FedB c i) {tb : Nat} (hx : SA (kN c) (kL c (-1)) (cS i) (kQ c) (x_bal x tb)) (hK : ∀ r : Int64, r.toInt = pM c i → K r c x) : wp_X0_highestAbove tb c x K := by
  obtain ⟨k0, hk0, hp⟩ := Fed.pad hF (show 0 < kN c by have := hC.n7; omega)
  have h7 := hC.n7
  refine habove_ok (f := fl (kN c) (kL c (-1)) (cS i) (kQ c)) (n := kN c) (by omega) h7.2 hx.1 hx.2.2 (fun r hr => hK r ?_)
  rw [hr, mx_hx hk0 (fl_pad (cS_f hp))]
  rfl
def pbI (c : CS) (o : Option Nat) (a b : Int64) : Prop := ∀ d, o = some d → a.toInt = pM c d ∧ b.toInt = pD c d
theorem nI_nm3 {j : Nat} (h : j < 2000000000) : ¬ nI j = (-3 : Int32) := fun e => by
  have := congrArg Int32.toInt e
  rw [nI_toInt (by omega), show (-3 : Int32).toInt = -3 by decide] at this
  omega
theorem pads5_step {K : Int32 → CS → XT → Prop} (hC : CI c) {n : Nat} (hi1 : 1 ≤ i) (hi : i < 2 ^ kN c) {a b : Int64} {z : BS} (hI : pbI c (pb c j i) a b)
    (hW : ∀ (a b : Int64) (z : BS), pbI c (pb c j (i + 1)) a b → nd_X5_pads_34 K n j (rq (pb c j (i + 1))) a b (nI (i + 1)) c (xsb x 1 z)) : nd_X5_pads_34 K (n + 1) j (rq (pb c j i)) a b (nI i) c (xsb x 1 z) := by
  have h7 := hC.n7
  have hp7 := pow7 h7.2
  have hB : i < 128 := by omega
  unfold nd_X5_pads_34 wp_X2_allBits
  have hlt : ¬ (((1 : Int32) <<< ((c_n c) &&& 31)) - (1 : Int32)) < nI i := fun q => by
    rw [allB hC, Int32.lt_iff_toInt_lt, nI_toInt (by omega), nI_toInt (by omega)] at q
    omega
  have hskip : ∀ z, ¬ Cd c j i → nd_X5_pads_34 K n j (rq (pb c j i)) a b (nI i + 1) c (xsb x 1 z) := fun z hno => by
    rw [nI_1]
    have h := hW a b z
    rw [pb_no hno] at h
    exact h hI
  refine ⟨fun q => absurd q hlt, fun _ => bits5 hB ⟨fun hj => hskip z (fun q => hj q.1), fun hj => ?_⟩⟩
  refine settle_ok hC hB (fun hF _ b' hb' => ⟨fun _ => ?_, fun e => absurd e n10⟩) (fun hF b' => ⟨fun q => absurd rfl q, fun _ => by rw [xsb_xsb]; exact hskip b' (fun q => hF q.2)⟩)
  have hCd : Cd c j i := ⟨hj, hF⟩
  have hD := pD_b hC hF
  have hM := pM_b hC hF
  rw [xsb_xsb]
  refine phigh5 hC hF (by rw [xsb_get]; exact hb'.1) (fun r hr => ?_)
  rw [xsb_get]
  cases e : pb c j i with
  | none =>
    refine ⟨fun _ => ?_, fun q => absurd rfl q⟩
    show nd_X5_pads_34 K n j (nI i) r (b_below (x_bal (xsb x 1 b') 1)) (nI i + 1) c (xsb x 1 b')
    rw [xsb_get, nI_1]
    have h := hW r (b_below b') b'
    rw [pb_none hCd e] at h
    exact h (fun d hd => by injection hd with hd; subst hd; exact ⟨hr, hb'.1.2.1⟩)
  | some d =>
    obtain ⟨hdi, hdc⟩ := pb_c e
    obtain ⟨ha, hb⟩ := hI d e
    have hMj := pM_b hC hdc.2
    have hDj := pD_b hC hdc.2
    have m1 := mul_bd (x := pM c i) (y := pD c d) (A := 17640000000) (B := 255000000) (by omega) (by omega)
    have m2 := mul_bd (x := pM c d) (y := pD c i) (A := 17640000000) (B := 255000000) (by omega) (by omega)
    have hle := l_lel (l_mul ha hb'.1.2.1 (by show _ ≤ pM c d * pD c i; omega) (by show pM c d * pD c i ≤ _; omega)) (l_mul hr hb (by omega) (by omega))
    refine ⟨fun q => absurd q (nI_nm3 (by omega)), fun _ => ⟨fun q => ⟨fun _ => ?_, fun y => absurd rfl y⟩, fun q => ⟨fun y => absurd y n10, fun _ => ?_⟩⟩⟩
    · show nd_X5_pads_34 K n j (nI d) a b (nI i + 1) c (xsb x 1 b')
      rw [nI_1]
      have h := hW a b b'
      rw [pb_stay hCd e (hle.mp q)] at h
      exact h (fun d' hd => by injection hd with hd; subst hd; exact ⟨ha, hb⟩)
    · show nd_X5_pads_34 K n j (nI i) r (b_below (x_bal (xsb x 1 b') 1)) (nI i + 1) c (xsb x 1 b')
      rw [xsb_get, nI_1]
      have h := hW r (b_below b') b'
      rw [pb_new hCd e (fun y => q (hle.mpr y))] at h
      exact h (fun d' hd => by injection hd with hd; subst hd; exact ⟨hr, hb'.1.2.1⟩)
theorem shl_chk : ∀ n, n < 8 → ((1 : Int32) <<< (nI n &&& 31)) = nI (2 ^ n) := by decide +kernel
theorem pads6_step {K : Int32 → CS → MT → Prop} (hC : CI c) {n : Nat} (hi1 : 1 ≤ i) (hi : i < 2 ^ kN c) {a b : Int64} (hI : pbI c (pb c j i) a b)
    (hW : ∀ (a b : Int64) (t : MT), pbI c (pb c j (i + 1)) a b → nd_X6_pads_30 K n j (rp (pb c j (i + 1))) a b (nI (i + 1)) c t) : nd_X6_pads_30 K (n + 1) j (rp (pb c j i)) a b (nI i) c t := by
  have h7 := hC.n7
  have hp7 := pow7 h7.2
  have hB : i < 128 := by omega
  have hlt : ¬ ((1 : Int32) <<< ((c_n c) &&& 31)) ≤ nI i := by
    rw [hC.en, shl_chk _ (by omega)]
    exact nI_ge hi (by omega)
  have hskip : ∀ t, ¬ Cd c j i → nd_X6_pads_30 K n j (rp (pb c j i)) a b (nI i + 1) c t := fun t hno => by
    rw [nI_1]
    have h := hW a b t
    rw [pb_no hno] at h
    exact h hI
  refine ⟨fun q => absurd q hlt, fun _ => bits6 ⟨fun hj => hskip t (fun q => hj q.1), fun hj => ?_⟩⟩
  refine leads_ok hC hi (fun hF => ⟨fun e => absurd e n10, fun _ => ?_⟩) (fun hF => ⟨fun _ => hskip t (fun q => hF q.2), fun q => absurd rfl q⟩)
  have hCd : Cd c j i := ⟨hj, hF⟩
  have hD := pD_b hC hF
  have hM := pM_b hC hF
  obtain ⟨k0, hk0, hp⟩ := Fed.pad hF (show 0 < kN c by omega)
  refine find_ok hC hB hk0 hp (fun t' _ hR => most_ok hC hR hk0 hp (fun r hr => ?_))
  have hr : r.toInt = pM c i := hr
  cases e : pb c j i with
  | none =>
    refine ⟨fun _ => ?_, fun q => absurd rfl q⟩
    show nd_X6_pads_30 K n j (nI i) r (m_under t') (nI i + 1) c t'
    rw [nI_1]
    have h := hW r (m_under t') t'
    rw [pb_none hCd e] at h
    exact h (fun d hd => by injection hd with hd; subst hd; exact ⟨hr, hR.1⟩)
  | some d =>
    obtain ⟨hdi, hdc⟩ := pb_c e
    obtain ⟨ha, hb⟩ := hI d e
    have hMj := pM_b hC hdc.2
    have hDj := pD_b hC hdc.2
    have m1 := mul_bd (x := pM c i) (y := pD c d) (A := 17640000000) (B := 255000000) (by omega) (by omega)
    have m2 := mul_bd (x := pM c d) (y := pD c i) (A := 17640000000) (B := 255000000) (by omega) (by omega)
    have hle := l_lel (l_mul ha hR.1 (by show _ ≤ pM c d * pD c i; omega) (by show pM c d * pD c i ≤ _; omega)) (l_mul hr hb (by omega) (by omega))
    refine ⟨fun q => absurd q (nI_nm1 (by omega)), fun _ => ⟨fun q => ?_, fun q => ?_⟩⟩
    · show nd_X6_pads_30 K n j (nI d) a b (nI i + 1) c t'
      rw [nI_1]
      have h := hW a b t'
      rw [pb_stay hCd e (hle.mp q)] at h
      exact h (fun d' hd => by injection hd with hd; subst hd; exact ⟨ha, hb⟩)
    · show nd_X6_pads_30 K n j (nI i) r (m_under t') (nI i + 1) c t'
      rw [nI_1]
      have h := hW r (m_under t') t'
      rw [pb_new hCd e (fun y => q (hle.mpr y))] at h
      exact h (fun d' hd => by injection hd with hd; subst hd; exact ⟨hr, hR.1⟩)
theorem ag_pads (hC : CI c) : AGI c (fun x K => wp_X5_pads j c x K) (fun t K => wp_X6_pads j c t K) := by
  have h7 := hC.n7
  have hp7 := pow7 h7.2
  have hpos : 0 < 2 ^ kN c := Nat.pow_pos (by omega)
  by_cases hj : (1 : Int32) ≤ j ∧ j ≤ (3 : Int32)
  case neg => exact AGI.mk' hC (-2) (fun x K hK => bw_ok (fun q => absurd q hj) (fun _ => ⟨fun _ => hK x, fun q => absurd rfl q⟩)) (fun t K hK => in_ok (fun q => absurd q hj) (fun _ => ⟨fun _ => hK t, fun q => absurd rfl q⟩))
  by_cases hn : j ≤ c_n c
  case neg => exact AGI.mk' hC (-2) (fun x K hK => bw_ok (fun _ => ⟨fun e => absurd e n10, fun _ => ⟨fun q => absurd q hn, fun _ => hK x⟩⟩) (fun q => absurd hj q)) (fun t K hK => in_ok (fun _ => ⟨fun e => absurd e n10, fun _ => ⟨fun q => absurd q hn, fun _ => hK t⟩⟩) (fun q => absurd hj q))
  refine AGI.mk' hC (rq (pb c j (2 ^ kN c))) (fun x K hK => bw_ok (fun _ => ⟨fun e => absurd e n10, fun _ => ⟨fun _ => ?_, fun q => absurd hn q⟩⟩) (fun q => absurd hj q)) (fun t K hK => in_ok (fun _ => ⟨fun e => absurd e n10, fun _ => ⟨fun _ => ?_, fun q => absurd hn q⟩⟩) (fun q => absurd hj q))
  · have e1 : (-3 : Int32) = rq (pb c j 1) := by rw [pb_1 hC]; rfl
    rw [e1, ← xsb_self x 1]
    show ∃ n34 : Nat, nd_X5_pads_34 K n34 j (rq (pb c j 1)) (0 : Int64) (1 : Int64) (nI 1) c (xsb x 1 (x_bal x 1))
    refine upto (fun n i (s : Int64 × Int64 × BS) => nd_X5_pads_34 K n j (rq (pb c j i)) s.1 s.2.1 (nI i) c (xsb x 1 s.2.2)) (fun i s => pbI c (pb c j i) s.1 s.2.1) (2 ^ kN c) 1 (0, 1, x_bal x 1) (by omega) (fun d hd => by rw [pb_1 hC] at hd; cases hd) ?_ ?_
    · rintro n ⟨a, b, z⟩ _
      unfold nd_X5_pads_34 wp_X2_allBits
      refine ⟨fun _ => hK _, fun h => absurd ?_ h⟩
      rw [allB hC, Int32.lt_iff_toInt_lt, nI_toInt (by omega), nI_toInt (by omega)]
      omega
    · rintro n i ⟨a, b, z⟩ hi h1 hI hW
      exact pads5_step hC h1 hi hI (fun a b z h => hW (a, b, z) h)
  · have e1 : (-1 : Int32) = rp (pb c j 1) := by rw [pb_1 hC]; rfl
    rw [e1]
    show ∃ n30 : Nat, nd_X6_pads_30 K n30 j (rp (pb c j 1)) (0 : Int64) (1 : Int64) (nI 1) c t
    refine upto (fun n i (s : Int64 × Int64 × MT) => nd_X6_pads_30 K n j (rp (pb c j i)) s.1 s.2.1 (nI i) c s.2.2) (fun i s => pbI c (pb c j i) s.1 s.2.1) (2 ^ kN c) 1 (0, 1, t) (by omega) (fun d hd => by rw [pb_1 hC] at hd; cases hd) ?_ ?_
    · rintro n ⟨a, b, z⟩ _
      refine ⟨fun _ => ?_, fun h => absurd ?_ h⟩
      · cases e : pb c j (2 ^ kN c) with
        | none => rw [e] at hK; exact ⟨fun q => absurd rfl q, fun _ => hK z⟩
        | some d =>
          have hd := pb_c e
          rw [e] at hK
          exact ⟨fun _ => hK z, fun q => absurd q (nI_nm1 (by omega))⟩
      · rw [hC.en, shl_chk _ (by omega)]
        exact Int32.le_refl _
    · rintro n i ⟨a, b, z⟩ hi h1 hI hW
      exact pads6_step hC h1 hi hI (fun a b z h => hW (a, b, z) h)
end PD
