/-! THE CLASS'S Balance: takeOutAllBut, forget, weigh, settle -/
theorem nI_m1 (t : Nat) (ht : t < 2000000000) : nI (t + 1) - (1 : Int32) = nI t ∧ nI t + (-1 : Int32) = nI t - (1 : Int32) := by
  constructor
  · apply i_inj
    rw [i_sub (nI_toInt (by omega)) (show (1 : Int32).toInt = 1 by decide) (by omega) (by omega), nI_toInt (by omega)]
    omega
  · apply i_inj
    have h1 : (1 : Int32).toInt = 1 := by decide
    have h2 : (-1 : Int32).toInt = -1 := by decide
    rw [i_sub (nI_toInt (by omega)) h1 (by omega) (by omega), i_add (nI_toInt (by omega)) h2 (by omega) (by omega)]
    omega
theorem cS_f {B k : Nat} (h : bt7 B k = true) : cS B k = false := by unfold cS; rw [h]; rfl
theorem cS_t {B k : Nat} (h : bt7 B k = false) : cS B k = true := by unfold cS; rw [h]; rfl
theorem nots (B : Nat) : (fun k => !cS B k) = bt7 B := by funext k; unfold cS; cases bt7 B k <;> rfl
section BAL3
variable {c : CS} {x : XT} {tb n E : Nat} {fa ta : Nat → Nat} {wd : Nat → Int} {B : Nat}
theorem takeall_go {K : Int32 → CS → XT → Prop} (hN : NetOK n E fa ta wd) (hB : B < 128)
    (h0 : ¬ Fed n E fa ta wd (bt7 B) → ∀ b', K 0 c (xsb x tb b')) (h1 : 0 < Dn n (lp E fa ta wd) (cS B) → ∀ b', TKB n (lp E fa ta wd) (cS B) b' → K 1 c (xsb x tb b')) : ∀ t, t ≤ n → ∀ b, TKB n (lp E fa ta wd) (frm (cS B) t) b → 0 < Dn n (lp E fa ta wd) (frm (cS B) t) → nd_X0_takeOutAllBut_7 tb K (t + 1) (nI B) (nI t - 1) c (xsb x tb b)
  | 0, _, b, hb, hD => by
    rw [frm_0] at hb hD
    exact ⟨fun _ => h1 hD b hb, fun h => absurd (by decide) h⟩
  | t + 1, ht, b, hb, hD => by
    have h7 := hN.1
    have hm := nI_m1 t (by omega)
    have ih := takeall_go hN hB h0 h1 t (by omega)
    rw [hm.1]
    have hneg : ¬ nI t < (0 : Int32) := by
      intro h
      have := Int32.lt_iff_toInt_lt.mp h
      rw [nI_toInt (by omega)] at this
      have e : (0 : Int32).toInt = 0 := by decide
      omega
    refine ⟨fun h => absurd h hneg, fun _ => has_ok hB (by omega) (fun hb1 => ⟨fun _ => ?_, fun h => absurd h (by decide)⟩) (fun hb0 => ⟨fun h => absurd rfl h, fun _ => ?_⟩)⟩
    · show nd_X0_takeOutAllBut_7 tb K (t + 1) (nI B) (nI t + (-1 : Int32)) c _
      rw [hm.2]
      have e := frm_out (S := cS B) (t := t) (cS_f hb1)
      exact ih b (by rw [e]; exact hb) (by rw [e]; exact hD)
    · have e := frm_in (S := cS B) (t := t) (cS_t hb0)
      have hs := frm_self (cS B) t
      refine take_ok (x := xsb x tb b) hN (by omega) hs hD (by rw [xsb_get]; exact hb) (fun hle => ⟨fun h => absurd rfl h, fun _ => h0 (fun hF => ?_) b⟩) (fun hp b' hb' => ⟨fun _ => ?_, fun h => absurd h (by decide)⟩)
      · have := Dn_frm (S := cS B) hN.2.2.1 hN.2.2.2.1 (fun w hw => (hN.2.2.2.2 w hw).1) (by rw [nots]; exact hF) (n - t) t (by omega)
        rw [e] at this
        omega
      · show nd_X0_takeOutAllBut_7 tb K (t + 1) (nI B) (nI t + (-1 : Int32)) c _
        rw [hm.2, xsb_xsb]
        rw [← e] at hb'
        exact ih b' hb' (by rw [e]; exact hp)
theorem takeall_ok {K : Int32 → CS → XT → Prop} (hN : NetOK n E fa ta wd) (hB : B < 128) {b : BS} (hk : b_knots b = nI n) (hbel : b_below b = 1) (hc : ∀ i j, i < n → j < n → (b_cell b i j).toInt = lp E fa ta wd i j)
    (h0 : ¬ Fed n E fa ta wd (bt7 B) → ∀ b', K 0 c (xsb x tb b')) (h1 : Fed n E fa ta wd (bt7 B) → 0 < Dn n (lp E fa ta wd) (cS B) → ∀ b', TKB n (lp E fa ta wd) (cS B) b' → K 1 c (xsb x tb b')) : wp_X0_takeOutAllBut tb (nI B) c (xsb x tb b) K := by
  have hf := hN.2.2.1
  have ht := hN.2.2.2.1
  have e1 : Dn n (lp E fa ta wd) (frm (cS B) n) = 1 := by
    rw [Dn_congr (frm_end (n := n) (cS B)) (fun _ _ _ _ => rfl), Dn_none]
  refine ⟨n + 1, ?_⟩
  rw [xsb_get, hk]
  refine takeall_go hN hB h0 (fun hD b' hb' => h1 ?_ hD b' hb') n (Nat.le_refl _) b ⟨hk, ?_, fun i j hi hj => ?_⟩ (by omega)
  · refine Classical.byContradiction (fun hF => ?_)
    have := Dn_unfed (S := cS B) (wd := wd) hf ht (by rw [nots]; exact hF)
    omega
  · rw [hbel, e1]; decide
  · rw [hc i j hi hj, cl_congr (frm_end (n := n) (cS B)) (fun _ _ _ _ => rfl) hi hj, cl_none _ hi]
theorem Rn_cl {L : Nat → Nat → Int} {S : Nat → Bool} {i j : Nat} (hi : S i = true) (hj : S j = true) : Rn n L S i j = cl n L S i j := by
  unfold Rn cl
  rw [if_pos ⟨hi, hj⟩, if_pos (by rw [hi, hj])]
theorem Rn_pad {L : Nat → Nat → Int} {S : Nat → Bool} {i j : Nat} (h : S i = false ∨ S j = false) : Rn n L S i j = 0 := by
  unfold Rn
  rw [if_neg]
  rintro ⟨h1, h2⟩
  rcases h with h | h
  · rw [h1] at h; exact absurd h (by decide)
  · rw [h2] at h; exact absurd h (by decide)
theorem forget_ok {K : CS → XT → Prop} {L : Nat → Nat → Int} {b : BS} (h7 : n ≤ 7) (hB : B < 128) (hk : b_knots b = nI n) (hc : ∀ i j, i < n → j < n → (b_cell b i j).toInt = cl n L (cS B) i j)
    (hK : ∀ f : Nat → Nat → Int64, (∀ i j, i < n → j < n → (f i j).toInt = Rn n L (cS B) i j) → K c (xsb x tb (bs_cell b f))) : wp_X0_forget tb (nI B) c (xsb x tb b) K := by
  let J : Nat → Nat → (Nat → Nat → Int64) → Prop := fun r s f => ∀ i j, i < n → j < n → ((i < r ∨ (i = r ∧ j < s)) → (f i j).toInt = Rn n L (cS B) i j) ∧ (¬ (i < r ∨ (i = r ∧ j < s)) → (f i j).toInt = cl n L (cS B) i j)
  have hkk : ∀ f : Nat → Nat → Int64, b_knots (x_bal (xsb x tb (bs_cell b f)) tb) = nI n := fun f => by rw [xsb_get]; exact hk
  have hbb : bs_cell b (b_cell b) = b := rfl
  show ∃ n2 : Nat, nd_X0_forget_2 tb K n2 (nI B) (nI 0) c (xsb x tb (bs_cell b (b_cell b)))
  refine upto (fun m r (f : Nat → Nat → Int64) => nd_X0_forget_2 tb K m (nI B) (nI r) c (xsb x tb (bs_cell b f))) (fun r f => J r 0 f) n 0 _ (by omega) (fun i j hi hj => ⟨fun h => by omega, fun _ => hc i j hi hj⟩) ?_ ?_
  · intro m f hf
    exact ⟨fun _ => hK f (fun i j hi hj => (hf i j hi hj).1 (by omega)), fun h => absurd (show _ ≤ nI n from by rw [hkk]; exact Int32.le_refl _) h⟩
  · intro m r f hr _ hf hW
    refine ⟨fun h => absurd h (by rw [hkk]; exact nI_ge hr (by omega)), fun _ => ?_⟩
    refine upto (fun m' j (g : Nat → Nat → Int64) => nd_X0_forget_12 tb K (fun v1 v2 c x => nd_X0_forget_2 tb K m v1 v2 c x) m' (nI B) (nI r) (nI j) c (xsb x tb (bs_cell b g))) (fun j g => J r j g) n 0 f (by omega) hf ?_ ?_
    · intro m' g hg
      refine ⟨fun _ => ?_, fun h => absurd (show _ ≤ nI n from by rw [hkk]; exact Int32.le_refl _) h⟩
      show nd_X0_forget_2 tb K m (nI B) (nI r + 1) c _
      rw [nI_1]
      exact hW g (fun a b ha hb => ⟨fun h => (hg a b ha hb).1 (by omega), fun h => (hg a b ha hb).2 (by omega)⟩)
    · intro m' j g hj _ hg hW'
      have hclr : (nI r).toNatClampNeg = r := cl_ (by omega)
      have hclj : (nI j).toNatClampNeg = j := cl_ (by omega)
      have hz : (cS B r = false ∨ cS B j = false) → nd_X0_forget_36 tb K (fun v1 v2 c x => nd_X0_forget_2 tb K m v1 v2 c x) (fun v1 v2 v3 c x => nd_X0_forget_12 tb K (fun v1 v2 c x => nd_X0_forget_2 tb K m v1 v2 c x) m' v1 v2 v3 c x) (nI B) (nI r) (nI j) c (xsb x tb (bs_cell b g)) := fun hor => by
        refine ⟨vi (by omega) (by omega), vi (by omega) (by omega), ?_⟩
        rw [xsb_get, xsb_xsb, hclr, hclj]
        show nd_X0_forget_12 tb K _ m' (nI B) (nI r) (nI j + 1) c _
        rw [nI_1]
        refine hW' (upM g r j 0) (fun a b ha hb => ⟨fun h => ?_, fun h => ?_⟩)
        · by_cases q : a = r ∧ b = j
          · obtain ⟨rfl, rfl⟩ := q
            rw [upM_s, Rn_pad hor]; decide
          · rw [upM_n q]; exact (hg a b ha hb).1 (by omega)
        · rw [upM_n (by omega)]; exact (hg a b ha hb).2 (by omega)
      refine ⟨fun h => absurd h (by rw [hkk]; exact nI_ge hj (by omega)), fun _ => has_ok hB (by omega) (fun h1 => ⟨fun _ => hz (.inl (cS_f h1)), fun h => absurd h (by decide)⟩) (fun h1 => ⟨fun h => absurd rfl h, fun _ => has_ok hB (by omega) (fun h2 => ⟨fun h => absurd h (by decide), fun _ => hz (.inr (cS_f h2))⟩) (fun h2 => ⟨fun _ => ?_, fun h => absurd rfl h⟩)⟩)⟩
      show nd_X0_forget_12 tb K _ m' (nI B) (nI r) (nI j + 1) c _
      rw [nI_1]
      refine hW' g (fun a b ha hb => ⟨fun h => ?_, fun h => (hg a b ha hb).2 (by omega)⟩)
      by_cases q : a = r ∧ b = j
      · obtain ⟨rfl, rfl⟩ := q
        rw [(hg a b ha hb).2 (by omega), Rn_cl (cS_t h1) (cS_t h2)]
      · exact (hg a b ha hb).1 (by omega)
theorem weigh_ok {K : CS → XT → Prop} {b : BS} {S : Nat → Bool} {k0 : Nat} (hN : NetOK n E fa ta wd) (hq : CIq c) (hk0 : k0 < n) (hS0 : S k0 = false) (hk : b_knots b = nI n) (hc : SC n (lp E fa ta wd) S b)
    (hK : ∀ g : Nat → Int64, (∀ k, k < n → (g k).toInt = fl n (lp E fa ta wd) S (kQ c) k) → K c (xsb x tb (bs_above b g))) : wp_X0_weigh tb c (xsb x tb b) K := by
  have h7 := hN.1
  have hkk : ∀ f : Nat → Int64, b_knots (x_bal (xsb x tb (bs_above b f)) tb) = nI n := fun f => by rw [xsb_get]; exact hk
  show ∃ n2 : Nat, nd_X0_weigh_2 tb K n2 (nI 0) c (xsb x tb (bs_above b (b_above b)))
  refine upto (fun m r (f : Nat → Int64) => nd_X0_weigh_2 tb K m (nI r) c (xsb x tb (bs_above b f))) (fun r f => ∀ k, k < r → (f k).toInt = fl n (lp E fa ta wd) S (kQ c) k) n 0 _ (by omega) (fun k h => by omega) ?_ ?_
  · intro m f hf
    exact ⟨fun _ => hK f hf, fun h => absurd (show _ ≤ nI n from by rw [hkk]; exact Int32.le_refl _) h⟩
  · intro m r f hr _ hf hW
    refine ⟨fun h => absurd h (by rw [hkk]; exact nI_ge hr (by omega)), fun _ => ?_⟩
    refine upto (fun m' j (a : Int64) => nd_X0_weigh_15 tb K (fun v2 c x => nd_X0_weigh_2 tb K m v2 c x) m' (nI r) a (nI j) c (xsb x tb (bs_above b f))) (fun j a => a.toInt = sm j (fun j => Rn n (lp E fa ta wd) S r j * kQ c j)) n 0 (0 : Int64) (by omega) rfl ?_ ?_
    · intro m' a ha
      refine ⟨fun _ => ⟨vi (by omega) (by omega), ?_⟩, fun h => absurd (show _ ≤ nI n from by rw [hkk]; exact Int32.le_refl _) h⟩
      rw [xsb_get, xsb_xsb, nI_1, cl_ (by omega)]
      refine hW (vp_updL f r a) (fun k hk => ?_)
      by_cases e : k = r
      · subst e; rw [upL_s]; exact ha
      · rw [upL_n e]; exact hf k (by omega)
    · intro m' j a hj _ ha hW'
      refine ⟨fun h => absurd h (by rw [hkk]; exact nI_ge hj (by omega)), fun _ => ⟨vi (by omega) (by omega), vi (by omega) (by omega), vi (by omega) (by omega), ?_⟩⟩
      rw [xsb_get, nI_1, cl_ (by omega), cl_ (by omega)]
      refine hW' _ ?_
      have h1 := Rn_bound hN hk0 hS0 hr hj
      have h2 := hq j (by omega)
      have h3 := fl_abs hN hk0 hS0 hr (Q := 100) (by omega) (fun j hj => hq j (by omega)) (m := j) (by omega)
      have h4 := mul_bd (x := Rn n (lp E fa ta wd) S r j) (y := kQ c j) (A := 25200000) (B := 100) h1 (by omega)
      exact l_add ha (l_mul (hc r j hr hj) (l_of rfl) (by omega) (by omega)) (by show -9000000000000000000 ≤ sm j _ + Rn n (lp E fa ta wd) S r j * kQ c j; omega) (by show sm j _ + Rn n (lp E fa ta wd) S r j * kQ c j ≤ _; omega)
/-- settled for pads B -/
def ST (c : CS) (B : Nat) (b : BS) : Prop := SA (kN c) (kL c (-1)) (cS B) (kQ c) b ∧ SC (kN c) (kL c (-1)) (cS B) b
def FedB (c : CS) (B : Nat) : Prop := Fed (kN c) (kE c) (kF c) (kT c) (wB c (-1)) (bt7 B)
theorem settle_ok {K : Int32 → CS → XT → Prop} (hC : CI c) (hB : B < 128) (h1 : FedB c B → 0 < Dn (kN c) (kL c (-1)) (cS B) → ∀ b', ST c B b' → K 1 c (xsb x tb b')) (h0 : ¬ FedB c B → ∀ b', K 0 c (xsb x tb b')) : wp_X0_settle tb (nI B) c x K := by
  have hN := hC.net (-1)
  have hn := hC.1
  refine lay_ok hC (fun f hf => ?_)
  refine takeall_ok (b := bs_cell (bs_below (bs_knots (x_bal x tb) (c_n c)) (1 : Int64)) f) hN hB hn.2.2 rfl hf (fun hF b' => ⟨fun h => absurd rfl h, fun _ => h0 hF b'⟩) (fun hF hD b' hb' => ⟨fun _ => ?_, fun h => absurd h (by decide)⟩)
  obtain ⟨k0, hk0, hp⟩ := Fed.pad hF (show 0 < kN c by have := hn.1; omega)
  refine forget_ok hN.1 hB hb'.1 hb'.2.2 (fun g hg => ?_)
  refine weigh_ok (b := bs_cell b' g) (S := cS B) (k0 := k0) hN hC.2.2.2.1 hk0 (cS_f hp) hb'.1 hg (fun a ha => ?_)
  exact h1 hF hD _ ⟨⟨hb'.1, hb'.2.1, ha⟩, hg⟩
end BAL3
