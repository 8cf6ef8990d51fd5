/-! THE CLASS'S Balance: highest, isWithin, alter, alterCells -/
/-- the first of the greatest -/
def hx : Nat → (Nat → Int) → Nat
  | 0, _ => 0
  | n + 1, f => if f n ≤ f (hx n f) then hx n f else n
theorem hx_lt {f : Nat → Int} : ∀ {n}, 0 < n → hx n f < n
  | n + 1, _ => by
    show (if f n ≤ f (hx n f) then hx n f else n) < n + 1
    split
    · cases n with
      | zero => exact Nat.lt_succ_self 0
      | succ m => have := hx_lt (f := f) (n := m + 1) (by omega); omega
    · omega
theorem hx_ge {f : Nat → Int} : ∀ {n k}, k < n → f k ≤ f (hx n f)
  | n + 1, k, h => by
    show _ ≤ f (if f n ≤ f (hx n f) then hx n f else n)
    split
    · rename_i q
      by_cases e : k = n
      · rw [e]; exact q
      · exact hx_ge (n := n) (by omega)
    · rename_i q
      by_cases e : k = n
      · rw [e]; exact Int.le_refl _
      · have := hx_ge (f := f) (n := n) (k := k) (by omega)
        omega
theorem mx_ge {f : Nat → Int} : ∀ {n k}, k < n → f k ≤ mx n f
  | n + 1, k, h => by
    show _ ≤ if f n ≤ mx n f then mx n f else f n
    by_cases e : k = n
    · subst e; split <;> omega
    · have := mx_ge (f := f) (n := n) (k := k) (by omega)
      split <;> omega
theorem mx_at {f : Nat → Int} : ∀ {n}, mx n f = 0 ∨ ∃ k, k < n ∧ mx n f = f k
  | 0 => .inl rfl
  | n + 1 => by
    show (if f n ≤ mx n f then mx n f else f n) = 0 ∨ ∃ k, k < n + 1 ∧ (if f n ≤ mx n f then mx n f else f n) = f k
    split
    · rcases mx_at (f := f) (n := n) with h | ⟨k, hk, h⟩
      · exact .inl h
      · exact .inr ⟨k, by omega, h⟩
    · exact .inr ⟨n, by omega, rfl⟩
theorem mx_nonneg {f : Nat → Int} : ∀ {n}, 0 ≤ mx n f
  | 0 => Int.le_refl 0
  | n + 1 => by
    have := mx_nonneg (f := f) (n := n)
    show 0 ≤ if f n ≤ mx n f then mx n f else f n
    split <;> omega
theorem mx_hx {f : Nat → Int} {n k0 : Nat} (hk : k0 < n) (h0 : f k0 = 0) : f (hx n f) = mx n f := by
  have h1 := hx_ge (f := f) hk
  have h2 := mx_ge (f := f) (hx_lt (f := f) (n := n) (by omega))
  rcases mx_at (f := f) (n := n) with h | ⟨k, hk', h⟩
  · omega
  · have := hx_ge (f := f) hk'; omega
theorem mx_congr {f g : Nat → Int} : ∀ {n}, (∀ k, k < n → f k = g k) → mx n f = mx n g
  | 0, _ => rfl
  | n + 1, h => by
    have ih := mx_congr (n := n) (fun k hk => h k (by omega))
    show (if f n ≤ mx n f then mx n f else f n) = if g n ≤ mx n g then mx n g else g n
    rw [ih, h n (by omega)]
theorem hx_congr {f g : Nat → Int} : ∀ {n}, (∀ k, k < n → f k = g k) → hx n f = hx n g
  | 0, _ => rfl
  | n + 1, h => by
    have ih := hx_congr (n := n) (fun k hk => h k (by omega))
    show (if f n ≤ f (hx n f) then hx n f else n) = if g n ≤ g (hx n g) then hx n g else n
    have e : f (hx n f) = g (hx n g) := by
      rw [ih]
      by_cases q : 0 < n
      · exact h _ (by have := hx_lt (f := g) q; omega)
      · have : n = 0 := by omega
        subst this; exact h 0 (by omega)
    rw [ih, h n (by omega)]
    rw [ih] at e; rw [e]
section BAL4
variable {c : CS} {x : XT} {tb ub n E w : Nat} {fa ta : Nat → Nat} {wd : Nat → Int} {S : Nat → Bool} {f q : Nat → Int} {m : Int32} {mi : Int}
theorem high_ok {K : Int32 → CS → XT → Prop} (h1 : 1 ≤ n) (h7 : n ≤ 7) (hk : b_knots (x_bal x tb) = nI n) (hf : ∀ k, k < n → (b_above (x_bal x tb) k).toInt = f k) (hK : K (nI (hx n f)) c x) : wp_X0_highest tb c x K := by
  show ∃ n4 : Nat, nd_X0_highest_4 tb K n4 (nI 0) (nI 1) c x
  refine upto (fun m i (v : Nat) => nd_X0_highest_4 tb K m (nI v) (nI i) c x) (fun i v => v = hx i f) n 1 0 h1 (by show 0 = hx 1 f; unfold hx hx; split <;> rfl) ?_ ?_
  · rintro m v rfl
    exact ⟨fun _ => hK, fun h => absurd (show _ ≤ nI n from by rw [hk]; exact Int32.le_refl _) h⟩
  · rintro m i v hi h1i rfl hW
    have hlt := hx_lt (f := f) (n := i) (by omega)
    have ci : (nI i).toNatClampNeg = i := cl_ (by omega)
    have ch : (nI (hx i f)).toNatClampNeg = hx i f := cl_ (by omega)
    refine ⟨fun h => absurd h (by rw [hk]; exact nI_ge hi (by omega)), fun _ => ⟨vi (by omega) (by omega), vi (by omega) (by omega), ?_⟩⟩
    rw [ci, ch]
    refine ⟨fun h => ?_, fun h => ?_⟩
    · show nd_X0_highest_4 tb K m (nI (hx i f)) (nI i + 1) c x
      rw [nI_1]
      have h' := Int64.le_iff_toInt_le.mp h
      rw [hf i hi, hf _ (by omega)] at h'
      exact hW (hx i f) (by show _ = if _ then _ else _; rw [if_pos h'])
    · show nd_X0_highest_4 tb K m (nI i) (nI i + 1) c x
      rw [nI_1]
      have h' := fun z => h (Int64.le_iff_toInt_le.mpr z)
      rw [hf i hi, hf _ (by omega)] at h'
      exact hW i (by show _ = if _ then _ else _; rw [if_neg h'])
theorem habove_ok {K : Int64 → CS → XT → Prop} (h1 : 1 ≤ n) (h7 : n ≤ 7) (hk : b_knots (x_bal x tb) = nI n) (hf : ∀ k, k < n → (b_above (x_bal x tb) k).toInt = f k) (hK : ∀ r : Int64, r.toInt = f (hx n f) → K r c x) : wp_X0_highestAbove tb c x K := by
  refine high_ok h1 h7 hk hf ?_
  have hlt := hx_lt (f := f) h1
  refine ⟨vi (by omega) (by omega), ?_⟩
  rw [cl_ (by omega)]
  exact hK _ (hf _ hlt)
theorem within_ok {K : Int32 → CS → XT → Prop} {lim : Int32} {D : Int} (h1 : 1 ≤ n) (h7 : n ≤ 7) (hk : b_knots (x_bal x tb) = nI n) (hf : ∀ k, k < n → (b_above (x_bal x tb) k).toInt = f k) (hD : (b_below (x_bal x tb)).toInt = D) (hDb : 0 ≤ D ∧ D ≤ 255000000) (hl : 0 ≤ lim.toInt ∧ lim.toInt ≤ 1000)
    (hK1 : f (hx n f) ≤ lim.toInt * D → K 1 c x) (hK0 : ¬ f (hx n f) ≤ lim.toInt * D → K 0 c x) : wp_X0_isWithin tb lim c x K := by
  refine habove_ok h1 h7 hk hf (fun r hr => ?_)
  have hb := mul_bd (x := lim.toInt) (y := D) (A := 1000) (B := 255000000) (by omega) (by omega)
  have e : ((Int32.toInt64 lim) * (b_below (x_bal x tb))).toInt = lim.toInt * D := l_mul (l_of rfl) hD (by omega) (by omega)
  refine ⟨fun h => hK0 ?_, fun h => hK1 ?_⟩
  · have := Int64.lt_iff_toInt_lt.mp h
    omega
  · have : ¬ _ := fun z => h (Int64.lt_iff_toInt_lt.mpr z)
    omega
theorem alter_ok {K : Int32 → CS → XT → Prop} {k0 : Nat} (hub : ub ≠ tb) (hN : NetOK n E fa ta wd) (hN' : NetOK n E fa ta (wdp wd w mi)) (hw : w < E) (hne : fa w ≠ ta w) (hm : m.toInt = mi) (hmb : -6 ≤ mi ∧ mi ≤ 6) (hk0 : k0 < n) (hS0 : S k0 = false) (hq : ∀ k, k < n → 0 ≤ q k ∧ q k ≤ 100)
    (hD : 0 < Dn n (lp E fa ta wd) S) (hA : SA n (lp E fa ta wd) S q (x_bal x ub)) (hCc : SC n (lp E fa ta wd) S (x_bal x ub))
    (h0 : Dn n (lp E fa ta (wdp wd w mi)) S ≤ 0 → ∀ b', K 0 c (xsb x tb b'))
    (h1 : 0 < Dn n (lp E fa ta (wdp wd w mi)) S → ∀ b', SA n (lp E fa ta (wdp wd w mi)) S q b' → (∀ k, k < n → (b_spread b' k).toInt = spr n (lp E fa ta wd) S (fa w) (ta w) k) → K 1 c (xsb x tb b')) : wp_X0_alter tb ub (nI (fa w)) (nI (ta w)) m c x K := by
  have h7 := hN.1
  have ha := hN.2.2.1 w hw
  have hb := hN.2.2.2.1 w hw
  obtain ⟨u1, u2, u3⟩ := hA
  have ca : (nI (fa w)).toNatClampNeg = fa w := cl_ (by omega)
  have cb : (nI (ta w)).toNatClampNeg = ta w := cl_ (by omega)
  have va : vp_in (nI (fa w)) 7 := vi (by omega) (by omega)
  have vb : vp_in (nI (ta w)) 7 := vi (by omega) (by omega)
  have hu : ∀ b, x_bal (xsb x tb b) ub = x_bal x ub := fun b => xsb_ne x b hub
  obtain ⟨b0, hb0⟩ : ∃ b0, b0 = bs_knots (x_bal x tb) (b_knots (x_bal x ub)) := ⟨_, rfl⟩
  have hk0' : b_knots b0 = nI n := by rw [hb0]; exact u1
  have hR := fun {i j : Nat} (hi : i < n) (hj : j < n) => Rn_bound hN hk0 hS0 hi hj
  have hSp : ∀ k, k < n → -50400000 ≤ spr n (lp E fa ta wd) S (fa w) (ta w) k ∧ spr n (lp E fa ta wd) S (fa w) (ta w) k ≤ 50400000 := fun k hk => by
    have q1 := hR hk ha
    have q2 := hR hk hb
    unfold spr
    omega
  have hkk : ∀ g, b_knots (x_bal (xsb x tb (bs_spread b0 g)) tb) = nI n := fun g => by rw [xsb_get]; exact hk0'
  have hst : xsb x tb b0 = xsb x tb (bs_spread b0 (b_spread b0)) := rfl
  unfold wp_X0_alter
  rw [← hb0, hst]
  refine upto (fun p i (g : Nat → Int64) => nd_X0_alter_11 tb ub K p (nI (fa w)) (nI (ta w)) m (nI i) c (xsb x tb (bs_spread b0 g))) (fun i g => ∀ k, k < i → (g k).toInt = spr n (lp E fa ta wd) S (fa w) (ta w) k) n 0 _ (by omega) (fun k h => by omega) ?_ ?_
  · intro p g hg
    have hDp := alt_D (n := n) (S := S) (wd := wd) (m := mi) hw ha hb hne
    have ea := hg _ ha
    have eb := hg _ hb
    have qa := hSp _ ha
    have qb := hSp _ hb
    have hDB := Dn_bound hN hk0 hS0
    have hDB' := Dn_bound hN' hk0 hS0
    have hmd := mul_bd (x := mi) (y := spr n (lp E fa ta wd) S (fa w) (ta w) (fa w) - spr n (lp E fa ta wd) S (fa w) (ta w) (ta w)) (A := 6) (B := 100800000) hmb (by omega)
    have hbel : ((b_below (x_bal x ub)) + ((Int32.toInt64 m) * (g (fa w) - g (ta w)))).toInt = Dn n (lp E fa ta (wdp wd w mi)) S := by
      rw [hDp]
      exact l_add u2 (l_mul (l_of hm) (l_sub ea eb (by omega) (by omega)) (by omega) (by omega)) (by omega) (by omega)
    refine ⟨fun _ => ?_, fun h => absurd (show _ ≤ nI n from by rw [hkk]; exact Int32.le_refl _) h⟩
    rw [hu, xsb_get, xsb_xsb, ca, cb]
    generalize hv : (b_below (x_bal x ub)) + ((Int32.toInt64 m) * (g (fa w) - g (ta w))) = v at *
    refine ⟨va, vb, fun h => ?_, fun h => ⟨fun _ => ⟨va, vb, ?_⟩, fun h' => absurd (Int64.lt_iff_toInt_lt.mpr (by rw [u2, l0]; exact hD)) h'⟩⟩
    · have h' := Int64.le_iff_toInt_le.mp h
      rw [l0] at h'
      exact h0 (by rw [← hbel]; exact h') _
    have h' : ¬ v.toInt ≤ (0 : Int64).toInt := fun z => h (Int64.le_iff_toInt_le.mpr z)
    rw [l0, hbel] at h'
    obtain ⟨b1, hb1⟩ : ∃ b1, b1 = bs_below (bs_spread b0 g) v := ⟨_, rfl⟩
    have hk1 : ∀ f, b_knots (x_bal (xsb x tb (bs_above b1 f)) tb) = nI n := fun f => by rw [xsb_get, hb1]; exact hk0'
    show ∃ n116 : Nat, nd_X0_alter_116 tb ub K n116 m (b_above (x_bal x ub) (fa w) - b_above (x_bal x ub) (ta w)) (nI 0) c (xsb x tb (bs_below (bs_spread b0 g) v))
    rw [← hb1, show xsb x tb b1 = xsb x tb (bs_above b1 (b_above b1)) from rfl]
    have hfl := fun {k : Nat} (hk : k < n) => fl_abs hN hk0 hS0 hk (Q := 100) (by omega) hq (m := n) (Nat.le_refl _)
    have hfl' := fun {k : Nat} (hk : k < n) => fl_abs hN' hk0 hS0 hk (Q := 100) (by omega) hq (m := n) (Nat.le_refl _)
    have hdrop : (b_above (x_bal x ub) (fa w) - b_above (x_bal x ub) (ta w)).toInt = fl n (lp E fa ta wd) S q (fa w) - fl n (lp E fa ta wd) S q (ta w) := by
      have z1 : -(25200000 * 100 * (n : Int)) ≤ fl n (lp E fa ta wd) S q (fa w) ∧ fl n (lp E fa ta wd) S q (fa w) ≤ 25200000 * 100 * (n : Int) := hfl ha
      have z2 : -(25200000 * 100 * (n : Int)) ≤ fl n (lp E fa ta wd) S q (ta w) ∧ fl n (lp E fa ta wd) S q (ta w) ≤ 25200000 * 100 * (n : Int) := hfl hb
      exact l_sub (u3 _ ha) (u3 _ hb) (by omega) (by omega)
    refine upto (fun p i (f : Nat → Int64) => nd_X0_alter_116 tb ub K p m (b_above (x_bal x ub) (fa w) - b_above (x_bal x ub) (ta w)) (nI i) c (xsb x tb (bs_above b1 f))) (fun i f => ∀ k, k < i → (f k).toInt = fl n (lp E fa ta (wdp wd w mi)) S q k) n 0 _ (by omega) (fun k h => by omega) ?_ ?_
    · intro p f hf
      refine ⟨fun _ => h1 (by omega) _ ⟨?_, ?_, hf⟩ ?_, fun h => absurd (show _ ≤ nI n from by rw [hk1]; exact Int32.le_refl _) h⟩
      · rw [hb1]; exact hk0'
      · rw [hb1]; exact hbel
      · rw [hb1]; exact hg
    · intro p i f hi _ hf hW
      have vi7 : vp_in (nI i) 7 := vi (by omega) (by omega)
      refine ⟨fun h => absurd h (by rw [hk1]; exact nI_ge hi (by omega)), fun _ => ⟨vi7, vi7, ?_, vi7, ?_⟩⟩
      · rw [hu]
        intro h
        have := congrArg Int64.toInt h
        rw [u2, l0] at this
        omega
      rw [hu, xsb_get, xsb_xsb, nI_1, cl_ (by omega)]
      refine hW _ (fun k hk => ?_)
      by_cases e : k = i
      · subst e
        show (vp_updL f k _ k).toInt = _
        rw [upL_s]
        have hal := alt_fl (n := n) (S := S) (wd := wd) (m := mi) hw hN.2.2.1 hN.2.2.2.1 hne (by omega) (by omega) q hi
        have z1 : -(25200000 * 100 * (n : Int)) ≤ fl n (lp E fa ta (wdp wd w mi)) S q k ∧ fl n (lp E fa ta (wdp wd w mi)) S q k ≤ 25200000 * 100 * (n : Int) := hfl' hi
        have z2 := mul_bd (x := fl n (lp E fa ta (wdp wd w mi)) S q k) (y := Dn n (lp E fa ta wd) S) (A := 17640000000) (B := 255000000) (by omega) hDB
        have z3 := mul_bd (x := mi) (y := spr n (lp E fa ta wd) S (fa w) (ta w) k) (A := 6) (B := 50400000) hmb (hSp k hi)
        refine l_div (d := Dn n (lp E fa ta wd) S) ?_ u2 (by omega) (by omega) (by omega)
        rw [Int.mul_comm, hal]
        refine l_ms (u3 k hi) (by rw [hb1]; exact hbel) (l_mul (l_of hm) (by rw [hb1]; exact hg k hi) (by omega) (by omega)) hdrop (by rw [← hal]; omega) (by rw [← hal]; omega)
      · show (vp_updL f i _ k).toInt = _
        rw [upL_n e]
        exact hf k (by omega)
  · intro p i g hi _ hg hW
    have vi7 : vp_in (nI i) 7 := vi (by omega) (by omega)
    refine ⟨fun h => absurd h (by rw [hkk]; exact nI_ge hi (by omega)), fun _ => ⟨vi7, va, vi7, vb, vi7, ?_⟩⟩
    rw [hu, xsb_get, xsb_xsb, nI_1, cl_ (by omega), ca, cb]
    refine hW _ (fun k hk => ?_)
    by_cases e : k = i
    · subst e
      show (vp_updL g k _ k).toInt = _
      rw [upL_s]
      have q1 := hR hi ha
      have q2 := hR hi hb
      exact l_sub (hCc k _ hi ha) (hCc k _ hi hb) (by omega) (by omega)
    · show (vp_updL g i _ k).toInt = _
      rw [upL_n e]
      exact hg k (by omega)
theorem altc_ok {K : CS → XT → Prop} {k0 : Nat} {b : BS} (hub : ub ≠ tb) (hN : NetOK n E fa ta wd) (hN' : NetOK n E fa ta (wdp wd w mi)) (hw : w < E) (hne : fa w ≠ ta w) (hm : m.toInt = mi) (hmb : -6 ≤ mi ∧ mi ≤ 6) (hk0 : k0 < n) (hS0 : S k0 = false)
    (hD : 0 < Dn n (lp E fa ta wd) S) (hD' : 0 < Dn n (lp E fa ta (wdp wd w mi)) S) (hA : (b_below (x_bal x ub)).toInt = Dn n (lp E fa ta wd) S) (hCc : SC n (lp E fa ta wd) S (x_bal x ub))
    (hb : SA n (lp E fa ta (wdp wd w mi)) S q b) (hs : ∀ k, k < n → (b_spread b k).toInt = spr n (lp E fa ta wd) S (fa w) (ta w) k)
    (hK : ∀ b', SA n (lp E fa ta (wdp wd w mi)) S q b' → SC n (lp E fa ta (wdp wd w mi)) S b' → K c (xsb x tb b')) : wp_X0_alterCells tb ub m c (xsb x tb b) K := by
  have h7 := hN.1
  have ha := hN.2.2.1 w hw
  have hb' := hN.2.2.2.1 w hw
  have hu : ∀ b, x_bal (xsb x tb b) ub = x_bal x ub := fun b => xsb_ne x b hub
  have hkk : ∀ g, b_knots (x_bal (xsb x tb (bs_cell b g)) tb) = nI n := fun g => by rw [xsb_get]; exact hb.1
  have hR := fun {i j : Nat} (hi : i < n) (hj : j < n) => Rn_bound hN hk0 hS0 hi hj
  have hSp : ∀ k, k < n → -50400000 ≤ spr n (lp E fa ta wd) S (fa w) (ta w) k ∧ spr n (lp E fa ta wd) S (fa w) (ta w) k ≤ 50400000 := fun k hk => by
    have q1 := hR hk ha
    have q2 := hR hk hb'
    unfold spr
    omega
  refine ⟨fun _ => ?_, fun h => absurd (Int64.lt_iff_toInt_lt.mpr (by rw [hu, hA, l0]; exact hD)) h⟩
  rw [show xsb x tb b = xsb x tb (bs_cell b (b_cell b)) from rfl]
  refine upto (fun p i (g : Nat → Nat → Int64) => nd_X0_alterCells_12 tb ub K p m (nI i) c (xsb x tb (bs_cell b g))) (fun i g => ∀ a j, a < i → j < n → (g a j).toInt = Rn n (lp E fa ta (wdp wd w mi)) S a j) n 0 _ (by omega) (fun a j h => by omega) ?_ ?_
  · intro p g hg
    exact ⟨fun _ => hK _ ⟨hb.1, hb.2.1, hb.2.2⟩ hg, fun h => absurd (show _ ≤ nI n from by rw [hkk]; exact Int32.le_refl _) h⟩
  · intro p i g hi _ hg hW
    refine ⟨fun h => absurd h (by rw [hkk]; exact nI_ge hi (by omega)), fun _ => ?_⟩
    refine upto (fun p' j (g : Nat → Nat → Int64) => nd_X0_alterCells_23 tb ub K (fun v2 v3 c x => nd_X0_alterCells_12 tb ub K p v2 v3 c x) p' m (nI i) (nI j) c (xsb x tb (bs_cell b g))) (fun j g => (∀ a j, a < i → j < n → (g a j).toInt = Rn n (lp E fa ta (wdp wd w mi)) S a j) ∧ ∀ j', j' < j → (g i j').toInt = Rn n (lp E fa ta (wdp wd w mi)) S i j') n 0 g (by omega) ⟨hg, fun j h => by omega⟩ ?_ ?_
    · intro p' f hf
      refine ⟨fun _ => ?_, fun h => absurd (show _ ≤ nI n from by rw [hkk]; exact Int32.le_refl _) h⟩
      show nd_X0_alterCells_12 tb ub K p m (nI i + 1) c _
      rw [nI_1]
      refine hW f (fun a j h1 h2 => ?_)
      by_cases e : a = i
      · subst e; exact hf.2 j h2
      · exact hf.1 a j (by omega) h2
    · intro p' j f hj _ hf hW'
      have vi7 : vp_in (nI i) 7 := vi (by omega) (by omega)
      have vj7 : vp_in (nI j) 7 := vi (by omega) (by omega)
      have ci : (nI i).toNatClampNeg = i := cl_ (by omega)
      have cj : (nI j).toNatClampNeg = j := cl_ (by omega)
      refine ⟨fun h => absurd h (by rw [hkk]; exact nI_ge hj (by omega)), fun _ => ⟨vi7, vj7, vi7, vi7, vj7, ?_, vj7, ?_⟩⟩
      · rw [hu]
        intro h
        have := congrArg Int64.toInt h
        rw [hA, l0] at this
        omega
      rw [hu, xsb_get, xsb_xsb, nI_1, ci, cj]
      have hal := alt_R (n := n) (S := S) (wd := wd) (m := mi) hw hN.2.2.1 hN.2.2.2.1 hne (by omega) (by omega) hi hj
      have hDB := Dn_bound hN hk0 hS0
      have z1 := Rn_bound hN' hk0 hS0 hi hj
      have z2 := mul_bd (x := Rn n (lp E fa ta (wdp wd w mi)) S i j) (y := Dn n (lp E fa ta wd) S) (A := 25200000) (B := 255000000) z1 hDB
      have z3 := mul_bd (x := mi) (y := spr n (lp E fa ta wd) S (fa w) (ta w) i) (A := 6) (B := 50400000) hmb (hSp i hi)
      rw [show mi * (spr n (lp E fa ta wd) S (fa w) (ta w) i * spr n (lp E fa ta wd) S (fa w) (ta w) j) = mi * spr n (lp E fa ta wd) S (fa w) (ta w) i * spr n (lp E fa ta wd) S (fa w) (ta w) j from (Int.mul_assoc _ _ _).symm] at hal
      refine hW' (upM f i j _) ⟨fun a j' h1 h2 => ?_, fun j' h1 => ?_⟩
      · rw [upM_n (by omega)]; exact hf.1 a j' h1 h2
      · by_cases e : j' = j
        · subst e
          rw [upM_s]
          refine l_div (d := Dn n (lp E fa ta wd) S) ?_ hA (by omega) (by omega) (by omega)
          rw [Int.mul_comm, hal]
          exact l_ms (hCc i j' hi hj) hb.2.1 (l_mul (l_of hm) (hs i hi) (by omega) (by omega)) (hs j' hj) (by rw [← hal]; omega) (by rw [← hal]; omega)
        · rw [upM_n (by omega)]; exact hf.2 j' (by omega)
end BAL4
