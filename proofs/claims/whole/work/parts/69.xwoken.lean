/-! WOKEN: the class's search over sets -/
set_option maxRecDepth 100000 in
theorem bq_chk : ∀ S, S < 64 → ∀ b, b < 6 → (nI S ||| ((1 : Int32) <<< (nI b &&& 31))) = nI (bq S b) := by decide +kernel
theorem bq_gt {S b : Nat} (h : bt7 S b = false) : S < bq S b := by
  refine Nat.lt_of_le_of_ne Nat.left_le_or (fun e => ?_)
  have := bq_bit S b b
  rw [← e, h] at this
  simp at this
theorem all_in {n S : Nat} (hS : S < 2 ^ n) (h : ∀ b, b < n → bt7 S b = true) : S = 2 ^ n - 1 := by
  refine Nat.eq_of_testBit_eq (fun i => ?_)
  rw [Nat.testBit_two_pow_sub_one]
  by_cases q : i < n
  · rw [decide_eq_true q]; exact h i q
  · rw [decide_eq_false q]
    exact Nat.testBit_lt_two_pow (Nat.lt_of_lt_of_le hS (Nat.pow_le_pow_right (by omega) (by omega)))
section XK
variable {c : CS} {x : XT} {S b : Nat} {L : Int}
theorem awk_b (hC : CI c) (hF : FedC c) {k : Nat} (hk : k < kN c) (S : Nat) {m : Nat} (hm : m ≤ kK c) : -(504000000 * (m : Int)) ≤ sm m (fun b => if bt7 S b = true then gr c k b * kM c b else 0) ∧ sm m (fun b => if bt7 S b = true then gr c k b * kM c b else 0) ≤ 504000000 * (m : Int) := by
  refine sm_abs (B := 504000000) (fun b hb => ?_)
  have h1 := gr_b hC hF hk (b := b) (by omega)
  have h2 := (hC.blk (b := b) (by omega)).2
  have h3 := mul_bd (x := gr c k b) (y := kM c b) (A := 25200000) (B := 20) h1 (by omega)
  by_cases q : bt7 S b = true
  · rw [if_pos q]; omega
  · rw [if_neg q]; omega
theorem weigh5 {K : CS → XT → Prop} (hC : CI c) (hF : FedC c) (hx : ST c (kB c) (x_bal x 0)) (hS : S < 128) (hK : ∀ aw, (∀ k, k < kN c → (aw k).toInt = awk c S k) → K c (xs_awake x aw)) : wp_X3_weighAwake (nI S) c x K := by
  have h6 := hC.b6
  have h7 := hC.n7
  have ekn : b_knots (x_bal x 0) = nI (kN c) := hx.1.1
  show ∃ n3 : Nat, nd_X3_weighAwake_3 K n3 (nI S) (nI 0) c (xs_awake x (x_awake x))
  refine upto (fun n k (aw : Nat → Int64) => nd_X3_weighAwake_3 K n (nI S) (nI k) c (xs_awake x aw)) (fun k aw => ∀ j, j < k → (aw j).toInt = awk c S j) (kN c) 0 _ (by omega) (fun j h => by omega) ?_ ?_
  · intro n aw haw
    exact ⟨fun _ => hK aw haw, fun h => absurd (show b_knots (x_bal x 0) ≤ nI (kN c) from by rw [ekn]; exact Int32.le_refl _) h⟩
  · intro n k aw hk _ haw hW
    refine ⟨fun h => absurd (show b_knots (x_bal x 0) ≤ nI k from h) (by rw [ekn]; exact nI_ge hk (by omega)), fun _ => ?_⟩
    show ∃ n18 : Nat, nd_X3_weighAwake_18 K (fun v3 v4 c x => nd_X3_weighAwake_3 K n v3 v4 c x) n18 (nI S) (nI k) (0 : Int64) (nI 0) c (xs_awake x aw)
    have vk7 : vp_in (nI k) 7 := vi (by omega) (by omega)
    have ck : (nI k).toNatClampNeg = k := cl_ (by omega)
    refine upto (fun m i (a : Int64) => nd_X3_weighAwake_18 K (fun v3 v4 c x => nd_X3_weighAwake_3 K n v3 v4 c x) m (nI S) (nI k) a (nI i) c (xs_awake x aw)) (fun i a => a.toInt = sm i (fun b => if bt7 S b = true then gr c k b * kM c b else 0)) (kK c) 0 0 (by omega) rfl ?_ ?_
    · intro m a ha
      refine ⟨fun _ => ⟨vk7, ?_⟩, fun h => absurd (show c_nb c ≤ nI (kK c) from by rw [← hC.eb]; exact Int32.le_refl _) h⟩
      rw [ck, nI_1]
      refine hW (vp_updL aw k a) (fun j hj => ?_)
      by_cases e : j = k
      · subst e; rw [upL_s]; exact ha
      · rw [upL_n e]; exact haw j (by omega)
    · intro m i a hi _ ha hW'
      have vi6 : vp_in (nI i) 6 := vi (by omega) (by omega)
      have ci : (nI i).toNatClampNeg = i := cl_ (by omega)
      obtain ⟨⟨s1, s2⟩, m1, m2⟩ := hC.blk hi
      have vs7 : vp_in (c_sits c i) 7 := by rw [s2]; exact vi (by omega) (by omega)
      have hup : ∀ v, sm (i + 1) (fun b => if bt7 S b = true then gr c k b * kM c b else 0) = sm i (fun b => if bt7 S b = true then gr c k b * kM c b else 0) + v → ∀ a' : Int64, a'.toInt = sm i (fun b => if bt7 S b = true then gr c k b * kM c b else 0) + v → nd_X3_weighAwake_18 K (fun v3 v4 c x => nd_X3_weighAwake_3 K n v3 v4 c x) m (nI S) (nI k) a' (nI i + 1) c (xs_awake x aw) := fun v e a' ha' => by
        rw [nI_1]
        exact hW' a' (by rw [ha', e])
      have e1 : sm (i + 1) (fun b => if bt7 S b = true then gr c k b * kM c b else 0) = sm i (fun b => if bt7 S b = true then gr c k b * kM c b else 0) + (if bt7 S i = true then gr c k i * kM c i else 0) := rfl
      refine ⟨fun h => absurd h (by rw [hC.eb]; exact nI_ge hi (by omega)), fun _ => has_ok hS (by omega) (fun q => ⟨fun e => absurd e n10, fun _ => ⟨vk7, vi6, ?_⟩⟩) (fun q => ⟨fun _ => hup 0 (by rw [e1, if_neg (by rw [q]; decide)]) a (by rw [ha]; omega), fun e => absurd rfl e⟩)⟩
      rw [ci]
      refine ⟨vs7, vi6, ?_⟩
      rw [ck]
      have hcell : (b_cell (x_bal x 0) k (c_sits c i).toNatClampNeg).toInt = gr c k i := hx.2 k _ hk s1
      have hg := gr_b hC hF hk hi
      have hmb := mul_bd (x := gr c k i) (y := kM c i) (A := 25200000) (B := 20) hg (by omega)
      have hab := awk_b hC hF hk S (m := i) (by omega)
      exact hup (gr c k i * kM c i) (by rw [e1, if_pos q]) _ (l_add ha (l_mul hcell (l_of rfl) (by show _ ≤ gr c k i * kM c i; omega) (by show gr c k i * kM c i ≤ _; omega)) (by show _ ≤ _ + gr c k i * kM c i; omega) (by show _ + gr c k i * kM c i ≤ _; omega))
theorem peak5 {K : Int64 → CS → XT → Prop} (hC : CI c) (hF : FedC c) (hx : ST c (kB c) (x_bal x 0)) (haw : ∀ k, k < kN c → (x_awake x k).toInt = awk c S k) (hb : b < kK c) (hK : ∀ r : Int64, r.toInt = pek c S b → K r c x) : wp_X3_peakOf (nI b) c x K := by
  have h6 := hC.b6
  have h7 := hC.n7
  have ekn : b_knots (x_bal x 0) = nI (kN c) := hx.1.1
  have vb6 : vp_in (nI b) 6 := vi (by omega) (by omega)
  have cb : (nI b).toNatClampNeg = b := cl_ (by omega)
  obtain ⟨⟨s1, s2⟩, m1, m2⟩ := hC.blk hb
  have vs7 : vp_in (c_sits c b) 7 := by rw [s2]; exact vi (by omega) (by omega)
  refine ⟨vb6, ?_⟩
  rw [cb]
  show ∃ n17 : Nat, nd_X3_peakOf_17 K n17 (nI b) (Int32.toInt64 ((3 : Int32) * (c_most c b))) (0 : Int64) (nI 0) c x
  have e3 : (Int32.toInt64 ((3 : Int32) * c_most c b)).toInt = 3 * kM c b := l_of (i_mul (show (3 : Int32).toInt = 3 by decide) rfl (by show _ ≤ 3 * kM c b; omega) (by show 3 * kM c b ≤ _; omega))
  refine upto (fun n k (a : Int64) => nd_X3_peakOf_17 K n (nI b) (Int32.toInt64 ((3 : Int32) * (c_most c b))) a (nI k) c x) (fun k a => a.toInt = mx k (fun k => awk c S k + gr c k b * (3 * kM c b))) (kN c) 0 0 (by omega) rfl ?_ ?_
  · intro n a ha
    exact ⟨fun _ => hK a ha, fun h => absurd (show b_knots (x_bal x 0) ≤ nI (kN c) from by rw [ekn]; exact Int32.le_refl _) h⟩
  · intro n k a hk _ ha hW
    have vk7 : vp_in (nI k) 7 := vi (by omega) (by omega)
    have ck : (nI k).toNatClampNeg = k := cl_ (by omega)
    refine ⟨fun h => absurd (show b_knots (x_bal x 0) ≤ nI k from h) (by rw [ekn]; exact nI_ge hk (by omega)), fun _ => ⟨vk7, vk7, vb6, ?_⟩⟩
    rw [cb]
    refine ⟨vs7, ?_⟩
    rw [ck, nI_1]
    have hcell : (b_cell (x_bal x 0) k (c_sits c b).toNatClampNeg).toInt = gr c k b := hx.2 k _ hk s1
    have hg := gr_b hC hF hk hb
    have hmb := mul_bd (x := gr c k b) (y := 3 * kM c b) (A := 25200000) (B := 60) hg (by omega)
    have hab : -(504000000 * (kK c : Int)) ≤ awk c S k ∧ awk c S k ≤ 504000000 * (kK c : Int) := awk_b hC hF hk S (m := kK c) (by omega)
    have hv : (x_awake x k + b_cell (x_bal x 0) k (c_sits c b).toNatClampNeg * Int32.toInt64 ((3 : Int32) * c_most c b)).toInt = awk c S k + gr c k b * (3 * kM c b) := l_add (haw k hk) (l_mul hcell e3 (by omega) (by omega)) (by omega) (by omega)
    refine hW _ ?_
    show _ = if awk c S k + gr c k b * (3 * kM c b) ≤ mx k (fun k => awk c S k + gr c k b * (3 * kM c b)) then mx k (fun k => awk c S k + gr c k b * (3 * kM c b)) else awk c S k + gr c k b * (3 * kM c b)
    rw [← ha, ← hv]
    generalize x_awake x k + b_cell (x_bal x 0) k (c_sits c b).toNatClampNeg * Int32.toInt64 ((3 : Int32) * c_most c b) = v
    by_cases q : v < a
    · have q' := Int64.lt_iff_toInt_lt.mp q
      rw [if_pos q, if_pos (Int.le_of_lt q')]
    · have q' : ¬ v.toInt < a.toInt := fun y => q (Int64.lt_iff_toInt_lt.mpr y)
      rw [if_neg q]
      by_cases q2 : v.toInt ≤ a.toInt
      · rw [if_pos q2]; omega
      · rw [if_neg q2]
end XK
