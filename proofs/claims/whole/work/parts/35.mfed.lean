/-! THE REFERENCE'S leadsTo, isFed, fallBy, mostFall, small ones -/
theorem bt_or (B f t k : Nat) : bt7 (B ||| (2 ^ f ||| 2 ^ t)) k = (bt7 B k || decide (f = k) || decide (t = k)) := by
  unfold bt7
  rw [Nat.testBit_or, Nat.testBit_or, Nat.testBit_two_pow, Nat.testBit_two_pow, Bool.or_assoc]
set_option maxRecDepth 100000 in
theorem or_chk : ∀ B, B < 128 → ∀ f, f < 7 → ∀ t, t < 7 → (nI B ||| (((1 : Int32) <<< (nI f &&& 31)) ||| ((1 : Int32) <<< (nI t &&& 31)))) = nI (B ||| (2 ^ f ||| 2 ^ t)) := by decide +kernel
theorem all_chk : ∀ n, n < 8 → ((1 : Int32) <<< (nI n &&& 31)) - (1 : Int32) = nI (2 ^ n - 1) := by decide +kernel
theorem or_lt {B f t n : Nat} (hB : B < 2 ^ n) (hf : f < n) (ht : t < n) : B ||| (2 ^ f ||| 2 ^ t) < 2 ^ n :=
  Nat.or_lt_two_pow hB (Nat.or_lt_two_pow (Nat.pow_lt_pow_right (by omega) hf) (Nat.pow_lt_pow_right (by omega) ht))
theorem all_bits {B n : Nat} (hB : B < 2 ^ n) : B = 2 ^ n - 1 ↔ ∀ k, k < n → bt7 B k = true := by
  constructor
  · intro h k hk
    unfold bt7
    rw [h, Nat.testBit_two_pow_sub_one]; simp [hk]
  · intro h
    apply Nat.eq_of_testBit_eq
    intro k
    rw [Nat.testBit_two_pow_sub_one]
    by_cases hk : k < n
    · simp only [hk, decide_true]; exact h k hk
    · simp only [hk, decide_false]
      exact Nat.testBit_lt_two_pow (Nat.lt_of_lt_of_le hB (Nat.pow_le_pow_right (by omega) (by omega)))
def cnt (n B : Nat) : Int := sm n (fun k => if bt7 B k = true then 1 else 0)
theorem cnt_le (n B : Nat) : cnt n B ≤ n := by
  have h : cnt n B ≤ sm n (fun _ => 1) := sm_le (fun k _ => by split <;> omega)
  have e2 : ∀ m : Nat, sm m (fun _ => (1 : Int)) = (m : Int) := fun m => by
    induction m with
    | zero => rfl
    | succ m ih => show sm m _ + 1 = _; rw [ih]; omega
  rw [e2] at h; exact h
theorem sm_lt1 {f g : Nat → Int} {k : Nat} : ∀ {n : Nat}, k < n → (∀ i, i < n → f i ≤ g i) → f k + 1 ≤ g k → sm n f + 1 ≤ sm n g
  | n + 1, hk, h, hk1 => by
    show sm n f + f n + 1 ≤ sm n g + g n
    by_cases e : k = n
    · subst e
      have := sm_le (n := k) (f := f) (g := g) (fun i hi => h i (by omega))
      omega
    · have := sm_lt1 (n := n) (by omega) (fun i hi => h i (by omega)) hk1
      have := h n (by omega)
      omega
theorem cnt_up {n B B' k : Nat} (hk : k < n) (hs : ∀ i, i < n → bt7 B i = true → bt7 B' i = true) (h1 : bt7 B k = false) (h2 : bt7 B' k = true) : cnt n B + 1 ≤ cnt n B' := by
  refine sm_lt1 hk (fun i hi => ?_) ?_
  · cases h : bt7 B i with
    | true => rw [hs i hi h]; simp
    | false => simp; split <;> omega
  · rw [h1, h2]; decide
theorem bno {a b : Bool} (h : ¬ (a = true ∨ b = true)) : a = false ∧ b = false := by
  cases a <;> cases b <;> simp_all
section MFED
variable {c : CS} {t : MT}
set_option maxHeartbeats 4000000 in
theorem leads_ok {K : Int32 → CS → MT → Prop} {B : Nat} {but : Int32} (hC : CI c) (hB : B < 2 ^ kN c)
    (hK1 : Fed (kN c) (kE c) (kF c) (kT c) (wB c but) (bt7 B) → K 1 c t) (hK0 : ¬ Fed (kN c) (kE c) (kF c) (kT c) (wB c but) (bt7 B) → K 0 c t) : wp_X6_leadsTo (nI B) but c t K := by
  obtain ⟨hn, he, hw, -⟩ := id hC
  have h7 := hn.2.1
  have hp7 := pow7 h7
  let cls : Nat → Prop := fun T => ∀ w, w < kE c → wB c but w ≠ 0 → bt7 T (kF c w) = bt7 T (kT c w)
  let I : Nat → Nat → Prop := fun r T => T < 2 ^ kN c ∧ (∀ k, k < kN c → bt7 B k = true → bt7 T k = true) ∧ (∀ h : Nat → Bool, (∀ w, w < kE c → wB c but w ≠ 0 → h (kF c w) = h (kT c w)) → (∀ k, k < kN c → bt7 B k = true → h k = false) → ∀ k, k < kN c → bt7 T k = true → h k = false) ∧ (cls T ∨ (r : Int) + 1 ≤ cnt (kN c) T)
  have hcls0 : ∀ T, (∀ k, k < kN c → bt7 T k = false) → cls T := fun T h w hw' _ => by rw [h _ (hw w hw').1.1, h _ (hw w hw').2.1.1]
  show ∃ n5 : Nat, nd_X6_leadsTo_5 K n5 but (nI B) (nI 0) c t
  refine upto (fun n r (T : Nat) => nd_X6_leadsTo_5 K n but (nI T) (nI r) c t) I (kN c) 0 B (by omega) ⟨hB, fun k _ h => h, fun h _ h2 k hk hb => h2 k hk hb, ?_⟩ ?_ ?_
  · by_cases q : ∃ k, k < kN c ∧ bt7 B k = true
    · obtain ⟨k, hk, hb⟩ := q
      right
      have := cnt_up (n := kN c) (B := 0) (B' := B) hk (fun i _ h => by unfold bt7 at h; rw [Nat.zero_testBit] at h; cases h) (Nat.zero_testBit k) hb
      have h0 : cnt (kN c) 0 = 0 := sm_zero (fun i _ => by unfold bt7; rw [Nat.zero_testBit]; rfl)
      omega
    · left
      exact hcls0 B (fun k hk => by
        cases h : bt7 B k with
        | false => rfl
        | true => exact absurd ⟨k, hk, h⟩ q)
  · intro n T ⟨hT, h1, h2, h3⟩
    refine ⟨fun _ => ?_, fun h => absurd (show c_n c ≤ nI (kN c) from by rw [← hn.2.2]; exact Int32.le_refl _) h⟩
    rw [hn.2.2, all_chk _ (by omega)]
    have hcl : cls T := by
      rcases h3 with q | q
      · exact q
      · have := cnt_le (kN c) T; omega
    have hiff : nI T = nI (2 ^ kN c - 1) ↔ ∀ k, k < kN c → bt7 T k = true := by
      rw [nI_eq (by omega) (by omega)]; exact all_bits hT
    refine ⟨fun h => hK0 (fun hF => h (hiff.mpr (fun k hk => ?_))), fun h => hK1 (fun g g1 g2 k hk => h2 g g1 g2 k hk (hiff.mp h k hk))⟩
    have := hF (fun k => !bt7 T k) (fun w hw' hne => by rw [hcl w hw' hne]) (fun k hk hb => by rw [h1 k hk hb]; rfl) k hk
    simpa using this
  · intro n r T hr _ ⟨hT, h1, h2, h3⟩ hW
    refine ⟨fun h => absurd h (by rw [hn.2.2]; exact nI_ge hr (by omega)), fun _ => ?_⟩
    show ∃ n17 : Nat, nd_X6_leadsTo_17 K _ n17 but (nI T) (nI r) (nI 0) c t
    refine upto (fun n' i (T' : Nat) => nd_X6_leadsTo_17 K (fun v2 v3 v4 c t => nd_X6_leadsTo_5 K n v2 v3 v4 c t) n' but (nI T') (nI r) (nI i) c t) (fun i T' => T' < 2 ^ kN c ∧ (∀ k, k < kN c → bt7 T k = true → bt7 T' k = true) ∧ (∀ h : Nat → Bool, (∀ w, w < kE c → wB c but w ≠ 0 → h (kF c w) = h (kT c w)) → (∀ k, k < kN c → bt7 B k = true → h k = false) → ∀ k, k < kN c → bt7 T' k = true → h k = false) ∧ ((T' = T ∧ ∀ w, w < i → wB c but w ≠ 0 → bt7 T (kF c w) = bt7 T (kT c w)) ∨ cnt (kN c) T + 1 ≤ cnt (kN c) T')) (kE c) 0 T (by omega) ⟨hT, fun k _ h => h, h2, Or.inl ⟨rfl, fun w hw' => by omega⟩⟩ ?_ ?_
    · intro n' T' ⟨a1, a2, a3, a4⟩
      refine ⟨fun _ => ?_, fun h => absurd (show c_wires c ≤ nI (kE c) from by rw [← he.2]; exact Int32.le_refl _) h⟩
      show nd_X6_leadsTo_5 K n but (nI T') (nI r + 1) c t
      rw [nI_1]
      refine hW T' ⟨a1, fun k hk hb => a2 k hk (h1 k hk hb), a3, ?_⟩
      rcases a4 with ⟨q1, q2⟩ | q
      · left; rw [q1]; exact fun w hw' hne => q2 w hw' hne
      · rcases h3 with z | z
        · -- a closed set doesn't grow
          exfalso
          have hno := a3
          have : cnt (kN c) T' ≤ cnt (kN c) T := by
            refine sm_le (fun k hk => ?_)
            cases hb : bt7 T' k with
            | false => simp; split <;> omega
            | true =>
              have hh := a3 (fun k => !bt7 T k) (fun w hw' hne => by rw [z w hw' hne]) (fun k hk hb => by rw [h1 k hk hb]; rfl) k hk hb
              have : bt7 T k = true := by simpa using hh
              rw [this]; simp
          omega
        · right; omega
    · intro n' i T' hi _ ⟨a1, a2, a3, a4⟩ hW'
      have hE := he.1
      refine ⟨fun h => absurd h (by rw [he.2]; exact nI_ge hi (by omega)), fun _ => ⟨fun hbut => ?_, fun hbut => ?_⟩⟩
      · show nd_X6_leadsTo_17 K _ n' but (nI T') (nI r) (nI i + 1) c t
        rw [nI_1]
        refine hW' T' ⟨a1, a2, a3, ?_⟩
        rcases a4 with ⟨q1, q2⟩ | q
        · left
          refine ⟨q1, fun w hw' hne => ?_⟩
          by_cases e : w = i
          · subst e
            exact absurd (show wB c but w = 0 from if_pos hbut) hne
          · exact q2 w (by omega) hne
        · exact Or.inr q
      · obtain ⟨⟨hF1, hF2⟩, ⟨hT1, hT2⟩, hFT, hWd, -⟩ := hw i hi
        have hin : vp_in (nI i) 12 := vi (by omega) (by omega)
        refine ⟨hin, hin, ?_⟩
        rw [cl_ (show i < 2147483648 by omega), hF2, hT2]
        have hor := bit_or (B := T') (a := kF c i) (b := kT c i) (by omega) (by omega) (by omega)
        refine ⟨fun hno => ?_, fun hyes => ⟨hin, hin, ?_⟩⟩
        · have hno2 : bt7 T' (kF c i) = false ∧ bt7 T' (kT c i) = false := bno (fun q => hno (hor.mpr q))
          show nd_X6_leadsTo_17 K _ n' but (nI T') (nI r) (nI i + 1) c t
          rw [nI_1]
          refine hW' T' ⟨a1, a2, a3, ?_⟩
          rcases a4 with ⟨q1, q2⟩ | q
          · left
            refine ⟨q1, fun w hw' hne => ?_⟩
            by_cases e : w = i
            · subst e
              rw [← q1, hno2.1, hno2.2]
            · exact q2 w (by omega) hne
          · exact Or.inr q
        · rw [or_chk T' (by omega) _ (by omega) _ (by omega)]
          show nd_X6_leadsTo_17 K _ n' but (nI (T' ||| (2 ^ kF c i ||| 2 ^ kT c i))) (nI r) (nI i + 1) c t
          rw [nI_1]
          have hyes2 := hor.mp hyes
          have hwne : wB c but i ≠ 0 := by
            have : wB c but i = kW c i := if_neg hbut
            omega
          refine hW' _ ⟨or_lt a1 hF1 hT1, fun k hk hb => by rw [bt_or, a2 k hk hb]; rfl, fun h g1 g2 k hk hb => ?_, ?_⟩
          · rw [bt_or] at hb
            have hft : h (kF c i) = false ∧ h (kT c i) = false := by
              have e := g1 i hi hwne
              rcases hyes2 with q | q
              · have := a3 h g1 g2 _ hF1 q
                exact ⟨this, by rw [← e]; exact this⟩
              · have := a3 h g1 g2 _ hT1 q
                exact ⟨by rw [e]; exact this, this⟩
            by_cases e1 : kF c i = k
            · rw [← e1]; exact hft.1
            · by_cases e2 : kT c i = k
              · rw [← e2]; exact hft.2
              · simp [e1, e2] at hb
                exact a3 h g1 g2 k hk hb
          · have hmono : ∀ k, k < kN c → bt7 T' k = true → bt7 (T' ||| (2 ^ kF c i ||| 2 ^ kT c i)) k = true := fun k _ hb => by rw [bt_or, hb]; rfl
            by_cases both : bt7 T' (kF c i) = true ∧ bt7 T' (kT c i) = true
            · -- nothing new
              have same : T' ||| (2 ^ kF c i ||| 2 ^ kT c i) = T' := by
                apply Nat.eq_of_testBit_eq
                intro k
                have := bt_or T' (kF c i) (kT c i) k
                unfold bt7 at this both
                rw [this]
                by_cases e1 : kF c i = k
                · rw [← e1, both.1]; simp
                · by_cases e2 : kT c i = k
                  · rw [← e2, both.2]; simp
                  · simp [e1, e2]
              rw [same]
              rcases a4 with ⟨q1, q2⟩ | q
              · left
                refine ⟨q1, fun w hw' hne => ?_⟩
                by_cases e : w = i
                · subst e
                  rw [← q1, both.1, both.2]
                · exact q2 w (by omega) hne
              · exact Or.inr q
            · right
              have hnew : ∃ k, k < kN c ∧ bt7 T' k = false ∧ bt7 (T' ||| (2 ^ kF c i ||| 2 ^ kT c i)) k = true := by
                cases e1 : bt7 T' (kF c i) with
                | false => exact ⟨kF c i, hF1, e1, by rw [bt_or]; simp⟩
                | true =>
                  cases e2 : bt7 T' (kT c i) with
                  | false => exact ⟨kT c i, hT1, e2, by rw [bt_or]; simp⟩
                  | true => exact absurd ⟨e1, e2⟩ both
              obtain ⟨k, hk, k1, k2⟩ := hnew
              have hu := cnt_up hk hmono k1 k2
              rcases a4 with ⟨q1, q2⟩ | q
              · rw [q1] at hu ⊢; exact hu
              · omega
/-- fed, as the net stands -/
def FedC (c : CS) : Prop := Fed (kN c) (kE c) (kF c) (kT c) (wB c (-1)) (bt7 (kB c))
theorem Fed.pad {n E : Nat} {fa ta : Nat → Nat} {wd : Nat → Int} {K : Nat → Bool} (h : Fed n E fa ta wd K) (hn : 0 < n) : ∃ k, k < n ∧ K k = true := by
  refine Classical.byContradiction (fun q => ?_)
  have := h (fun _ => true) (fun _ _ _ => rfl) (fun k hk hb => absurd ⟨k, hk, hb⟩ q) 0 hn
  cases this
theorem fed_ok {K : Int32 → CS → MT → Prop} (hC : CI c) (hK1 : FedC c → K 1 c t) (hK0 : ¬ FedC c → K 0 c t) : wp_X6_isFed c t K := by
  obtain ⟨hn, he, hw, hq, hp, -⟩ := id hC
  have hp7 := pow7 hn.2.1
  have hb : c_pads c = nI (kB c) := hp.2
  have hlt := hp.1
  refine ⟨fun h => hK0 (fun hF => ?_), fun h => ?_⟩
  · obtain ⟨k, hk, hbk⟩ := hF.pad (by have := hn.1; omega)
    have h0 : kB c = 0 := by
      have : nI (kB c) = nI 0 := by rw [← hb]; exact h
      exact (nI_eq (by omega) (by omega)).mp this
    rw [h0] at hbk
    unfold bt7 at hbk
    rw [Nat.zero_testBit] at hbk; cases hbk
  · rw [hb]
    exact leads_ok hC hlt (fun hF => ⟨fun e => absurd e (by decide), fun _ => hK1 hF⟩) (fun hF => ⟨fun _ => hK0 hF, fun e => absurd rfl e⟩)
theorem Rn_bound {n E : Nat} {fa ta : Nat → Nat} {wd : Nat → Int} (h : NetOK n E fa ta wd) {S : Nat → Bool} {k a b : Nat} (hk : k < n) (hS : S k = false) (ha : a < n) (hb : b < n) : -25200000 ≤ Rn n (lp E fa ta wd) S a b ∧ Rn n (lp E fa ta wd) S a b ≤ 25200000 := by
  unfold Rn
  split
  · rename_i q
    have hne : a ≠ k := fun e => by rw [e, hS] at q; cases q.1
    have : wv S (lp E fa ta wd) b = (fun i => dl i b) := by funext i; simp [wv, q.2]
    unfold Nn
    rw [this]
    exact scy_bound h hk ha hne hS (bl_dl hb)
  · omega
theorem fl_abs {n E : Nat} {fa ta : Nat → Nat} {wd : Nat → Int} (h : NetOK n E fa ta wd) {S : Nat → Bool} {k a : Nat} (hk : k < n) (hS : S k = false) (ha : a < n) {q : Nat → Int} {Q : Int} (hQ : 0 ≤ Q) (hq : ∀ j, j < n → 0 ≤ q j ∧ q j ≤ Q) {m : Nat} (hm : m ≤ n) : -(25200000 * Q * m) ≤ sm m (fun j => Rn n (lp E fa ta wd) S a j * q j) ∧ sm m (fun j => Rn n (lp E fa ta wd) S a j * q j) ≤ 25200000 * Q * m := by
  refine sm_abs (fun j hj => ?_)
  have h1 := Rn_bound h hk hS ha (show j < n by omega)
  have h2 := hq j (by omega)
  generalize Rn n (lp E fa ta wd) S a j = r at *
  have u1 : 0 ≤ (25200000 - r) * q j := Int.mul_nonneg (by omega) h2.1
  have u2 : 0 ≤ (25200000 + r) * q j := Int.mul_nonneg (by omega) h2.1
  rw [Int.sub_mul] at u1
  rw [Int.add_mul] at u2
  have u3 : 25200000 * q j ≤ 25200000 * Q := Int.mul_le_mul_of_nonneg_left h2.2 (by omega)
  omega
/-- the falls, above Dn, of pulls q -/
def fallN (c : CS) (but : Int32) (B : Nat) (q : Nat → Int) (k : Nat) : Int := fl (kN c) (kL c but) (cS B) q k
theorem fby_ok {K : Int64 → CS → MT → Prop} {B k0 k : Nat} {but : Int32} (hC : CI c) (hR : resI c but B t) (hk0 : k0 < kN c) (hpad : bt7 B k0 = true) (hk : k < kN c) (hK : ∀ r : Int64, r.toInt = fallN c but B (kQ c) k → K r c t) : wp_X6_fallBy (nI k) c t K := by
  have hn := hC.1
  have h7 := hn.2.1
  have hq := hC.2.2.2.1
  have hS0 : cS B k0 = false := by unfold cS; rw [hpad]; rfl
  show ∃ n5 : Nat, nd_X6_fallBy_5 K n5 (nI k) (0 : Int64) (nI 0) c t
  refine upto (fun n i (a : Int64) => nd_X6_fallBy_5 K n (nI k) a (nI i) c t) (fun i a => a.toInt = sm i (fun j => Rn (kN c) (kL c but) (cS B) k j * kQ c j)) (kN c) 0 0 (by omega) rfl ?_ ?_
  · intro n a ha
    exact ⟨fun _ => hK a ha, fun h => absurd (show c_n c ≤ nI (kN c) from by rw [← hn.2.2]; exact Int32.le_refl _) h⟩
  · intro n i a hi _ ha hW
    refine ⟨fun h => absurd h (by rw [hn.2.2]; exact nI_ge hi (by omega)), fun _ => ?_⟩
    rw [nI_7]
    refine ⟨vi (by omega) (by omega), vi (by omega) (by omega), ?_⟩
    rw [cl_ (by omega), cl_ (by omega), nI_1]
    refine hW _ ?_
    have h1 := Rn_bound (hC.net but) hk0 hS0 hk hi
    have h2 := hq i (by omega)
    have h3 := fl_abs (hC.net but) hk0 hS0 hk (Q := 100) (by omega) (fun j hj => hq j (by omega)) (m := i) (by omega)
    have e1 : (m_resist t (7 * k + i)).toInt = Rn (kN c) (kL c but) (cS B) k i := hR.2 k i hk hi
    have e2 : (Int32.toInt64 (c_pulls c i)).toInt = kQ c i := l_of rfl
    have h4 : -2520000000 ≤ Rn (kN c) (kL c but) (cS B) k i * kQ c i ∧ Rn (kN c) (kL c but) (cS B) k i * kQ c i ≤ 2520000000 := by
      have h1' : -25200000 ≤ Rn (kN c) (kL c but) (cS B) k i ∧ Rn (kN c) (kL c but) (cS B) k i ≤ 25200000 := h1
      generalize Rn (kN c) (kL c but) (cS B) k i = r at *
      have u1 : 0 ≤ (25200000 - r) * kQ c i := Int.mul_nonneg (by omega) h2.1
      have u2 : 0 ≤ (25200000 + r) * kQ c i := Int.mul_nonneg (by omega) h2.1
      rw [Int.sub_mul] at u1
      rw [Int.add_mul] at u2
      omega
    have h3' : -(25200000 * 100 * (i : Int)) ≤ sm i (fun j => Rn (kN c) (kL c but) (cS B) k j * kQ c j) ∧ sm i (fun j => Rn (kN c) (kL c but) (cS B) k j * kQ c j) ≤ 25200000 * 100 * (i : Int) := h3
    show _ = sm i (fun j => Rn (kN c) (kL c but) (cS B) k j * kQ c j) + Rn (kN c) (kL c but) (cS B) k i * kQ c i
    exact l_add ha (l_mul e1 e2 (by omega) (by omega)) (by omega) (by omega)
/-- the greatest of n, and 0 -/
def mx : Nat → (Nat → Int) → Int
  | 0, _ => 0
  | n + 1, f => if f n ≤ mx n f then mx n f else f n
theorem mx_abs {f : Nat → Int} {B : Int} (hB : 0 ≤ B) : ∀ {n}, (∀ i, i < n → f i ≤ B) → 0 ≤ mx n f ∧ mx n f ≤ B
  | 0, _ => by show 0 ≤ (0 : Int) ∧ (0 : Int) ≤ B; omega
  | n + 1, h => by
    have ih := mx_abs hB (n := n) (fun i hi => h i (by omega))
    have := h n (by omega)
    show 0 ≤ (if f n ≤ mx n f then mx n f else f n) ∧ (if f n ≤ mx n f then mx n f else f n) ≤ B
    split <;> omega
theorem most_ok {K : Int64 → CS → MT → Prop} {B k0 : Nat} {but : Int32} (hC : CI c) (hR : resI c but B t) (hk0 : k0 < kN c) (hpad : bt7 B k0 = true) (hK : ∀ r : Int64, r.toInt = mx (kN c) (fallN c but B (kQ c)) → K r c t) : wp_X6_mostFall c t K := by
  have hn := hC.1
  have h7 := hn.2.1
  show ∃ n5 : Nat, nd_X6_mostFall_5 K n5 (0 : Int64) (nI 0) c t
  refine upto (fun n i (a : Int64) => nd_X6_mostFall_5 K n a (nI i) c t) (fun i a => a.toInt = mx i (fallN c but B (kQ c))) (kN c) 0 0 (by omega) rfl ?_ ?_
  · intro n a ha
    exact ⟨fun _ => hK a ha, fun h => absurd (show c_n c ≤ nI (kN c) from by rw [← hn.2.2]; exact Int32.le_refl _) h⟩
  · intro n i a hi _ ha hW
    refine ⟨fun h => absurd h (by rw [hn.2.2]; exact nI_ge hi (by omega)), fun _ => ?_⟩
    refine fby_ok hC hR hk0 hpad hi (fun r hr => ⟨fun h => ?_, fun h => ?_⟩)
    · show nd_X6_mostFall_5 K n a (nI i + 1) c t
      rw [nI_1]
      have := Int64.le_iff_toInt_le.mp h
      refine hW a ?_
      show _ = if _ ≤ _ then _ else _
      rw [if_pos (by rw [← hr, ← ha]; exact this), ha]
    · show nd_X6_mostFall_5 K n r (nI i + 1) c t
      rw [nI_1]
      refine hW r ?_
      show _ = if _ ≤ _ then _ else _
      rw [if_neg (fun q => h (Int64.le_iff_toInt_le.mpr (by rw [hr, ha]; exact q))), hr]
end MFED
theorem in_ok {K : Int32 → Prop} {v lo hi : Int32} (h1 : lo ≤ v ∧ v ≤ hi → K 1) (h0 : ¬ (lo ≤ v ∧ v ≤ hi) → K 0) : wp_X6_in v lo hi K := by
  refine ⟨fun h => h0 (fun q => ?_), fun h => ⟨fun h2 => h0 (fun q => ?_), fun h2 => h1 ⟨?_, ?_⟩⟩⟩
  · exact absurd q.1 (Int32.not_le.mpr h)
  · exact absurd q.2 (Int32.not_le.mpr h2)
  · exact Int32.not_lt.mp h
  · exact Int32.not_lt.mp h2
theorem bw_ok {K : Int32 → Prop} {v lo hi : Int32} (h1 : lo ≤ v ∧ v ≤ hi → K 1) (h0 : ¬ (lo ≤ v ∧ v ≤ hi) → K 0) : wp_X5_between v lo hi K := by
  refine ⟨fun h => h0 (fun q => ?_), fun h => ⟨fun h2 => h0 (fun q => ?_), fun h2 => h1 ⟨?_, ?_⟩⟩⟩
  · exact absurd q.1 (Int32.not_le.mpr h)
  · exact absurd q.2 (Int32.not_le.mpr h2)
  · exact Int32.not_lt.mp h
  · exact Int32.not_lt.mp h2
