/-! WOKEN: the class's least values, its first order; one answer -/
section XL
variable {c : CS} {x : XT} {S b : Nat}
def lsI (c : CS) (lo : Nat) (x : XT) : Prop := ∀ S, lo ≤ S → S < 2 ^ kK c → isL (pek c) (kK c) S (x_least x S).toInt
theorem pek_0 (S b : Nat) : 0 ≤ pek c S b := mx_nonneg
theorem pow6 (hC : CI c) : 2 ^ kK c ≤ 64 := Nat.pow_le_pow_right (show 0 < 2 by omega) hC.b6
theorem least5 {K : Int64 → CS → XT → Prop} (hC : CI c) (hF : FedC c) (hx : ST c (kB c) (x_bal x 0)) (hS : S + 1 < 2 ^ kK c) (hl : lsI c (S + 1) x) (hK : ∀ r aw, isL (pek c) (kK c) S r.toInt → K r c (xs_awake x aw)) : wp_X3_leastAfter (nI S) c x K := by
  have h6 := hC.b6
  have hp := pow6 hC
  refine weigh5 hC hF hx (by omega) (fun aw haw => ?_)
  show ∃ n15 : Nat, nd_X3_leastAfter_15 K n15 (nI S) (-1 : Int64) (nI 0) c (xs_awake x aw)
  have m1l : (-1 : Int64).toInt = -1 := by decide
  refine upto (fun n i (a : Int64) => nd_X3_leastAfter_15 K n (nI S) a (nI i) c (xs_awake x aw)) (fun i a => (a = -1 ∧ ∀ b, b < i → bt7 S b = true) ∨ (0 ≤ a.toInt ∧ (∃ l, ord (kK c) S l ∧ leP (pek c) S l a.toInt) ∧ ∀ b, b < i → bt7 S b = false → ∀ l L, ord (kK c) (bq S b) l → leP (pek c) S (b :: l) L → a.toInt ≤ L)) (kK c) 0 (-1) (by omega) (.inl ⟨rfl, fun b h => by omega⟩) ?_ ?_
  · intro n a ha
    refine ⟨fun _ => hK a aw ?_, fun h => absurd (show c_nb c ≤ nI (kK c) from by rw [← hC.eb]; exact Int32.le_refl _) h⟩
    rcases ha with ⟨_, h⟩ | ⟨h0, h1, h2⟩
    · have := all_in (n := kK c) (by omega) h
      omega
    · refine ⟨h1, fun l L ho hle => ?_⟩
      cases l with
      | nil =>
        have : S = 2 ^ kK c - 1 := ho
        omega
      | cons b l => exact h2 b ho.1 ho.2.1 l L ho.2.2 hle
  · intro n i a hi _ ha hW
    have vi6 : vp_in (nI i) 6 := vi (by omega) (by omega)
    refine ⟨fun h => absurd h (by rw [hC.eb]; exact nI_ge hi (by omega)), fun _ => has_ok (by omega) (by omega) (fun q => ⟨fun _ => ?_, fun e => absurd e n10⟩) (fun q => ⟨fun e => absurd rfl e, fun _ => ?_⟩)⟩
    · show nd_X3_leastAfter_15 K n (nI S) a (nI i + 1) c (xs_awake x aw)
      rw [nI_1]
      refine hW a ?_
      rcases ha with ⟨h1, h2⟩ | ⟨h0, h1, h2⟩
      · refine .inl ⟨h1, fun b hb => ?_⟩
        by_cases e : b = i
        · rw [e]; exact q
        · exact h2 b (by omega)
      · refine .inr ⟨h0, h1, fun b hb hbS => ?_⟩
        by_cases e : b = i
        · rw [e, q] at hbS; cases hbS
        · exact h2 b (by omega) hbS
    · refine peak5 (S := S) hC hF hx haw hi (fun r hr => ?_)
      rw [bq_chk S (by omega) i (by omega)]
      have hbl := bq_lt (n := kK c) (S := S) (b := i) (by omega) hi
      have hbg := bq_gt q
      obtain ⟨⟨l, l1, l2⟩, l3⟩ := hl (bq S i) (by omega) hbl
      have eli : x_least (xs_awake x aw) (nI (bq S i)).toNatClampNeg = x_least x (bq S i) := by
        rw [cl_ (by omega)]
      rw [eli]
      have hp0 := pek_0 (c := c) S i
      generalize x_least x (bq S i) = m at *
      have hz : (if m < r then r else m).toInt = (if m.toInt < r.toInt then r.toInt else m.toInt) := by
        by_cases z : m < r
        · rw [if_pos z, if_pos (Int64.lt_iff_toInt_lt.mp z)]
        · rw [if_neg z, if_neg (fun y => z (Int64.lt_iff_toInt_lt.mpr y))]
      generalize (if m < r then r else m) = z at *
      have hzr : pek c S i ≤ z.toInt ∧ m.toInt ≤ z.toInt ∧ 0 ≤ z.toInt ∧ (z.toInt = pek c S i ∨ z.toInt = m.toInt) := by
        rw [hz, hr]
        split <;> omega
      have hzm : ∀ l L, ord (kK c) (bq S i) l → leP (pek c) S (i :: l) L → z.toInt ≤ L := fun l' L ho hle => by
        have h1 : pek c S i ≤ L := hle.1
        have h2 := l3 l' L ho hle.2
        omega
      have hzl : ord (kK c) S (i :: l) ∧ leP (pek c) S (i :: l) z.toInt := ⟨⟨hi, q, l1⟩, hzr.1, leP_up hzr.2.1 l2⟩
      refine ⟨vi (by omega) (by omega), fun e => ?_, fun e => ?_⟩
      · show nd_X3_leastAfter_15 K n (nI S) (if z < a then z else a) (nI i + 1) c (xs_awake x aw)
        rw [nI_1]
        rcases ha with ⟨h1, _⟩ | ⟨h0, h1, h2⟩
        · exact absurd h1 e
        refine hW _ (.inr ?_)
        by_cases y : z < a
        · have y' := Int64.lt_iff_toInt_lt.mp y
          rw [if_pos y]
          refine ⟨hzr.2.2.1, ⟨_, hzl.1, hzl.2⟩, fun b hb hbS l' L ho hle => ?_⟩
          by_cases e2 : b = i
          · subst e2; exact hzm l' L ho hle
          · have := h2 b (by omega) hbS l' L ho hle
            omega
        · have y' : ¬ z.toInt < a.toInt := fun w => y (Int64.lt_iff_toInt_lt.mpr w)
          rw [if_neg y]
          refine ⟨h0, h1, fun b hb hbS l' L ho hle => ?_⟩
          by_cases e2 : b = i
          · subst e2
            have := hzm l' L ho hle
            omega
          · exact h2 b (by omega) hbS l' L ho hle
      · show nd_X3_leastAfter_15 K n (nI S) z (nI i + 1) c (xs_awake x aw)
        rw [nI_1]
        rcases ha with ⟨_, h2⟩ | ⟨h0, _, _⟩
        · refine hW _ (.inr ⟨hzr.2.2.1, ⟨_, hzl.1, hzl.2⟩, fun b hb hbS l' L ho hle => ?_⟩)
          by_cases e2 : b = i
          · subst e2; exact hzm l' L ho hle
          · rw [h2 b (by omega)] at hbS; cases hbS
        · rw [e, m1l] at h0; omega
theorem first5 {K : Int32 → CS → XT → Prop} {l : List Nat} {L : Int} (hC : CI c) (hF : FedC c) (hx : ST c (kB c) (x_bal x 0)) (hS : S < 2 ^ kK c) (hl : lsI c 0 x) (hL : (x_least x 0).toInt = L) (hg : gb (pek c) (kK c) S L (b :: l)) (hK : ∀ aw, K (nI b) c (xs_awake x aw)) : wp_X3_firstToCome (nI S) c x K := by
  have h6 := hC.b6
  have hp := pow6 hC
  refine weigh5 hC hF hx (by omega) (fun aw haw => ?_)
  obtain ⟨⟨hb, hbS, hol⟩, ⟨hpb, hll⟩, hmin⟩ := hg
  have c0 : ((0 : Int32)).toNatClampNeg = 0 := by decide
  have v0 : vp_in (0 : Int32) 64 := vi (n := 0) (by omega) (by omega)
  show ∃ n10 : Nat, nd_X3_firstToCome_10 K n10 (nI S) (nI 0) c (xs_awake x aw)
  refine upto (fun n i (_ : Unit) => nd_X3_firstToCome_10 K n (nI S) (nI i) c (xs_awake x aw)) (fun i _ => i ≤ b) b 0 () (by omega) (by omega) ?_ ?_
  · intro n _ _
    refine ⟨fun h => absurd h (by rw [hC.eb]; exact nI_ge hb (by omega)), fun _ => has_ok (by omega) (by omega) (fun q => by rw [q] at hbS; cases hbS) (fun q => ⟨fun e => absurd rfl e, fun _ => ?_⟩)⟩
    have hbl := bq_lt (n := kK c) (S := S) (b := b) hS hb
    obtain ⟨_, l3⟩ := hl (bq S b) (by omega) hbl
    have := l3 l L hol hll
    rw [bq_chk S (by omega) b (by omega), cl_ (by omega), c0]
    refine ⟨vi (by omega) (by omega), v0, fun z => ?_, fun _ => peak5 (S := S) hC hF hx haw hb (fun r hr => ⟨v0, fun z => ?_, fun _ => hK aw⟩)⟩
    · have z' := Int64.lt_iff_toInt_lt.mp z
      have z' : (x_least x 0).toInt < (x_least x (bq S b)).toInt := z'
      omega
    · have z' := Int64.lt_iff_toInt_lt.mp z
      have z' : (x_least x 0).toInt < r.toInt := z'
      omega
  · intro n i _ hi _ _ hW
    have hib : i < kK c := by omega
    have skip : nd_X3_firstToCome_70 K (fun v3 v4 c x => nd_X3_firstToCome_10 K n v3 v4 c x) (nI S) (nI i) c (xs_awake x aw) := by
      show nd_X3_firstToCome_10 K n (nI S) (nI i + 1) c (xs_awake x aw)
      rw [nI_1]
      exact hW () (by omega)
    refine ⟨fun h => absurd h (by rw [hC.eb]; exact nI_ge hib (by omega)), fun _ => has_ok (by omega) (by omega) (fun q => ⟨fun _ => skip, fun e => absurd e n10⟩) (fun q => ⟨fun e => absurd rfl e, fun _ => ?_⟩)⟩
    have hbl := bq_lt (n := kK c) (S := S) (b := i) hS hib
    obtain ⟨⟨l', o', k'⟩, _⟩ := hl (bq S i) (by omega) hbl
    rw [bq_chk S (by omega) i (by omega), cl_ (by omega), c0]
    refine ⟨vi (by omega) (by omega), v0, fun _ => skip, fun z => peak5 (S := S) hC hF hx haw hib (fun r hr => ⟨v0, fun _ => skip, fun z2 => ?_⟩)⟩
    have z' : ¬ (x_least x 0).toInt < (x_least x (bq S i)).toInt := fun y => z (Int64.lt_iff_toInt_lt.mpr y)
    have z2' : ¬ (x_least x 0).toInt < r.toInt := fun y => z2 (Int64.lt_iff_toInt_lt.mpr y)
    have hle : leP (pek c) S (i :: l') L := ⟨by omega, leP_up (by omega) k'⟩
    rcases hmin (i :: l') ⟨hib, q, o'⟩ hle with e | e
    · injection e with e _
      omega
    · rcases e with e | ⟨e, _⟩ <;> omega
theorem order5 {K : CS → XT → Prop} {L : Int} (hC : CI c) (hF : FedC c) (g : Nat → Nat) : ∀ (l : List Nat) (S i : Nat) (x : XT), ST c (kB c) (x_bal x 0) → S < 2 ^ kK c → lsI c 0 x → (x_least x 0).toInt = L → gb (pek c) (kK c) S L l → i + l.length = kK c → (∀ k, k < l.length → gl l k = g (i + k)) → (∀ k, k < i → x_order x k = nI (g k)) → (∀ x', ST c (kB c) (x_bal x' 0) → (x_least x' 0).toInt = L → (∀ k, k < kK c → x_order x' k = nI (g k)) → K c x') → nd_X3_search_53 K (l.length + 1) (nI S) (nI i) c x
  | [], S, i, x, hx, hS, hl, hL, hg, hi, hgl, ho, hK => by
    have e : i = kK c := by simpa using hi
    subst e
    exact ⟨fun _ => hK x hx hL ho, fun h => absurd (show c_nb c ≤ nI (kK c) from by rw [← hC.eb]; exact Int32.le_refl _) h⟩
  | b :: l, S, i, x, hx, hS, hl, hL, hg, hi, hgl, ho, hK => by
    have hi : i + (l.length + 1) = kK c := hi
    have h6 := hC.b6
    have hp := pow6 hC
    have hb : b < kK c := hg.1.1
    refine ⟨fun h => absurd h (by rw [hC.eb]; exact nI_ge (by omega) (by omega)), fun _ => first5 hC hF hx hS hl hL hg (fun aw => ⟨fun _ => ⟨vi (by omega) (by omega), ?_⟩, fun e => absurd e (nI_nm1 (by omega))⟩)⟩
    rw [bq_chk S (by omega) b (by omega), cl_ (by omega), nI_1]
    have e0 : g i = b := by
      have := hgl 0 (by simp)
      rw [show i + 0 = i by omega] at this
      rw [← this]; rfl
    refine order5 hC hF g l (bq S b) (i + 1) _ hx (bq_lt hS hb) hl hL (gb_tail hg) (by omega) (fun k hk => ?_) (fun k hk => ?_) hK
    · have := hgl (k + 1) (by show k + 1 < l.length + 1; omega)
      rw [show i + (k + 1) = i + 1 + k by omega] at this
      rw [← this]; rfl
    · show upd (x_order x) i (nI b) k = _
      by_cases e : k = i
      · subst e; rw [up_s, e0]
      · rw [up_n e]; exact ho k (by omega)
theorem wsearch5 {K : CS → XT → Prop} (hC : CI c) (hF : FedC c) (hx : ST c (kB c) (x_bal x 0)) (hK : ∀ x', ST c (kB c) (x_bal x' 0) → (x_least x' 0).toInt = wkL c → (∀ k, k < kK c → x_order x' k = nI (gl (wkO c) k)) → K c x') : wp_X3_search c x K := by
  have h6 := hC.b6
  have hp := pow6 hC
  have hpos : 0 < 2 ^ kK c := Nat.pow_pos (by omega)
  unfold wp_X3_search
  rw [hC.eb, all_chk (kK c) (by omega), cl_ (by omega)]
  refine ⟨vi (by omega) (by omega), ?_⟩
  have down : ∀ (S : Nat) (x : XT), S < 2 ^ kK c → ST c (kB c) (x_bal x 0) → lsI c S x → nd_X3_search_21 K (S + 1) (nI S - 1) c x := by
    intro S
    induction S with
    | zero =>
      intro x _ hx hl
      have e : nI 0 - (1 : Int32) = -1 := by decide
      rw [e]
      refine ⟨fun _ => ?_, fun q => absurd (by decide) q⟩
      obtain ⟨w1, w2⟩ := wk_best hC
      have eL := isL_uniq (hl 0 (by omega) hpos) w1
      have hlen := ord0 w2.1
      exact ⟨(wkO c).length + 1, order5 hC hF (gl (wkO c)) (wkO c) 0 0 x hx hpos hl eL w2 (by omega) (fun k _ => by rw [show 0 + k = k by omega]) (fun k h => by omega) hK⟩
    | succ S ih =>
      intro x hS hx hl
      rw [(nI_m1 S (by omega)).1]
      refine ⟨fun q => ?_, fun _ => least5 hC hF hx hS hl (fun r aw hr => ⟨vi (by omega) (by omega), ?_⟩)⟩
      · have := Int32.lt_iff_toInt_lt.mp q
        rw [nI_toInt (by omega), i0'] at this
        omega
      · rw [(nI_m1 S (by omega)).2, cl_ (by omega)]
        refine ih _ (by omega) hx (fun S' h1 h2 => ?_)
        show isL (pek c) (kK c) S' (vp_updL (x_least x) S r S').toInt
        by_cases e : S' = S
        · subst e; rw [upL_s]; exact hr
        · rw [upL_n e]; exact hl S' (by omega) h2
  refine ⟨2 ^ kK c - 1 + 1, down (2 ^ kK c - 1) _ (by omega) hx (fun S' h1 h2 => ?_)⟩
  obtain rfl : S' = 2 ^ kK c - 1 := by omega
  show isL (pek c) (kK c) _ (vp_updL (x_least x) (2 ^ kK c - 1) 0 (2 ^ kK c - 1)).toInt
  rw [upL_s]
  exact ⟨⟨[], rfl, Int.le_refl _⟩, fun l L _ h => leP_0 h⟩
theorem leP_all {p : Nat → Nat → Int} {nb : Nat} {B : Int} (hB : 0 ≤ B) (hp : ∀ S b, b < nb → p S b ≤ B) : ∀ {l : List Nat} {S : Nat}, ord nb S l → leP p S l B
  | [], _, _ => hB
  | b :: _, S, h => ⟨hp S b h.1, leP_all hB hp h.2.2⟩
theorem wkL_b (hC : CI c) (hF : FedC c) : 0 ≤ wkL c ∧ wkL c ≤ 5000000000 := by
  have h6 := hC.b6
  have hN := (pX_first (nb := kK c) (by omega)).1
  have hi := (bI_ok (wkF c) (pN (kK c) - 1)).1
  have ho := (pX_ord (nb := kK c) (i := wkI c) (by unfold wkI; omega)).1
  refine ⟨tot_ge (Int.le_refl _), (tot_le (Int.le_refl _)).mpr ⟨by omega, leP_all (by omega) (fun S b hb => ?_) ho⟩⟩
  refine (mx_abs (by omega) (fun k hk => ?_)).2
  have hab : -(504000000 * (kK c : Int)) ≤ awk c S k ∧ awk c S k ≤ 504000000 * (kK c : Int) := awk_b hC hF hk S (m := kK c) (by omega)
  have hg := gr_b hC hF hk hb
  have hm := (hC.blk hb).2
  have hmb := mul_bd (x := gr c k b) (y := 3 * kM c b) (A := 25200000) (B := 60) hg (by omega)
  omega
end XL
section AWK
variable {c : CS} {ii what : Int32}
theorem ag_woken (hC : CI c) : AGI c (fun x K => wp_X5_woken ii c x K) (fun t K => wp_X6_woken ii c t K) := by
  by_cases hF : FedC c
  case neg => exact AGI.mk' hC (-3) (fun x K hK => set5 hC (fun q => absurd q hF) (fun _ x' => ⟨fun q => absurd rfl q, fun _ => hK x'⟩)) (fun t K hK => fed_ok hC (fun q => absurd q hF) (fun _ => ⟨fun q => absurd rfl q, fun _ => hK t⟩))
  by_cases hw : isN (kK c) ii
  case neg => exact AGI.mk' hC (-1) (fun x K hK => set5 hC (fun _ x' hx => ⟨fun _ => bl5_0 hC hw ⟨fun q => absurd rfl q, fun _ => hK x'⟩, fun e => absurd e n10⟩) (fun q => absurd hF q)) (fun t K hK => fed_ok hC (fun _ => ⟨fun _ => woken6 hC hF (fun t' _ _ _ => bl6_0 hC hw ⟨fun _ => hK t', fun q => absurd rfl q⟩), fun e => absurd e n10⟩) (fun q => absurd hF q))
  have hw' := hw
  obtain ⟨i, hi, rfl⟩ := hw'
  have h6 := hC.b6
  have ci : (nI i).toNatClampNeg = i := cl_ (by omega)
  have v6 : vp_in (nI i) 6 := vi (by omega) (by omega)
  refine AGI.mk' hC (nI (gl (wkO c) i)) (fun x K hK => set5 hC (fun _ x' hx => ⟨fun _ => bl5_1 hC hw ⟨fun _ => wsearch5 hC hF hx (fun x2 _ _ ho => ⟨v6, ?_⟩), fun e => absurd e n10⟩, fun e => absurd e n10⟩) (fun q => absurd hF q)) (fun t K hK => fed_ok hC (fun _ => ⟨fun _ => woken6 hC hF (fun t' _ _ ho => bl6_1 hC hw ⟨fun e => absurd e n10, fun _ => ⟨v6, ?_⟩⟩), fun e => absurd e n10⟩) (fun q => absurd hF q))
  · rw [ci, ho i hi]; exact hK x2
  · rw [ci, ho i hi]; exact hK t'
theorem ag_wokenFall (hC : CI c) : AGL c (fun x K => wp_X5_wokenFall what c x K) (fun t K => wp_X6_wokenFall what c t K) := by
  by_cases hw : what = 0 ∨ what = 1
  case neg => exact AGL.mk' hC (-2) (fun x K hK => pt5_0 hw ⟨fun q => absurd rfl q, fun _ => hK x⟩) (fun t K hK => pt6_0 hw ⟨fun q => absurd rfl q, fun _ => hK t⟩)
  by_cases hF : FedC c
  case neg => exact AGL.mk' hC (-3) (fun x K hK => pt5_1 hw ⟨fun _ => set5 hC (fun q => absurd q hF) (fun _ x' => ⟨fun q => absurd rfl q, fun _ => hK x'⟩), fun e => absurd e n10⟩) (fun t K hK => pt6_1 hw ⟨fun _ => fed_ok hC (fun q => absurd q hF) (fun _ => ⟨fun q => absurd rfl q, fun _ => hK t⟩), fun e => absurd e n10⟩)
  have hD := gD_b hC hF
  have hX := wkL_b hC hF
  have c0 : ((0 : Int32)).toNatClampNeg = 0 := by decide
  refine AGL.mk' hC (Int64.ofInt (lowA (wkL c) (gD c) what)) (fun x K hK => pt5_1 hw ⟨fun _ => set5 hC (fun _ x' hx => ⟨fun _ => wsearch5 hC hF hx (fun x2 hx2 hL _ => ⟨vi (n := 0) (by omega) (by omega), ?_⟩), fun e => absurd e n10⟩) (fun q => absurd hF q), fun e => absurd e n10⟩) (fun t K hK => pt6_1 hw ⟨fun _ => fed_ok hC (fun _ => ⟨fun _ => woken6 hC hF (fun t' hR hL _ => ?_), fun e => absurd e n10⟩) (fun q => absurd hF q), fun e => absurd e n10⟩)
  · rw [c0]
    exact part_ok (x := wkL c) (y := gD c) hL hx2.1.2.1 hD.1 (by omega) (by omega) (fun r hr => by rw [l_is hr]; exact hK _)
  · exact low_ok (x := wkL c) (y := gD c) hL hR.1 hD.1 (by omega) (by omega) (fun r hr => by rw [l_is hr]; exact hK _)
end AWK
