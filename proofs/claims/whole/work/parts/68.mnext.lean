/-! WOKEN: the next order; the reference's search -/
section MN
variable {c : CS} {t : MT} {g : Nat → Nat} {i : Nat}
theorem exch_ok {K : CS → MT → Prop} {a b nb : Nat} (ha : a < nb) (hb : b < nb) (h6 : nb ≤ 6) (hg : ∀ k, k < nb → m_order t k = nI (g k)) (hK : ∀ o', (∀ k, k < nb → o' k = nI (sw g a b k)) → K c (ms_order t o')) : wp_X6_exchange (nI a) (nI b) c t K := by
  have va : vp_in (nI a) 6 := vi (by omega) (by omega)
  have vb : vp_in (nI b) 6 := vi (by omega) (by omega)
  have ca : (nI a).toNatClampNeg = a := cl_ (by omega)
  have cb : (nI b).toNatClampNeg = b := cl_ (by omega)
  refine ⟨va, vb, va, vb, ?_⟩
  rw [ca, cb]
  refine hK _ (fun k hk => ?_)
  unfold sw
  by_cases e : k = b
  · subst e
    rw [up_s, if_pos rfl]
    exact hg a ha
  · rw [up_n e, if_neg e]
    by_cases e2 : k = a
    · subst e2
      rw [up_s, if_pos rfl]
      exact hg b hb
    · rw [up_n e2, if_neg e2]
      exact hg k hk
theorem rv_go {K : Int32 → CS → MT → Prop} {nb : Nat} (h6 : nb ≤ 6) : ∀ (f a b : Nat) (g : Nat → Nat) (o : Nat → Int32), b < a + 2 * f + 1 → b < nb → (∀ k, k < nb → o k = nI (g k)) → (∀ o', (∀ k, k < nb → o' k = nI (rv f g a b k)) → K 1 c (ms_order t o')) → a < 2000000000 → nd_X6_nextOrder_86 K (f + 1) (nI a) (nI b) c (ms_order t o)
  | 0, a, b, g, o, h, hb, hg, hK, ha => ⟨fun _ => hK o hg, fun q => absurd (by rw [Int32.le_iff_toInt_le, nI_toInt (by omega), nI_toInt (by omega)]; omega) q⟩
  | f + 1, a, b, g, o, h, hb, hg, hK, ha => by
    by_cases q : b ≤ a
    · refine ⟨fun _ => hK o (fun k hk => ?_), fun z => absurd (by rw [Int32.le_iff_toInt_le, nI_toInt (by omega), nI_toInt (by omega)]; omega) z⟩
      show o k = nI ((if b ≤ a then g else rv f (sw g a b) (a + 1) (b - 1)) k)
      rw [if_pos q]
      exact hg k hk
    · refine ⟨fun z => ?_, fun _ => ?_⟩
      · rw [Int32.le_iff_toInt_le, nI_toInt (by omega), nI_toInt (by omega)] at z
        omega
      · refine exch_ok (t := ms_order t o) (g := g) (by omega) hb h6 hg (fun o' ho' => ?_)
        have e : nI b + (-1 : Int32) = nI (b - 1) := by
          obtain ⟨b', rfl⟩ : ∃ b', b = b' + 1 := ⟨b - 1, by omega⟩
          rw [(nI_m1 (b' + 1) (by omega)).2, (nI_m1 b' (by omega)).1]
          rfl
        rw [nI_1, e]
        refine rv_go h6 f (a + 1) (b - 1) (sw g a b) o' (by omega) (by omega) ho' (fun o2 ho2 => hK o2 (fun k hk => ?_)) (by omega)
        show o2 k = nI ((if b ≤ a then g else rv f (sw g a b) (a + 1) (b - 1)) k)
        rw [if_neg q]
        exact ho2 k hk
theorem dI_le : ∀ i, dI g i ≤ i
  | 0 => Nat.le_refl _
  | i + 1 => by
    have := dI_le i
    show (if g i ≤ g (i + 1) then i + 1 else dI g i) ≤ i + 1
    split <;> omega
theorem dJ_le {x : Nat} : ∀ j, dJ g x j ≤ j
  | 0 => Nat.le_refl _
  | j + 1 => by
    have := dJ_le (x := x) j
    show (if x ≤ g (j + 1) then j + 1 else dJ g x j) ≤ j + 1
    split <;> omega
theorem le_nI {a b : Nat} (ha : a < 2147483648) (hb : b < 2147483648) : nI a ≤ nI b ↔ a ≤ b := by
  rw [Int32.le_iff_toInt_le, nI_toInt ha, nI_toInt hb]; omega
theorem dI_go {K : Int32 → CS → MT → Prop} {nb : Nat} (h6 : nb ≤ 6) (hg : ∀ k, k < nb → m_order t k = nI (g k)) (hg2 : ∀ k, k < nb → g k < 2147483648) : ∀ i, i < nb → (dI g i = 0 → K 0 c t) → (∀ j, dI g i = j + 1 → nd_X6_nextOrder_34 K (nI j) c t) → nd_X6_nextOrder_7 K (i + 1) (nI i - 1) c t
  | 0, _, h0, _ => by
    have e : nI 0 - (1 : Int32) = -1 := by decide
    rw [e]
    exact ⟨fun _ => ⟨fun q => absurd q (by decide), fun _ => h0 rfl⟩, fun q => absurd (by decide) q⟩
  | i + 1, hi, h0, h1 => by
    rw [(nI_m1 i (by omega)).1]
    have v6 : vp_in (nI i) 6 := vi (by omega) (by omega)
    have v6' : vp_in (nI i + (1 : Int32)) 6 := by rw [nI_1]; exact vi (by omega) (by omega)
    have hdi : dI g (i + 1) = if g i ≤ g (i + 1) then i + 1 else dI g i := rfl
    refine ⟨fun q => ?_, fun _ => ⟨v6, v6', ?_⟩⟩
    · have := Int32.lt_iff_toInt_lt.mp q
      rw [nI_toInt (by omega), i0'] at this
      omega
    · rw [nI_1, cl_ (by omega), cl_ (by omega), hg i (by omega), hg (i + 1) hi, le_nI (hg2 i (by omega)) (hg2 (i + 1) hi)]
      refine ⟨fun q => h1 i (by rw [hdi, if_pos q]), fun q => ?_⟩
      rw [(nI_m1 i (by omega)).2]
      rw [hdi, if_neg q] at h0 h1
      exact dI_go h6 hg hg2 i (by omega) h0 h1
theorem dJ_go {K : Int32 → CS → MT → Prop} {nb i : Nat} (h6 : nb ≤ 6) (hg : ∀ k, k < nb → m_order t k = nI (g k)) (hg2 : ∀ k, k < nb → g k < 2147483648) (hi : i < nb) (hc : c_nb c = nI nb) (h1 : ∀ o', (∀ k, k < nb → o' k = nI (rv 3 (sw g i (dJ g (g i) (nb - 1))) (i + 1) (nb - 1) k)) → K 1 c (ms_order t o')) : ∀ j, i ≤ j → j < nb → dJ g (g i) j = dJ g (g i) (nb - 1) → nd_X6_nextOrder_47 K (j + 1) (nI i) (nI j) c t := by
  have hex : ∀ j, j < nb → j = dJ g (g i) (nb - 1) → wp_X6_exchange (nI i) (nI j) c t (fun c6_ t6_ => ∃ n86 : Nat, nd_X6_nextOrder_86 K n86 (nI i + (1 : Int32)) ((c_nb c6_) - (1 : Int32)) c6_ t6_) := fun j hj e => by
    refine exch_ok (g := g) hi hj h6 hg (fun o' ho' => ⟨3 + 1, ?_⟩)
    rw [hc, nI_1]
    obtain ⟨b', hb'⟩ : ∃ b', nb = b' + 1 := ⟨nb - 1, by omega⟩
    rw [hb', (nI_m1 b' (by omega)).1]
    rw [← e] at h1
    refine rv_go (nb := nb) h6 3 (i + 1) b' (sw g i j) o' (by omega) (by omega) ho' (fun o2 ho2 => h1 o2 ?_) (by omega)
    rw [show nb - 1 = b' by omega]
    exact ho2
  intro j
  induction j with
  | zero =>
    intro hij _ e
    obtain rfl : i = 0 := by omega
    refine ⟨vi (by omega) (by omega), vi (by omega) (by omega), fun _ => hex 0 hi ?_, fun q => absurd (Int32.le_refl _) q⟩
    rw [← e]; rfl
  | succ j ih =>
    intro hij hj e
    have hdj : dJ g (g i) (j + 1) = if g i ≤ g (j + 1) then j + 1 else dJ g (g i) j := rfl
    refine ⟨vi (by omega) (by omega), vi (by omega) (by omega), ?_⟩
    rw [cl_ (by omega), cl_ (by omega), hg i hi, hg (j + 1) hj, le_nI (hg2 i hi) (hg2 (j + 1) hj)]
    refine ⟨fun q => hex (j + 1) hj ?_, fun q => ?_⟩
    · rw [← e, hdj, if_pos q]
    · have hne : i ≠ j + 1 := fun z => q (by rw [z]; exact Nat.le_refl _)
      rw [(nI_m1 (j + 1) (by omega)).2, (nI_m1 j (by omega)).1]
      refine ih (by omega) (by omega) ?_
      rw [← e, hdj, if_neg q]
theorem next_ok {K : Int32 → CS → MT → Prop} (hC : CI c) (hg : ∀ k, k < kK c → m_order t k = nI (g k)) (hg2 : ∀ k, k < kK c → g k < 2147483648) (h0 : dI g (kK c - 1) = 0 → K 0 c t) (h1 : dI g (kK c - 1) ≠ 0 → ∀ o', (∀ k, k < kK c → o' k = nI (nxF (kK c) g k)) → K 1 c (ms_order t o')) : wp_X6_nextOrder c t K := by
  have h6 := hC.b6
  unfold wp_X6_nextOrder
  rw [hC.eb]
  by_cases hz : kK c = 0
  · rw [hz] at h0 ⊢
    have e : nI 0 - (2 : Int32) = -2 := by decide
    rw [e]
    exact ⟨1, fun _ => ⟨fun q => absurd q (by decide), fun _ => h0 rfl⟩, fun q => absurd (by decide) q⟩
  · obtain ⟨b, hb⟩ : ∃ b, kK c = b + 1 := ⟨kK c - 1, by omega⟩
    have e : nI (kK c) - (2 : Int32) = nI b - 1 := by
      rw [hb]
      apply i_inj
      rw [i_sub (nI_toInt (by omega)) (show (2 : Int32).toInt = 2 by decide) (by omega) (by omega), i_sub (nI_toInt (by omega)) i1' (by omega) (by omega)]
      omega
    rw [e]
    rw [show kK c - 1 = b by omega] at h0 h1
    refine ⟨b + 1, dI_go (nb := kK c) h6 hg hg2 b (by omega) h0 (fun i hi => ?_)⟩
    have hib := dI_le (g := g) b
    refine ⟨fun _ => ⟨b + 1, ?_⟩, fun q => absurd (by rw [Int32.le_iff_toInt_le, nI_toInt (by omega), i0']; omega) q⟩
    rw [hC.eb, show nI (kK c) - (1 : Int32) = nI b by rw [hb]; exact (nI_m1 b (by omega)).1]
    refine dJ_go (nb := kK c) h6 hg hg2 (i := i) (by omega) hC.eb (fun o' ho' => h1 (by omega) o' (fun k hk => ?_)) b (by omega) (by omega) (by rw [show kK c - 1 = b by omega])
    rw [ho' k hk]
    unfold nxF
    rw [show kK c - 1 = b by omega, hi]
    rfl
end MN
section MF2
variable {c : CS} {t : MT}
def wkF (c : CS) (i : Nat) : Int := tot (pek c) 0 0 (pX (kK c) i)
def wkI (c : CS) : Nat := bI (wkF c) (pN (kK c) - 1)
def wkL (c : CS) : Int := wkF c (wkI c)
def wkO (c : CS) : List Nat := pX (kK c) (wkI c)
theorem wk_best (hC : CI c) : isL (pek c) (kK c) 0 (wkL c) ∧ gb (pek c) (kK c) 0 (wkL c) (wkO c) := best_ord (by have := hC.b6; omega) (pek c)
theorem tot_ge {p : Nat → Nat → Int} {S : Nat} {v : Int} {l : List Nat} (h : 0 ≤ v) : v ≤ tot p S v l := (tot_le h).mp (Int.le_refl _) |>.1
theorem gl_lt {l : List Nat} (h : ∀ b, b ∈ l → b < 6) (k : Nat) : gl l k < 2147483648 := by
  unfold gl
  rw [List.getD_eq_getElem?_getD]
  by_cases q : k < l.length
  · rw [List.getElem?_eq_getElem q]
    have := h _ (List.getElem_mem q)
    show l[k] < _
    omega
  · rw [List.getElem?_eq_none (by omega)]
    show 0 < _
    omega
theorem ord_mem {nb : Nat} : ∀ {l : List Nat} {S : Nat}, ord nb S l → ∀ b, b ∈ l → b < nb
  | _ :: _, _, h, b, hb => by
    rcases List.mem_cons.mp hb with e | e
    · rw [e]; exact h.1
    · exact ord_mem h.2.2 b e
theorem woken6 {K : CS → MT → Prop} (hC : CI c) (hF : FedC c) (hK : ∀ t', resI c (-1) (kB c) t' → (m_woken t').toInt = wkL c → (∀ k, k < kK c → m_bestOrder t' k = nI (gl (wkO c) k)) → K c t') : wp_X6_findWoken c t K := by
  have h6 := hC.b6
  have hn7 : kK c < 7 := by omega
  have hN := (pX_first hn7).1
  unfold wp_X6_findWoken
  refine res6 hC hF (fun t1 _ hR => ?_)
  show ∃ n11 : Nat, nd_X6_findWoken_11 K n11 (nI 0) c t1
  refine upto (fun n i (t' : MT) => nd_X6_findWoken_11 K n (nI i) c t') (fun i t' => resI c (-1) (kB c) t' ∧ ∀ k, k < i → m_order t' k = nI k) (kK c) 0 t1 (by omega) ⟨hR, fun k h => by omega⟩ ?_ ?_
  · rintro n t2 ⟨hR2, ho2⟩
    refine ⟨fun _ => ?_, fun h => absurd (show c_nb c ≤ nI (kK c) from by rw [← hC.eb]; exact Int32.le_refl _) h⟩
    refine upto (fun n m (s : Int32 × MT) => nd_X6_findWoken_41 K n s.1 c s.2) (fun m s => resI c (-1) (kB c) s.2 ∧ (m < pN (kK c) → s.1 = 1 ∧ ∀ k, k < kK c → m_order s.2 k = nI (gl (pX (kK c) m) k)) ∧ (m = pN (kK c) → s.1 = 0) ∧ (m = 0 → m_woken s.2 = -1) ∧ ∀ m', m = m' + 1 → (m_woken s.2).toInt = wkF c (bI (wkF c) m') ∧ ∀ k, k < kK c → m_bestOrder s.2 k = nI (gl (pX (kK c) (bI (wkF c) m')) k)) (pN (kK c)) 0 (1, ms_woken t2 (-1 : Int64)) (by omega) ⟨hR2, fun _ => ⟨rfl, fun k hk => ?_⟩, fun e => by omega, fun _ => rfl, fun m' e => by omega⟩ ?_ ?_
    · rw [(pX_first hn7).2]
      show m_order t2 k = nI ((List.range (kK c)).getD k 0)
      rw [ho2 k hk]
      simp [List.getD_eq_getElem?_getD, hk]
    · rintro n ⟨v1, t3⟩ ⟨hR3, _, hv, _, hb⟩
      have hv := hv rfl
      simp only at hv
      obtain ⟨b1, b2⟩ := hb (pN (kK c) - 1) (by omega)
      exact ⟨fun _ => hK t3 hR3 b1 b2, fun q => absurd hv q⟩
    · rintro n m ⟨v1, t3⟩ hm _ ⟨hR3, ho3, _, hw0, hb⟩ hW
      simp only at hR3 ho3 hw0 hb
      obtain ⟨e1, ho3'⟩ := ho3 hm
      clear ho3
      subst e1
      have ho3 : ∀ k, k < kK c → m_order t3 k = nI (gl (pX (kK c) m) k) := ho3'
      obtain ⟨hord, hlen⟩ := pX_ord (nb := kK c) hm
      have hgl : ∀ k, gl (pX (kK c) m) k < 2147483648 := fun k => gl_lt (fun b hb => by have := ord_mem hord b hb; omega) k
      have hcost : ∀ i, 0 ≤ wkF c i := fun i => tot_ge (Int.le_refl 0)
      refine ⟨fun q => absurd q n10, fun _ => fallof_ok hC hF hR3 hord ho3 (fun r nw hr => ?_)⟩
      have hr : r.toInt = wkF c m := hr
      -- the next order
      have nxt : ∀ t4 : MT, resI c (-1) (kB c) t4 → (∀ k, k < kK c → m_order t4 k = nI (gl (pX (kK c) m) k)) → (m_woken t4).toInt = wkF c (bI (wkF c) m) → (∀ k, k < kK c → m_bestOrder t4 k = nI (gl (pX (kK c) (bI (wkF c) m)) k)) → nd_X6_findWoken_105 K (fun v1 c t => nd_X6_findWoken_41 K n v1 c t) c t4 := fun t4 hR4 ho4 hw4 hb4 => by
        refine next_ok hC ho4 (fun k _ => hgl k) (fun hz => ?_) (fun hz o' ho' => ?_)
        · have hlast : ¬ m + 1 < pN (kK c) := fun z => (pX_next hn7 z).1 hz
          refine hW (0, t4) ⟨hR4, fun z => absurd z hlast, fun _ => rfl, fun z => by omega, fun m' e => ?_⟩
          obtain rfl : m' = m := by omega
          exact ⟨hw4, hb4⟩
        · have hlast : m + 1 < pN (kK c) := by
            refine Nat.lt_of_not_le (fun z => hz ?_)
            have := pX_last hn7
            rw [show pN (kK c) - 1 = m by omega] at this
            exact this
          have hnx := (pX_next hn7 hlast).2.1
          refine hW (1, ms_order t4 o') ⟨hR4, fun _ => ⟨rfl, fun k hk => ?_⟩, fun z => by omega, fun z => by omega, fun m' e => ?_⟩
          · show o' k = _
            rw [ho' k hk, hnx k hk]
          · obtain rfl : m' = m := by omega
            exact ⟨hw4, hb4⟩
      -- the best so far taken anew
      have take : wkF c (bI (wkF c) m) = wkF c m → bI (wkF c) m = m → nd_X6_findWoken_68 K (fun v1 c t => nd_X6_findWoken_41 K n v1 c t) r c (ms_now t3 nw) := fun _ em => by
        show ∃ n76 : Nat, nd_X6_findWoken_76 K (fun v1 c t => nd_X6_findWoken_41 K n v1 c t) n76 (nI 0) c (ms_woken (ms_now t3 nw) r)
        refine upto (fun n' i (t' : MT) => nd_X6_findWoken_76 K (fun v1 c t => nd_X6_findWoken_41 K n v1 c t) n' (nI i) c t') (fun i t' => resI c (-1) (kB c) t' ∧ (∀ k, k < kK c → m_order t' k = nI (gl (pX (kK c) m) k)) ∧ m_woken t' = r ∧ ∀ k, k < i → m_bestOrder t' k = nI (gl (pX (kK c) m) k)) (kK c) 0 _ (by omega) ⟨hR3, ho3, rfl, fun k h => by omega⟩ ?_ ?_
        · rintro n' t4 ⟨hR4, ho4, hw4, hb4⟩
          refine ⟨fun _ => nxt t4 hR4 ho4 (by rw [hw4, hr, em]) (by rw [em]; exact hb4), fun h => absurd (show c_nb c ≤ nI (kK c) from by rw [← hC.eb]; exact Int32.le_refl _) h⟩
        · rintro n' i t4 hi _ ⟨hR4, ho4, hw4, hb4⟩ hW'
          have v6 : vp_in (nI i) 6 := vi (by omega) (by omega)
          refine ⟨fun h => absurd h (by rw [hC.eb]; exact nI_ge hi (by omega)), fun _ => ⟨v6, v6, ?_⟩⟩
          rw [cl_ (by omega), nI_1]
          refine hW' _ ⟨hR4, ho4, hw4, fun k hk => ?_⟩
          show upd (m_bestOrder t4) i (m_order t4 i) k = _
          by_cases e : k = i
          · subst e; rw [up_s]; exact ho4 k hi
          · rw [up_n e]; exact hb4 k (by omega)
      cases m with
      | zero =>
        have hw : m_woken t3 = -1 := hw0 rfl
        refine ⟨fun _ => take rfl rfl, fun q => absurd ?_ q⟩
        show m_woken t3 < 0
        rw [hw]; decide
      | succ m =>
        obtain ⟨b1, b2⟩ := hb m rfl
        have hbi : bI (wkF c) (m + 1) = if wkF c (bI (wkF c) m) ≤ wkF c (m + 1) then bI (wkF c) m else m + 1 := rfl
        refine ⟨fun q => ?_, fun _ => ⟨fun q => ?_, fun q => ?_⟩⟩
        · have q' := Int64.lt_iff_toInt_lt.mp (show m_woken t3 < 0 from q)
          have : (0 : Int64).toInt = 0 := rfl
          have := hcost (bI (wkF c) m)
          omega
        · have q' := Int64.le_iff_toInt_le.mp (show m_woken t3 ≤ r from q)
          rw [b1, hr] at q'
          rw [if_pos q'] at hbi
          refine nxt (ms_now t3 nw) hR3 ho3 ?_ ?_
          · rw [hbi]; exact b1
          · rw [hbi]; exact b2
        · have q' : ¬ (m_woken t3).toInt ≤ r.toInt := fun y => q (Int64.le_iff_toInt_le.mpr y)
          rw [b1, hr] at q'
          rw [if_neg q'] at hbi
          exact take (by rw [hbi]) hbi
  · rintro n i t2 hi _ ⟨hR2, ho2⟩ hW
    refine ⟨fun h => absurd h (by rw [hC.eb]; exact nI_ge hi (by omega)), fun _ => ⟨vi (by omega) (by omega), ?_⟩⟩
    rw [cl_ (by omega), nI_1]
    refine hW _ ⟨hR2, fun k hk => ?_⟩
    show upd (m_order t2) i (nI i) k = _
    by_cases e : k = i
    · subst e; exact up_s
    · rw [up_n e]; exact ho2 k (by omega)
end MF2
