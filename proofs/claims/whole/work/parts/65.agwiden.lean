/-! WIDENED: one answer -/
section FW
variable {c : CS} {lim : Int32} {u i : Nat} {o : Option (List Nat)}
theorem cdV_up (l : List Nat) : cdV (kE c) u (i + 1) l ↔ cdV (kE c) u i l ∨ (l = cdp (kE c) i 3 ∧ ndec (kE c) i ∧ (cdp (kE c) i 3).length ≤ u) := by
  constructor
  · rintro ⟨j, h1, h2, h3, h4⟩
    by_cases e : j = i
    · subst e; exact .inr ⟨h2, h3, by rw [← h2]; exact h4⟩
    · exact .inl ⟨j, by omega, h2, h3, h4⟩
  · rintro (⟨j, h1, h2, h3, h4⟩ | ⟨h1, h2, h3⟩)
    · exact ⟨j, by omega, h2, h3, h4⟩
    · exact ⟨i, by omega, h1, h2, by rw [h1]; exact h3⟩
theorem stay6 (hI : InvB (kP c) (vlw c lim) o (cdV (kE c) u i)) (hs : ndec (kE c) i → (cdp (kE c) i 3).length ≤ u → (¬ vlw c lim (cdp (kE c) i 3) ∨ ∃ b, o = some b ∧ ¬ btr (kP c) (cdp (kE c) i 3) b)) : InvB (kP c) (vlw c lim) o (cdV (kE c) u (i + 1)) := by
  by_cases q : ndec (kE c) i ∧ (cdp (kE c) i 3).length ≤ u
  · refine inv_iff (inv_hold hI (hs q.1 q.2)) (fun l => ?_)
    rw [cdV_up]
    exact ⟨fun z => z.elim .inl (fun e => .inr ⟨e, q.1, q.2⟩), fun z => z.elim .inl (fun e => .inr e.1)⟩
  · refine inv_iff hI (fun l => ?_)
    rw [cdV_up]
    exact ⟨.inl, fun z => z.elim id (fun e => absurd e.2 q)⟩
theorem put6 (hI : InvB (kP c) (vlw c lim) o (cdV (kE c) u i)) (h1 : ndec (kE c) i) (h2 : (cdp (kE c) i 3).length ≤ u) (hv : vlw c lim (cdp (kE c) i 3)) (hb : ∀ b, o = some b → btr (kP c) (cdp (kE c) i 3) b) : InvB (kP c) (vlw c lim) (some (cdp (kE c) i 3)) (cdV (kE c) u (i + 1)) := by
  refine inv_iff (inv_put hI hv hb) (fun l => ?_)
  rw [cdV_up]
  exact ⟨fun z => z.elim .inl (fun e => .inr ⟨e, h1, h2⟩), fun z => z.elim .inl (fun e => .inr e.1)⟩
/-- there is one -/
theorem best_is (c : CS) (lim : Int32) (u : Nat) : ∀ i, ∃ o, InvB (kP c) (vlw c lim) o (cdV (kE c) u i)
  | 0 => ⟨none, fun l ⟨j, h, _⟩ => absurd h (by omega)⟩
  | i + 1 => by
    obtain ⟨o, hI⟩ := best_is c lim u i
    by_cases hv : vlw c lim (cdp (kE c) i 3)
    · by_cases q : ndec (kE c) i ∧ (cdp (kE c) i 3).length ≤ u
      · by_cases hb : ∀ b, o = some b → btr (kP c) (cdp (kE c) i 3) b
        · exact ⟨_, put6 hI q.1 q.2 hv hb⟩
        · refine ⟨o, stay6 hI (fun _ _ => .inr ?_)⟩
          refine Classical.byContradiction (fun z => hb (fun b e => Classical.byContradiction (fun y => z ⟨b, e, y⟩)))
      · exact ⟨o, stay6 hI (fun a b => absurd ⟨a, b⟩ q)⟩
    · exact ⟨o, stay6 hI (fun _ _ => .inl hv)⟩
theorem bst6_congr {v : Int32} {t t' : MT} (e : m_bestMore t' = m_bestMore t) (h : bst6 c v t o) : bst6 c v t' o := by
  cases o with
  | none => exact h
  | some b => exact ⟨h.1, h.2.1, h.2.2.1, fun w hw => by rw [e]; exact h.2.2.2 w hw⟩
theorem cube_lt {E : Nat} (h : E ≤ 12) : (E + 1) * (E + 1) * (E + 1) ≤ 2197 := by
  have h1 := Nat.mul_le_mul (show E + 1 ≤ 13 by omega) (show E + 1 ≤ 13 by omega)
  have h2 := Nat.mul_le_mul h1 (show E + 1 ≤ 13 by omega)
  omega
set_option maxHeartbeats 2000000 in
theorem find6 {K : Int32 → CS → MT → Prop} {t : MT} (hC : CI c) (hF : FedC c) (hl : 0 ≤ lim.toInt ∧ lim.toInt ≤ 1000) (hu : u ≤ 3) (h1 : ∀ v3 t' o, InvB (kP c) (vlw c lim) o (cdl c u) → bst6 c v3 t' o → K v3 c t') : wp_X6_findWiden lim (nI u) c t K := by
  have h12 := hC.e12
  have hcube := cube_lt h12
  have eE : c_wires c + (1 : Int32) = nI (kE c + 1) := by rw [hC.ew, nI_1]
  unfold wp_X6_findWiden
  rw [eE, pk_mul, pk_mul]
  show ∃ n27 : Nat, nd_X6_findWiden_27 K n27 lim (nI u) (-1 : Int32) (nI ((kE c + 1) * (kE c + 1) * (kE c + 1))) (nI 0) c t
  have hall := cdV_all (c := c) hu
  generalize (kE c + 1) * (kE c + 1) * (kE c + 1) = A at *
  refine upto (fun n i (s : Int32 × Option (List Nat) × MT) => nd_X6_findWiden_27 K n lim (nI u) s.1 (nI A) (nI i) c s.2.2) (fun i s => bst6 c s.1 s.2.2 s.2.1 ∧ InvB (kP c) (vlw c lim) s.2.1 (cdV (kE c) u i)) A 0 (-1, none, t) (by omega) ⟨rfl, fun l ⟨j, h, _⟩ => absurd h (by omega)⟩ ?_ ?_
  · rintro n ⟨v3, o, t⟩ ⟨hb, hI⟩
    exact ⟨fun _ => h1 v3 t o (inv_iff hI hall) hb, fun q => absurd (Int32.le_refl _) q⟩
  · rintro n i ⟨v3, o, t⟩ hi _ ⟨hb, hI⟩ hW
    simp only at hb hI
    refine ⟨fun q => absurd q (nI_ge hi (by omega)), fun _ => ?_⟩
    show ∃ n50 : Nat, nd_X6_findWiden_50 K (fun v1 v2 v3 v4 v5 c t => nd_X6_findWiden_27 K n v1 v2 v3 v4 v5 c t) n50 lim (nI u) v3 (nI A) (nI i) (nI i) (0 : Int32) (0 : Int32) (1 : Int32) (nI 0) c t
    refine upto (fun m j (t' : MT) => nd_X6_findWiden_50 K (fun v1 v2 v3 v4 v5 c t => nd_X6_findWiden_27 K n v1 v2 v3 v4 v5 c t) m lim (nI u) v3 (nI A) (nI i) (nI i) (0 : Int32) (0 : Int32) (1 : Int32) (nI j) c t') (fun j t' => (∀ w, w < j → m_more t' w = 0) ∧ m_bestMore t' = m_bestMore t) (kE c) 0 t (by omega) ⟨fun w h => absurd h (by omega), rfl⟩ ?_ ?_
    · rintro m t1 ⟨hz, hbm⟩
      refine ⟨fun _ => ?_, fun h => absurd (show c_wires c ≤ nI (kE c) from by rw [← hC.ew]; exact Int32.le_refl _) h⟩
      show ∃ n76 : Nat, nd_X6_findWiden_76 K (fun v1 v2 v3 v4 v5 c t => nd_X6_findWiden_27 K n v1 v2 v3 v4 v5 c t) n76 lim (nI u) v3 (nI A) (nI i) (nI i) (0 : Int32) (0 : Int32) (1 : Int32) (nI 0) c t1
      refine upto (fun m k (s : Int32 × Int32 × Int32 × Int32 × MT) => nd_X6_findWiden_76 K (fun v1 v2 v3 v4 v5 c t => nd_X6_findWiden_27 K n v1 v2 v3 v4 v5 c t) m lim (nI u) v3 (nI A) (nI i) s.1 s.2.1 s.2.2.1 s.2.2.2.1 (nI k) c s.2.2.2.2) (fun k s => M76 c t i k s) 3 0 (nI i, 0, 0, 1, t1) (by omega) ⟨rfl, rfl, rfl, .inl ⟨rfl, trivial⟩, fun w hw => by
        show (m_more t1 w).toInt = 0
        rw [hz w hw]; rfl, fun j e => absurd e (by omega), hbm⟩ ?_ ?_
      · rintro m ⟨v6, v7, v8, v9, t2⟩ ⟨m1, m2, m3, m4, m5, -, m7⟩
        simp only at m1 m2 m3 m4 m5 m7
        subst m2
        refine ⟨fun _ => ?_, fun q => absurd (Int32.le_refl _) q⟩
        have hlen := cdp_len (kE c) i 3
        have hpr0 := cdp_pr hC 3 (i := i)
        have hmay := may_iff hC i
        have stay : ∀ t', m_bestMore t' = m_bestMore t → (ndec (kE c) i → (cdp (kE c) i 3).length ≤ u → (¬ vlw c lim (cdp (kE c) i 3) ∨ ∃ b, o = some b ∧ ¬ btr (kP c) (cdp (kE c) i 3) b)) → nd_X6_findWiden_321 K (fun v1 v2 v3 v4 v5 c t => nd_X6_findWiden_27 K n v1 v2 v3 v4 v5 c t) lim (nI u) v3 (nI A) (nI i) c t' := fun t' e hs => by
          show nd_X6_findWiden_27 K n lim (nI u) v3 (nI A) (nI i + 1) c t'
          rw [nI_1]
          exact hW (v3, o, t') ⟨bst6_congr e hb, stay6 hI hs⟩
        refine ⟨fun e => stay t2 m7 (fun hn _ => .inl (fun hv => ?_)), fun e => ⟨fun hlt => stay t2 m7 (fun _ h => ?_), fun hle => ?_⟩⟩
        · rcases m4 with y | y
          · rw [y.1] at e; exact absurd e n10
          · exact y.2 (hmay.mpr ⟨hn, hv.1⟩)
        · have := Int32.lt_iff_toInt_lt.mp hlt
          rw [nI_toInt (by omega), nI_toInt (by omega)] at this
          omega
        have hm : may c i 3 := by
          rcases m4 with y | y
          · exact y.2
          · exact absurd y.1 e
        obtain ⟨hn, hok⟩ := hmay.mp hm
        have hsrt := cdp_srt hn 3 (by omega)
        have hpu : (cdp (kE c) i 3).length ≤ u := by
          refine Nat.le_of_not_lt (fun z => hle (Int32.lt_iff_toInt_lt.mpr ?_))
          rw [nI_toInt (by omega), nI_toInt (by omega)]
          omega
        have take : (∀ b, o = some b → btr (kP c) (cdp (kE c) i 3) b) → nd_X6_findWiden_278 K (fun v1 v2 v3 v4 v5 c t => nd_X6_findWiden_27 K n v1 v2 v3 v4 v5 c t) lim (nI u) v3 (nI A) (nI i) v8 c t2 := fun hbt => by
          refine within6 hC hF hok hlen hl m5 (fun hwi t3 e1 e2 => ⟨fun q => absurd q n10, fun _ => ?_⟩) (fun hwi t3 e1 e2 => ⟨fun _ => stay t3 (e2.trans m7) (fun _ _ => .inl (fun hv => hwi hv.2)), fun q => absurd rfl q⟩)
          show ∃ n292 : Nat, nd_X6_findWiden_292 K (fun v1 v2 v3 v4 v5 c t => nd_X6_findWiden_27 K n v1 v2 v3 v4 v5 c t) n292 lim (nI u) v8 (nI A) (nI i) (nI 0) c t3
          refine upto (fun m j (t' : MT) => nd_X6_findWiden_292 K (fun v1 v2 v3 v4 v5 c t => nd_X6_findWiden_27 K n v1 v2 v3 v4 v5 c t) m lim (nI u) v8 (nI A) (nI i) (nI j) c t') (fun j t' => m_more t' = m_more t2 ∧ ∀ w, w < j → m_bestMore t' w = m_more t2 w) (kE c) 0 t3 (by omega) ⟨e1, fun w h => absurd h (by omega)⟩ ?_ ?_
          · rintro m t4 ⟨_, hc4⟩
            refine ⟨fun _ => ?_, fun h => absurd (show c_wires c ≤ nI (kE c) from by rw [← hC.ew]; exact Int32.le_refl _) h⟩
            show nd_X6_findWiden_27 K n lim (nI u) v8 (nI A) (nI i + 1) c t4
            rw [nI_1]
            exact hW (v8, some (cdp (kE c) i 3), t4) ⟨⟨m3, hsrt, hlen, fun w hw => by rw [hc4 w hw]; exact m5 w hw⟩, put6 hI hn hpu ⟨hok, hwi⟩ hbt⟩
          · rintro m j t4 hj _ ⟨h4, hc4⟩ hW'
            have v12 : vp_in (nI j) 12 := vi (by omega) (by omega)
            have cj : (nI j).toNatClampNeg = j := cl_ (by omega)
            refine ⟨fun h => absurd h (by rw [hC.ew]; exact nI_ge hj (by omega)), fun _ => ⟨v12, v12, ?_⟩⟩
            rw [cj, nI_1]
            refine hW' _ ⟨h4, fun w hw => ?_⟩
            show upd (m_bestMore t4) j (m_more t4 j) w = _
            by_cases q : w = j
            · subst q; rw [up_s, h4]
            · rw [up_n q]; exact hc4 w (by omega)
        cases o with
        | none => exact ⟨fun _ => take (fun b q => by cases q), fun q => absurd hb q⟩
        | some b =>
          obtain ⟨b1, b2, b3, b4⟩ := id hb
          have hbp := (prs_b hC.pr b2).1
          refine ⟨fun q => ?_, fun _ => ⟨fun q => take (fun b' e' => ?_), fun q => ⟨fun q2 => stay t2 m7 (fun _ _ => .inr ⟨b, rfl, ?_⟩), fun q2 => ?_⟩⟩⟩
          · rw [q, m1'] at b1; omega
          · injection e' with e'
            subst e'
            have := Int32.lt_iff_toInt_lt.mp q
            rw [m3, b1] at this
            exact .inl this
          · have q' : ¬ v8.toInt < v3.toInt := fun y => q (Int32.lt_iff_toInt_lt.mpr y)
            have q2' : ¬ v8.toInt = v3.toInt := fun y => q2 (i_inj y)
            rw [m3, b1] at q' q2'
            rintro (y | ⟨y, _⟩) <;> omega
          · have q2' := congrArg Int32.toInt q2
            rw [m3, b1] at q2'
            refine ahead6 hC hsrt b2 hlen b3 (nI_toInt (by omega)) m5 (fun w hw => by rw [m7]; exact b4 w hw) (fun y => ⟨fun e => absurd e n10, fun _ => take (fun b' e' => ?_)⟩) (fun y => ⟨fun _ => stay t2 m7 (fun _ _ => .inr ⟨b, rfl, ?_⟩), fun e => absurd rfl e⟩)
            · injection e' with e'
              subst e'
              exact .inr ⟨q2', y⟩
            · rintro (z | ⟨_, z⟩)
              · omega
              · exact y z
      · intro m k s hk _ hM hW'
        exact step6 hC (by omega) hk hM hW'
    · rintro m j t1 hj _ ⟨hz, hbm⟩ hW'
      have cj : (nI j).toNatClampNeg = j := cl_ (by omega)
      refine ⟨fun h => absurd h (by rw [hC.ew]; exact nI_ge hj (by omega)), fun _ => ⟨vi (by omega) (by omega), ?_⟩⟩
      rw [cj, nI_1]
      refine hW' _ ⟨fun w hw => ?_, hbm⟩
      show upd (m_more t1) j 0 w = 0
      by_cases q : w = j
      · subst q; rw [up_s]
      · rw [up_n q]; exact hz w (by omega)
end FW
section AW
variable {c : CS} {lim uu w : Int32}
def oP (f : Nat → Int) : Option (List Nat) → Int32
  | none => -1
  | some b => Int32.ofInt (prs f b)
def oR : Option (List Nat) → Nat → Int32
  | none, _ => -1
  | some b, w => Int32.ofInt (lc b w)
theorem u3 (h : (0 : Int32) ≤ uu ∧ uu ≤ (3 : Int32)) : ∃ u, u ≤ 3 ∧ uu = nI u := by
  have hr := rng h
  rw [i0', show (3 : Int32).toInt = 3 by decide] at hr
  have hv := nn_nI (v := uu) hr.1
  exact ⟨uu.toNatClampNeg, by omega, hv.1⟩
theorem l1000 (h : (0 : Int32) ≤ lim ∧ lim ≤ (1000 : Int32)) : 0 ≤ lim.toInt ∧ lim.toInt ≤ 1000 := by
  have hr := rng h
  rw [i0', show (1000 : Int32).toInt = 1000 by decide] at hr
  exact hr
theorem ag_widen (hC : CI c) : AGI c (fun x K => wp_X5_widen lim uu c x K) (fun t K => wp_X6_widen lim uu c t K) := by
  by_cases h1 : (0 : Int32) ≤ lim ∧ lim ≤ (1000 : Int32)
  case neg => exact AGI.mk' hC (-2) (fun x K hK => bw_ok (fun q => absurd q h1) (fun _ => ⟨fun _ => hK x, fun q => absurd rfl q⟩)) (fun t K hK => in_ok (fun q => absurd q h1) (fun _ => ⟨fun _ => hK t, fun q => absurd rfl q⟩))
  by_cases h2 : (0 : Int32) ≤ uu ∧ uu ≤ (3 : Int32)
  case neg => exact AGI.mk' hC (-2) (fun x K hK => bw_ok (fun _ => ⟨fun e => absurd e n10, fun _ => bw_ok (fun q => absurd q h2) (fun _ => ⟨fun q => absurd rfl q, fun _ => hK x⟩)⟩) (fun q => absurd h1 q)) (fun t K hK => in_ok (fun _ => ⟨fun e => absurd e n10, fun _ => in_ok (fun q => absurd q h2) (fun _ => ⟨fun q => absurd rfl q, fun _ => hK t⟩)⟩) (fun q => absurd h1 q))
  have hl := l1000 h1
  obtain ⟨u, hu, rfl⟩ := u3 h2
  obtain ⟨o, hI⟩ := best_is c lim u ((kE c + 1) * (kE c + 1) * (kE c + 1))
  have hI := inv_iff hI (cdV_all hu)
  have hx : ∀ {x : XT} {K : Int32 → CS → XT → Prop}, wp_X4_search lim (nI u) c x K → wp_X5_widen lim (nI u) c x K := fun h => bw_ok (fun _ => ⟨fun e => absurd e n10, fun _ => bw_ok (fun _ => ⟨fun _ => h, fun e => absurd e n10⟩) (fun q => absurd h2 q)⟩) (fun q => absurd h1 q)
  have hm : ∀ {t : MT} {K : Int32 → CS → MT → Prop}, wp_X6_isFed c t (fun r5 c5 t5 => (r5 = 0 → K (-3 : Int32) c5 t5) ∧ (¬ r5 = 0 → wp_X6_findWiden lim (nI u) c5 t5 (fun r7 c7 t7 => K r7 c7 t7))) → wp_X6_widen lim (nI u) c t K := fun h => in_ok (fun _ => ⟨fun e => absurd e n10, fun _ => in_ok (fun _ => ⟨fun _ => h, fun e => absurd e n10⟩) (fun q => absurd h2 q)⟩) (fun q => absurd h1 q)
  by_cases hF : FedC c
  case neg => exact AGI.mk' hC (-3) (fun x K hK => hx (search5 hC hl hu (fun q => absurd q hF) (fun _ x' => hK x'))) (fun t K hK => hm (fed_ok hC (fun q => absurd q hF) (fun _ => ⟨fun _ => hK t, fun q => absurd rfl q⟩)))
  refine AGI.mk' hC (oP (kP c) o) (fun x K hK => hx (search5 hC hl hu (fun _ x' o' hI' hb => ?_) (fun q => absurd hF q))) (fun t K hK => hm (fed_ok hC (fun _ => ⟨fun e => absurd e n10, fun _ => find6 hC hF hl hu (fun v3 t' o' hI' hb => ?_)⟩) (fun q => absurd hF q)))
  · have e := inv_uniq hI hI' (fun _ _ => Iff.rfl)
    subst e
    have : x_bestPrice x' = oP (kP c) o := by
      cases o with
      | none => exact hb
      | some b => exact i_is hb.1
    rw [this]
    exact hK x'
  · have e := inv_uniq hI hI' (fun _ _ => Iff.rfl)
    subst e
    have : v3 = oP (kP c) o := by
      cases o with
      | none => exact hb
      | some b => exact i_is hb.1
    rw [this]
    exact hK t'
theorem ag_widened (hC : CI c) : AGI c (fun x K => wp_X5_widened lim uu w c x K) (fun t K => wp_X6_widened lim uu w c t K) := by
  by_cases h1 : (0 : Int32) ≤ lim ∧ lim ≤ (1000 : Int32)
  case neg => exact AGI.mk' hC (-2) (fun x K hK => bw_ok (fun q => absurd q h1) (fun _ => ⟨fun _ => hK x, fun q => absurd rfl q⟩)) (fun t K hK => in_ok (fun q => absurd q h1) (fun _ => ⟨fun _ => hK t, fun q => absurd rfl q⟩))
  by_cases h2 : (0 : Int32) ≤ uu ∧ uu ≤ (3 : Int32)
  case neg => exact AGI.mk' hC (-2) (fun x K hK => bw_ok (fun _ => ⟨fun e => absurd e n10, fun _ => bw_ok (fun q => absurd q h2) (fun _ => ⟨fun _ => hK x, fun q => absurd rfl q⟩)⟩) (fun q => absurd h1 q)) (fun t K hK => in_ok (fun _ => ⟨fun e => absurd e n10, fun _ => in_ok (fun q => absurd q h2) (fun _ => ⟨fun _ => hK t, fun q => absurd rfl q⟩)⟩) (fun q => absurd h1 q))
  by_cases h3 : isN (kE c) w
  case neg => exact AGI.mk' hC (-2) (fun x K hK => bw_ok (fun _ => ⟨fun e => absurd e n10, fun _ => bw_ok (fun _ => ⟨fun e => absurd e n10, fun _ => wi5_0 hC h3 ⟨fun q => absurd rfl q, fun _ => hK x⟩⟩) (fun q => absurd h2 q)⟩) (fun q => absurd h1 q)) (fun t K hK => in_ok (fun _ => ⟨fun e => absurd e n10, fun _ => in_ok (fun _ => ⟨fun e => absurd e n10, fun _ => wi6_0 hC h3 ⟨fun q => absurd rfl q, fun _ => hK t⟩⟩) (fun q => absurd h2 q)⟩) (fun q => absurd h1 q))
  have hl := l1000 h1
  have h12 := hC.e12
  obtain ⟨u, hu, rfl⟩ := u3 h2
  obtain ⟨o, hI⟩ := best_is c lim u ((kE c + 1) * (kE c + 1) * (kE c + 1))
  have hI := inv_iff hI (cdV_all hu)
  have hx : ∀ {x : XT} {K : Int32 → CS → XT → Prop}, wp_X4_search lim (nI u) c x (fun r7 c7 x7 => (0 ≤ r7 → vp_in w 12 ∧ K (x_bestRow x7 w.toNatClampNeg) c7 x7) ∧ (¬ 0 ≤ r7 → K r7 c7 x7)) → wp_X5_widened lim (nI u) w c x K := fun h => bw_ok (fun _ => ⟨fun e => absurd e n10, fun _ => bw_ok (fun _ => ⟨fun e => absurd e n10, fun _ => wi5_1 hC h3 ⟨fun _ => h, fun e => absurd e n10⟩⟩) (fun q => absurd h2 q)⟩) (fun q => absurd h1 q)
  have hm : ∀ {t : MT} {K : Int32 → CS → MT → Prop}, wp_X6_isFed c t (fun r7 c7 t7 => (¬ r7 = 0 → wp_X6_findWiden lim (nI u) c7 t7 (fun r9 c9 t9 => (¬ r9 = (-1 : Int32) → vp_in w 12 ∧ K (m_bestMore t9 w.toNatClampNeg) c9 t9) ∧ (r9 = (-1 : Int32) → K (-1 : Int32) c9 t9))) ∧ (r7 = 0 → K (-3 : Int32) c7 t7)) → wp_X6_widened lim (nI u) w c t K := fun h => in_ok (fun _ => ⟨fun e => absurd e n10, fun _ => in_ok (fun _ => ⟨fun e => absurd e n10, fun _ => wi6_1 hC h3 ⟨fun _ => h, fun e => absurd e n10⟩⟩) (fun q => absurd h2 q)⟩) (fun q => absurd h1 q)
  have hneg : ∀ z : Int32, z.toInt < 0 → ¬ (0 : Int32) ≤ z := fun z hz q => by
    have := Int32.le_iff_toInt_le.mp q
    rw [i0'] at this
    omega
  by_cases hF : FedC c
  case neg => exact AGI.mk' hC (-3) (fun x K hK => hx (search5 hC hl hu (fun q => absurd q hF) (fun _ x' => ⟨fun q => absurd q (hneg _ (by decide)), fun _ => hK x'⟩))) (fun t K hK => hm (fed_ok hC (fun q => absurd q hF) (fun _ => ⟨fun q => absurd rfl q, fun _ => hK t⟩)))
  obtain ⟨w, hw, rfl⟩ := h3
  have cw : (nI w).toNatClampNeg = w := cl_ (by omega)
  have v12 : vp_in (nI w) 12 := vi (by omega) (by omega)
  refine AGI.mk' hC (oR o w) (fun x K hK => hx (search5 hC hl hu (fun _ x' o' hI' hb => ?_) (fun q => absurd hF q))) (fun t K hK => hm (fed_ok hC (fun _ => ⟨fun _ => find6 hC hF hl hu (fun v3 t' o' hI' hb => ?_), fun e => absurd e n10⟩) (fun q => absurd hF q)))
  · have e := inv_uniq hI hI' (fun _ _ => Iff.rfl)
    subst e
    rw [cw]
    cases o with
    | none =>
      have hb : x_bestPrice x' = (-1 : Int32) := hb
      rw [hb]
      exact ⟨fun q => absurd q (hneg _ (by decide)), fun _ => hK x'⟩
    | some b =>
      obtain ⟨b1, _, b3⟩ := hb
      have hbp := (prs_b hC.pr hI.2.1.1).1
      refine ⟨fun _ => ⟨v12, ?_⟩, fun q => absurd (Int32.le_iff_toInt_le.mpr (by rw [i0', b1]; exact hbp)) q⟩
      rw [i_is (b3 w (by omega))]
      exact hK x'
  · have e := inv_uniq hI hI' (fun _ _ => Iff.rfl)
    subst e
    rw [cw]
    cases o with
    | none => exact ⟨fun q => absurd hb q, fun _ => hK t'⟩
    | some b =>
      obtain ⟨b1, _, _, b3⟩ := hb
      have hbp := (prs_b hC.pr hI.2.1.1).1
      refine ⟨fun _ => ⟨v12, ?_⟩, fun q => ?_⟩
      · rw [i_is (b3 w hw)]
        exact hK t'
      · rw [q, m1'] at b1; omega
end AW
