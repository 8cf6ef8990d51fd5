/-! WIDENED: the class's search -/
def TI (c : CS) (lim : Int32) (u : Nat) (x : XT) (p : List Nat) (o : Option (List Nat)) : Prop := x_limit x = lim ∧ x_umost x = nI u ∧ (∀ q, q <:+ p → SAw c q (x_bal x (2 + q.length)) ∧ (q.length < u → SCw c q (x_bal x (2 + q.length)))) ∧ (∀ w, w < 12 → (x_row x w).toInt = lc p w) ∧ bstX c x o
def vlw (c : CS) (lim : Int32) (l : List Nat) : Prop := okw c l ∧ wi c lim.toInt l
theorem inv_iff {f : Nat → Int} {vl V W : List Nat → Prop} {o : Option (List Nat)} (h : InvB f vl o V) (e : ∀ l, V l ↔ W l) : InvB f vl o W := by
  have : V = W := funext (fun l => propext (e l))
  rw [← this]; exact h
theorem prs_b {f : Nat → Int} {E : Nat} (hf : ∀ w, w < E → 1 ≤ f w ∧ f w ≤ 100) : ∀ {l : List Nat}, srt E l → 0 ≤ prs f l ∧ prs f l ≤ 100 * l.length
  | [], _ => by show 0 ≤ (0 : Int) ∧ (0 : Int) ≤ _; simp
  | a :: p, h => by
    have ih := prs_b hf h.2.2
    have := hf a h.1
    show 0 ≤ prs f p + f a ∧ prs f p + f a ≤ 100 * ((p.length + 1 : Nat) : Int)
    omega
theorem lc_zero {E : Nat} : ∀ {l : List Nat}, srt E l → ∀ w, E ≤ w → lc l w = 0
  | [], _, _, _ => rfl
  | a :: p, h, w, hw => by
    have ih := lc_zero h.2.2 w hw
    have := h.1
    show lc p w + (if w = a then 1 else 0) = 0
    rw [ih, if_neg (by omega)]; rfl
section TR
variable {c : CS} {lim : Int32} {u : Nat}
theorem CI.pr (hC : CI c) : ∀ w, w < kE c → 1 ≤ kP c w ∧ kP c w ≤ 100 := fun w hw => (hC.2.2.1 w hw).2.2.2.2
set_option maxHeartbeats 2000000 in
theorem try5 (hC : CI c) (hF : FedC c) (hl : 0 ≤ lim.toInt ∧ lim.toInt ≤ 1000) (hu : u ≤ 3) : ∀ (n : Nat) (p : List Nat) (x : XT) (o : Option (List Nat)) (V : List Nat → Prop) (pr : Int32) (K : CS → XT → Prop), u + 1 ≤ p.length + n → srt (kE c) p → p.length ≤ u → okw c p → pr.toInt = prs (kP c) p → TI c lim u x p o → InvB (kP c) (vlw c lim) o V → (∀ v, V v → srt (kE c) v) → (∀ l, Ext (kE c) u p l → ∀ v, V v → v.length = l.length → bef v l) → (∀ x' o', TI c lim u x' p o' → InvB (kP c) (vlw c lim) o' (fun l => V l ∨ Ext (kE c) u p l) → K c x') → wr_X4_tryFrom n (nI (hd p)) (nI p.length) pr c x K
  | 0, p, _, _, _, _, _, h, _, h2, _, _, _, _, _, _, _ => by omega
  | n + 1, p, x, o, V, pr, K, hn, hs, hpu, hok, hpr, hT, hI, hV, hB, hK => by
    have h12 := hC.e12
    have hpp : ∀ {o : Option (List Nat)} {W : List Nat → Prop}, (∀ v, W v → srt (kE c) v) → InvB (kP c) (vlw c lim) o W → ∀ b, o = some b → 0 ≤ prs (kP c) b := fun hW hI b e => by
      subst e
      exact (prs_b hC.pr (hW b hI.2.1)).1
    have hprb := prs_b hC.pr hs
    obtain ⟨t1, t2, t3, t4, t5⟩ := id hT
    have hneg : ¬ nI p.length < (0 : Int32) := fun q => by
      have := Int32.lt_iff_toInt_lt.mp q
      rw [nI_toInt (by omega), i0'] at this
      omega
    have hle3 : nI p.length ≤ (3 : Int32) := by
      rw [Int32.le_iff_toInt_le, nI_toInt (by omega), show (3 : Int32).toInt = 3 by decide]; omega
    have hum : ¬ x_umost x < nI p.length := fun q => by
      rw [t2, Int32.lt_iff_toInt_lt, nI_toInt (by omega), nI_toInt (by omega)] at q
      omega
    have hself := t3 p (List.suffix_refl p)
    -- after the row itself was looked at
    have rest : ∀ x' o', TI c lim u x' p o' → InvB (kP c) (vlw c lim) o' (fun l => V l ∨ l = p) → nd_X4_tryFrom_41 (wr_X4_tryFrom n) K (nI (hd p)) (nI p.length) pr c x' := fun x' o' hT' hI' => by
      obtain ⟨s1, s2, s3, s4, s5⟩ := id hT'
      by_cases hmu : p.length = u
      · refine ⟨fun q => absurd (by rw [s2, hmu]) q, fun _ => hK x' o' hT' (inv_iff hI' (fun l => ⟨fun z => ?_, fun z => ?_⟩))⟩
        · rcases z with z | z
          · exact .inl z
          · subst z; exact .inr (Ext_self hs hpu)
        · rcases z with z | z
          · exact .inl z
          · exact .inr (Ext_full z hmu)
      refine ⟨fun _ => ?_, fun q => absurd (by rw [s2] at q; exact (nI_eq (by omega) (by omega)).mp q) hmu⟩
      have hhd : hd p ≤ kE c := by
        cases p with
        | nil => exact Nat.zero_le _
        | cons a q => exact Nat.le_of_lt hs.1
      refine upto (fun k w (s : XT × Option (List Nat)) => nd_X4_tryFrom_53 (wr_X4_tryFrom n) K k (nI p.length) pr (nI w) c s.1) (fun w s => TI c lim u s.1 p s.2 ∧ InvB (kP c) (vlw c lim) s.2 (fun l => V l ∨ l = p ∨ ∃ w', w' < w ∧ Ext (kE c) u (w' :: p) l)) (kE c) (hd p) (x', o') hhd ⟨hT', inv_iff hI' (fun l => ⟨fun z => ?_, fun z => ?_⟩)⟩ ?_ ?_
      · rcases z with z | z
        · exact .inl z
        · exact .inr (.inl z)
      · rcases z with z | z | ⟨w', z1, s, z2, z3, _⟩
        · exact .inl z
        · exact .inr z
        · have := srt_hd (srt_app (s := s) (by rw [← z2]; exact z3))
          omega
      · rintro k ⟨x1, o1⟩ ⟨hT1, hI1⟩
        refine ⟨fun _ => hK x1 o1 hT1 (inv_iff hI1 (fun l => ⟨fun z => ?_, fun z => ?_⟩)), fun q => absurd (show c_wires c ≤ nI (kE c) from by rw [← hC.ew]; exact Int32.le_refl _) q⟩
        · rcases z with z | z | ⟨w', _, z⟩
          · exact .inl z
          · subst z; exact .inr (Ext_self hs hpu)
          · exact .inr (Ext_up z)
        · rcases z with z | z
          · exact .inl z
          · rcases Ext_cases z with y | ⟨w', y1, _, y2⟩
            · exact .inr (.inl y)
            · exact .inr (.inr ⟨w', y1, y2⟩)
      · rintro k w ⟨x1, o1⟩ hw hhw ⟨hT1, hI1⟩ hW
        have hsw : srt (kE c) (w :: p) := srt_up hs hw hhw
        obtain ⟨r1, r2, r3, r4, r5⟩ := id hT1
        have hVw : ∀ v, (V v ∨ v = p ∨ ∃ w', w' < w ∧ Ext (kE c) u (w' :: p) v) → srt (kE c) v := fun v z => by
          rcases z with z | z | ⟨w', _, _, _, z, _⟩
          · exact hV v z
          · subst z; exact hs
          · exact z
        have hpw := hC.pr w hw
        have hprw : (pr + c_price c w).toInt = prs (kP c) (w :: p) := i_add hpr rfl (by show -2000000000 ≤ prs (kP c) p + kP c w; omega) (by show prs (kP c) p + kP c w ≤ 2000000000; omega)
        have v12 : vp_in (nI w) 12 := vi (by omega) (by omega)
        have cw : (nI w).toNatClampNeg = w := cl_ (by omega)
        have hwiff : ∀ l, (V l ∨ l = p ∨ ∃ w', w' < w + 1 ∧ Ext (kE c) u (w' :: p) l) ↔ ((V l ∨ l = p ∨ ∃ w', w' < w ∧ Ext (kE c) u (w' :: p) l) ∨ Ext (kE c) u (w :: p) l) := fun l => by
          constructor
          · rintro (z | z | ⟨w', z1, z2⟩)
            · exact .inl (.inl z)
            · exact .inl (.inr (.inl z))
            · by_cases e : w' = w
              · subst e; exact .inr z2
              · exact .inl (.inr (.inr ⟨w', by omega, z2⟩))
          · rintro ((z | z | ⟨w', z1, z2⟩) | z)
            · exact .inl z
            · exact .inr (.inl z)
            · exact .inr (.inr ⟨w', by omega, z2⟩)
            · exact .inr (.inr ⟨w, by omega, z⟩)
        have hskip : ∀ (hn : o1 = none → ∀ l, Ext (kE c) u (w :: p) l → ¬ vlw c lim l) (hs' : ∀ b, o1 = some b → ∀ l, Ext (kE c) u (w :: p) l → ¬ vlw c lim l ∨ ¬ btr (kP c) l b), nd_X4_tryFrom_53 (wr_X4_tryFrom n) K k (nI p.length) pr (nI w + 1) c x1 := fun hn hs' => by
          rw [nI_1]
          refine hW (x1, o1) ⟨hT1, inv_more hI1 (fun l z => (hwiff l).mpr (.inl z)) (fun e l z => ?_) (fun b e l z => ?_)⟩
          · rcases (hwiff l).mp z with y | y
            · exact .inl y
            · exact .inr (hn e l y)
          · rcases (hwiff l).mp z with y | y
            · exact .inl y
            · exact .inr (hs' b e l y)
        refine ⟨fun q => absurd q (by rw [hC.ew]; exact nI_ge hw (by omega)), fun _ => ⟨v12, ?_⟩⟩
        show wp_X4_isTooDear (pr + c_price c (nI w).toNatClampNeg) c x1 _
        rw [cw]
        refine dear5 r5 (hpp hVw hI1) hprw (fun b (hb : o1 = some b) hlt => ⟨fun _ => ?_, fun e => absurd e n10⟩) (fun hge => ⟨fun q => absurd rfl q, fun _ => ?_⟩)
        · refine hskip (fun e => by rw [hb] at e; cases e) (fun b' hb' l hl' => .inr ?_)
          rw [hb] at hb'
          injection hb' with hb'
          subst hb'
          obtain ⟨s, e, z, _⟩ := hl'
          have hge := prs_app (f := kP c) (fun w hw => (hC.pr w hw).1) (s := s) (p := w :: p) (by rw [← e]; exact z)
          rw [← e] at hge
          rintro (y | ⟨y, _⟩) <;> omega
        · have hs1 := r3 p (List.suffix_refl p)
          refine step5 hC hF hok (u := u) (by omega) hu r2 hw (r4 w (by omega)) hs1.1 (hs1.2 (by omega)) (fun hok' b' hA' hC' => ⟨fun e => absurd e n10, fun _ => ⟨v12, v12, ?_⟩⟩) (fun hno => ⟨fun _ => ?_, fun q => absurd rfl q⟩)
          · rw [nI_1]
            have hx2 : ∀ q, q <:+ w :: p → SAw c q (x_bal (xsb x1 (2 + (p.length + 1)) b') (2 + q.length)) ∧ (q.length < u → SCw c q (x_bal (xsb x1 (2 + (p.length + 1)) b') (2 + q.length))) := fun q hq => by
              rcases List.suffix_cons_iff.mp hq with e | e
              · rw [e]
                show SAw c (w :: p) (x_bal (xsb x1 (2 + (p.length + 1)) b') (2 + (p.length + 1))) ∧ (p.length + 1 < u → SCw c (w :: p) (x_bal (xsb x1 (2 + (p.length + 1)) b') (2 + (p.length + 1))))
                rw [xsb_get]
                exact ⟨hA', hC'⟩
              · have hlen := e.length_le
                rw [xsb_ne x1 b' (by omega)]
                exact r3 q e
            refine try5 hC hF hl hu n (w :: p) (xs_row (xsb x1 (2 + (p.length + 1)) b') (upd (x_row x1) w (x_row x1 w + 1))) o1 (fun l => V l ∨ l = p ∨ ∃ w', w' < w ∧ Ext (kE c) u (w' :: p) l) (pr + c_price c w) _ (by show u + 1 ≤ p.length + 1 + n; omega) hsw (by show p.length + 1 ≤ u; omega) hok' hprw ⟨r1, r2, hx2, fun v hv => ?_, ?_⟩ hI1 hVw (fun l hl' v hv e => ?_) (fun x2 o2 hT2 hI2 => ?_)
            · show (upd (x_row x1) w (x_row x1 w + 1) v).toInt = lc p v + (if v = w then 1 else 0)
              by_cases e : v = w
              · subst e
                rw [up_s, if_pos rfl]
                have := lc_nn p v
                exact i_add (r4 v hv) i1' (by omega) (by omega)
              · rw [up_n e, if_neg e, r4 v hv]; omega
            · cases o1 <;> exact r5
            · rcases hv with z | z | ⟨w', z1, z2⟩
              · exact hB l (Ext_up hl') v z e
              · have := Ext_len hl'
                rw [z] at e
                have : p.length + 1 ≤ l.length := this
                omega
              · exact Ext_bef z2 hl' (.inr ⟨rfl, z1⟩) rfl e
            · obtain ⟨q1, q2, q3, q4, q5⟩ := hT2
              refine ⟨v12, v12, ?_⟩
              show nd_X4_tryFrom_53 (wr_X4_tryFrom n) K k (nI p.length) pr (nI w + 1) c _
              rw [nI_1]
              refine hW (xs_row x2 (upd (x_row x2) w (x_row x2 w - 1)), o2) ⟨⟨q1, q2, fun q hq => q3 q (hq.trans (List.suffix_cons w p)), fun v hv => ?_, by cases o2 <;> exact q5⟩, inv_iff hI2 (fun l => (hwiff l).symm)⟩
              show (upd (x_row x2) w (x_row x2 w - 1) v).toInt = lc p v
              have q4v : (x_row x2 v).toInt = lc p v + (if v = w then 1 else 0) := q4 v hv
              by_cases e : v = w
              · subst e
                rw [if_pos rfl] at q4v
                rw [up_s]
                have := lc_nn p v
                rw [i_sub q4v i1' (by omega) (by omega)]; omega
              · rw [if_neg e] at q4v
                rw [up_n e, q4v]; omega
          · refine hskip (fun _ l hl' hv => ?_) (fun b _ l hl' => .inl (fun hv => ?_))
            · obtain ⟨s, e, _⟩ := hl'
              exact hno (okw_app (s := s) (by rw [← e]; exact hv.1))
            · obtain ⟨s, e, _⟩ := hl'
              exact hno (okw_app (s := s) (by rw [← e]; exact hv.1))
    show wq_X4_tryFrom (wr_X4_tryFrom n) (nI (hd p)) (nI p.length) pr c x K
    unfold wq_X4_tryFrom
    rw [cl_ (by omega)]
    refine ⟨fun q => absurd q hneg, fun _ => ⟨fun q => absurd q hum, fun _ => ⟨fun _ => ⟨vi (by omega) (by omega), ?_⟩, fun q => absurd hle3 q⟩⟩⟩
    refine within5 hC hF hok hself.1 (by rw [t1]; exact hl) (fun hwi => ⟨fun e => absurd e n10, fun _ => ?_⟩) (fun hwi => ⟨fun _ => ?_, fun q => absurd rfl q⟩)
    · rw [t1] at hwi
      refine keep5 t5 (hpp hV hI) (by rw [nI_toInt (by omega)]) hpr t4 (fun hbt x' he hb' => ?_) (fun b hb hno => ?_)
      · obtain ⟨e1, e2, e3, e4, e5, -⟩ := he
        refine rest x' (some p) ⟨by rw [e4]; exact t1, by rw [e5]; exact t2, by rw [e2]; exact t3, by rw [e3]; exact t4, hb'⟩ (inv_new hI ⟨hok, hwi⟩ (fun l => Iff.rfl) (fun b hb => ?_))
        rw [hb] at hbt
        exact hbt
      · refine rest x o hT ?_
        subst hb
        exact inv_old hI (fun l => Iff.rfl) (fun v hv e => hB p (Ext_self hs hpu) v hv e) hno
    · rw [t1] at hwi
      refine rest x o hT (inv_more hI (fun l z => .inl z) (fun _ l z => ?_) (fun b _ l z => ?_))
      · rcases z with z | z
        · exact .inl z
        · subst z; exact .inr (fun hv => hwi hv.2)
      · rcases z with z | z
        · exact .inl z
        · subst z; exact .inr (.inl (fun hv => hwi hv.2))
end TR
