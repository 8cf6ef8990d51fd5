/-! THE LAW: calls -/
theorem l_after {l : Launch} {T : xKd} {p : Program} {e : Env} {R : Room} {s : State} {m : MethodId} {args : Array Value} {below : List Frame} {meth : Method} {c : Code} {cells slots : Nat} {Q : State → Prop} {A : Nat → Prop} {D : va_G} {ad : Nat → Nat} {cA : Nat → ClassId} {H : Heap} {locs : List Loc} {ls : Array Slot} {pc : Nat} {st0 rest : List Value} {a : Array Value} {K : Option Value → xWd → Prop} {ω : xWd} {w2 : va_W} (hA : ∀ q, s.heap.size ≤ q → A q)
    (hr : va_Run p l e R s m args below meth c H locs cells slots 0 0 (F0 m pc ls st0) rest (xQ T D ad cA (xA ad T.1 H.size) K a) (xA ad T.1 H.size)) (hD : va_D A (xW ad cA T.1 ω)) (hS : va_S A s.heap H locs) (hP2 : va_P D vwCl w2 H) (hap : ∀ (k : Nat) (q : Nat × va_E), w2[k]? = some q → ∀ i, i < T.1 → ad i ≠ q.1)
    (kk : ∀ (v : Option Value) (ω' : xWd), K v ω' → ∀ (H1 : Heap) (locs1 : List Loc), va_P D vwCl (xW ad cA T.1 ω') H1 → va_P D vwCl w2 H1 → va_S A s.heap H1 locs1 → W p l e R s m args below meth c H1 locs1 cells slots Q (F0 m (pc + 3) ls ((v.map (xv ad)).toList ++ rest))) : W p l e R s m args below meth c H locs cells slots Q (F0 m pc ls st0) := by
  have hAA : ∀ q, xA ad T.1 H.size q → A q := fun q h => by
    rcases h with ⟨k, hk, rfl⟩ | h
    · exact xA_D hD hk
    · exact hA q (Nat.le_trans hS.1 h)
  intro X0 hT X
  obtain ⟨v, st₀, t, T', L, h0, X', hL, e1, e2, ⟨⟨v1, ω', hv, hk, hP1⟩, hz, hkp⟩, st⟩ := hr X0 hT X
  cases hv
  rw [h0] at hz hkp
  have hP2' : va_P D vwCl w2 T'.heap := hP2.kept (fun k q hq => by
    rw [e1]
    refine hkp q.1 ((hP2 k q hq).lt) (fun z => ?_)
    rcases z with ⟨i, hi, e⟩ | z
    · exact hap k q hq i hi e
    · have := (hP2 k q hq).lt
      omega)
  obtain ⟨t2, a1, b1⟩ := kk v1 ω' hk T'.heap (locs ++ L) (by rw [e1]; exact hP1) hP2'
    ⟨Nat.le_trans hS.1 (by rw [e1]; exact hz), fun q h1 h2 => by rw [e1, hkp q (Nat.lt_of_lt_of_le h1 hS.1) (fun z => h2 (hAA q z))]; exact hS.2.1 q h1 h2, fun q hq => by
      rcases List.mem_append.mp hq with h | h
      · exact hS.2.2 q h
      · exact hAA _ (hL q h)⟩ T' rfl X'
  exact ⟨t2, st t2 a1, b1⟩
section LCALL
variable {l : Launch} {pc : Nat} {lv : List (Nat × Value)} {st : List Value} {c1 c2 : CS} {x : XT} {t : MT}
theorem xv_cats (ad : Nat → Nat) (st : List Value) : (st.map (xv ad)).map (fun v => v.category) = st.map (fun v => v.category) := by
  rw [List.map_map]
  exact List.map_congr_left (fun v _ => xv_cat ad v)
set_option maxHeartbeats 1000000 in
theorem lr_callX (κ : LC) (as : List Value) {y : MethodName} {bytes : ByteArray} {mL n dc ix : Nat} {ret' : Option FieldType} {Kp : Option Value → xWd → Prop} (hlk : Cond.methodLink R_law ix y ∈ xB) (hL : xTgtV y bytes mL ret' n) (hM : XM l xTX y bytes mL ret' dc (.ref 0 :: as) (wX c1 x) Kp) (has : ∀ ad, as.map (xv ad) = as) (hn : as.length = n) (hdc : dc ≤ 100) (hmL : mL ≤ 21) (hq : RX5 = y.cls) (hcat : (st.map fun v => v.category).sum ≤ 8) (hd : decode code pc = .ok (.invokevirtual ix, 3))
    (kk : ∀ v ω', Kp v ω' → ∃ w c' x', v = some w ∧ (∀ ad, xv ad w = w) ∧ ω' = wX c' x' ∧ LW l κ (pc + 3) lv (w :: st) c' x' c2 t) : LW l κ pc lv (as.reverse ++ .ref 1 :: st) c1 x c2 t := by
  obtain ⟨⟨⟨p, e⟩, ⟨s, m, below⟩, ⟨meth, c⟩, ⟨cells, slots⟩, ⟨D, adx, cAx, adm, cAm⟩, ⟨b, L, xs⟩⟩, ⟨hx, hb, hml, hr, hts, hown, hlocks⟩, hK1, hK2, hDD, hX, hcs⟩ := κ
  intro H locs ls hP1 hP2 hS hl
  have hD1 : va_D (fun q => s.heap.size ≤ q) (xW adx cAx 85 (wX c1 x)) := xD_any hDD.1
  refine l_after (T := xTX) (D := D) (ad := adx) (cA := cAx) (ω := wX c1 x) (w2 := xW adm cAm 19 (wM c2 t)) (rest := st.map (xv (la b (adx 0) (adm 0)))) (fun q h => h) (va_runV (b := adx 0) (As := as.map (xv adx)) (nL := 4) ⟨hx, hb, hml, hown, hts⟩ (hM D adx cAx H.size) ⟨callB_of n hts (xw_good hL.1.2.1) rfl rfl rfl (hts _ hL.1.1) (hts _ hlk) hL.1.2.2 ⟨by show dc + 1 ≤ 2048; omega, by show 8 + (mL + 11) + 40 * dc ≤ 84000; omega⟩, hts _ hL.2.1, hts _ hL.2.2⟩ ⟨xPc_blind, ?_, fun U hU hW => ⟨rfl, by rw [hU], by rw [hU]; exact hP1, hK1.warm hW, ⟨hD1.1, fun _ _ _ => trivial⟩⟩⟩ rfl (by rw [List.length_map]; exact hn) hl.1 ?_ (lv_room (by rw [xv_cats]; exact hcat)) hd ⟨hcs.1, hcs.2⟩) hD1 hS hP2 (fun k q hk i hi => ?_) (fun v ω' hk H1 locs1 hP1' hP2' hS' => ?_)
  · have h := va_recv hK1.nil hP1 (ci := 5) (q0 := 0) (a := adx 0) (fs := xFs.map (xv adx)) (q := (RX5, TX5, 6)) rfl (by rw [xW_get (by omega)]; rfl)
    rw [← hq]
    exact h
  · show List.map _ (as.reverse ++ .ref 1 :: st) = _
    rw [List.map_append, List.map_reverse, has, has]
    rfl
  · obtain ⟨h1, h2⟩ := xW_some hk
    rw [h2]
    exact hDD.2.2 i k hi h1
  · obtain ⟨w, c', x', e1, e2, e3, hW⟩ := kk v ω' hk
    subst e1
    subst e3
    have := hW H1 locs1 ls hP1' hP2' hS' hl
    show W p l e room_1 s m #[Value.ref b] below meth c H1 locs1 cells slots (lw_Z below #[Value.ref b] s) (F0 m (pc + 3) ls (xv adx w :: st.map _))
    rw [e2]
    have e4 : (w :: st).map (xv (la b (adx 0) (adm 0))) = w :: st.map (xv (la b (adx 0) (adm 0))) := by rw [List.map_cons, e2]
    rw [e4] at this
    exact this
set_option maxHeartbeats 1000000 in
theorem lr_callM (κ : LC) (as : List Value) {y : MethodName} {bytes : ByteArray} {mL n dc ix : Nat} {ret' : Option FieldType} {Kp : Option Value → xWd → Prop} (hlk : Cond.methodLink R_law ix y ∈ xB) (hL : xTgtV y bytes mL ret' n) (hM : XM l xTM y bytes mL ret' dc (.ref 0 :: as) (wM c2 t) Kp) (has : ∀ ad, as.map (xv ad) = as) (hn : as.length = n) (hdc : dc ≤ 100) (hmL : mL ≤ 21) (hq : RX6 = y.cls) (hcat : (st.map fun v => v.category).sum ≤ 8) (hd : decode code pc = .ok (.invokevirtual ix, 3))
    (kk : ∀ v ω', Kp v ω' → ∃ w c' t', v = some w ∧ (∀ ad, xv ad w = w) ∧ ω' = wM c' t' ∧ LW l κ (pc + 3) lv (w :: st) c1 x c' t') : LW l κ pc lv (as.reverse ++ .ref 2 :: st) c1 x c2 t := by
  obtain ⟨⟨⟨p, e⟩, ⟨s, m, below⟩, ⟨meth, c⟩, ⟨cells, slots⟩, ⟨D, adx, cAx, adm, cAm⟩, ⟨b, L, xs⟩⟩, ⟨hx, hb, hml, hr, hts, hown, hlocks⟩, hK1, hK2, hDD, hX, hcs⟩ := κ
  intro H locs ls hP1 hP2 hS hl
  have hD2 : va_D (fun q => s.heap.size ≤ q) (xW adm cAm 19 (wM c2 t)) := xD_any hDD.2.1
  refine l_after (T := xTM) (D := D) (ad := adm) (cA := cAm) (ω := wM c2 t) (w2 := xW adx cAx 85 (wX c1 x)) (rest := st.map (xv (la b (adx 0) (adm 0)))) (fun q h => h) (va_runV (b := adm 0) (As := as.map (xv adm)) (nL := 4) ⟨hx, hb, hml, hown, hts⟩ (hM D adm cAm H.size) ⟨callB_of n hts (xw_good hL.1.2.1) rfl rfl rfl (hts _ hL.1.1) (hts _ hlk) hL.1.2.2 ⟨by show dc + 1 ≤ 2048; omega, by show 8 + (mL + 11) + 40 * dc ≤ 84000; omega⟩, hts _ hL.2.1, hts _ hL.2.2⟩ ⟨xPc_blind, ?_, fun U hU hW => ⟨rfl, by rw [hU], by rw [hU]; exact hP2, hK2.warm hW, ⟨hD2.1, fun _ _ _ => trivial⟩⟩⟩ rfl (by rw [List.length_map]; exact hn) hl.1 ?_ (lv_room (by rw [xv_cats]; exact hcat)) hd ⟨hcs.1, hcs.2⟩) hD2 hS hP1 (fun k q hk i hi => ?_) (fun v ω' hk H1 locs1 hP1' hP2' hS' => ?_)
  · have h := va_recv hK2.nil hP2 (ci := 6) (q0 := 0) (a := adm 0) (fs := (mFs c2 t).map (xv adm)) (q := (RX6, TX6, 26)) rfl (by rw [xW_get (by omega)]; rfl)
    rw [← hq]
    exact h
  · show List.map _ (as.reverse ++ .ref 2 :: st) = _
    rw [List.map_append, List.map_reverse, has, has]
    rfl
  · obtain ⟨h1, h2⟩ := xW_some hk
    rw [h2]
    exact fun z => hDD.2.2 k i h1 hi z.symm
  · obtain ⟨w, c', t', e1, e2, e3, hW⟩ := kk v ω' hk
    subst e1
    subst e3
    have := hW H1 locs1 ls hP2' hP1' hS' hl
    show W p l e room_1 s m #[Value.ref b] below meth c H1 locs1 cells slots (lw_Z below #[Value.ref b] s) (F0 m (pc + 3) ls (xv adm w :: st.map _))
    rw [e2]
    have e4 : (w :: st).map (xv (la b (adx 0) (adm 0))) = w :: st.map (xv (la b (adx 0) (adm 0))) := by rw [List.map_cons, e2]
    rw [e4] at this
    exact this
end LCALL
