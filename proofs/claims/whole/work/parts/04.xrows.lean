theorem xlv_at {ad : Nat → Nat} {ls : Array Slot} {nL : Nat} {lv : List (Nat × Value)} (h : lv_has ls nL (lv.map (fun q => (q.1, xv ad q.2)))) (j : Nat) {i : Nat} {v : Value} (hj : lv[j]? = some (i, v)) : ls[i]? = some (.val (xv ad v)) := lv_at h j (by rw [List.getElem?_map, hj]; rfl)
theorem xpickm (ad : Nat → Nat) (lv : List (Nat × Value)) : ∀ ks : List Nat, lv_pick (lv.map (fun q => (q.1, xv ad q.2))) ks = (lv_pick lv ks).map (fun q => (q.1, xv ad q.2))
  | [] => rfl
  | a :: t => by
    have ih := xpickm ad lv t
    unfold lv_pick at ih ⊢
    rw [List.filterMap_cons, List.filterMap_cons, List.getElem?_map, ih]
    cases lv[a]? <;> rfl
theorem xlv_pick {ad : Nat → Nat} {ls : Array Slot} {nL : Nat} {lv lv' : List (Nat × Value)} (h : lv_has ls nL (lv.map (fun q => (q.1, xv ad q.2)))) (ks : List Nat) (hl : lv_pick lv ks = lv') : lv_has ls nL (lv'.map (fun q => (q.1, xv ad q.2))) := lv_sub h ks (by rw [xpickm, hl])
theorem xflt (P : Nat × Value → Bool) {ad : Nat → Nat} (hP : ∀ q, P (q.1, xv ad q.2) = P q) : ∀ lv : List (Nat × Value), (lv.map (fun q => (q.1, xv ad q.2))).filter P = (lv.filter P).map (fun q => (q.1, xv ad q.2))
  | [] => rfl
  | q :: t => by
    rw [List.map_cons, List.filter_cons, List.filter_cons, hP, xflt P hP t]
    split <;> rfl
theorem xst1 {ad : Nat → Nat} {ls : Array Slot} {nL i : Nat} {v : Value} {lv lv' : List (Nat × Value)} (ks : List Nat) (h : lv_has ls nL ((i, xv ad v) :: (lv.map (fun q => (q.1, xv ad q.2))).filter (fun q => !(q.1 == i) && !(q.1 + 1 == i && q.2.category == 2)))) (hl : lv_pick ((i, v) :: lv.filter (fun q => !(q.1 == i) && !(q.1 + 1 == i && q.2.category == 2))) ks = lv') : lv_has ls nL (lv'.map (fun q => (q.1, xv ad q.2))) := by
  rw [xflt _ (fun q => by rw [xv_cat])] at h
  exact xlv_pick (lv := (i, v) :: lv.filter _) h ks hl
theorem xst2 {ad : Nat → Nat} {ls : Array Slot} {nL i : Nat} {v : Value} {lv lv' : List (Nat × Value)} (ks : List Nat) (h : lv_has ls nL ((i, xv ad v) :: (lv.map (fun q => (q.1, xv ad q.2))).filter (fun q => !(q.1 == i) && (!(q.1 == i + 1) && !(q.1 + 1 == i && q.2.category == 2))))) (hl : lv_pick ((i, v) :: lv.filter (fun q => !(q.1 == i) && (!(q.1 == i + 1) && !(q.1 + 1 == i && q.2.category == 2)))) ks = lv') : lv_has ls nL (lv'.map (fun q => (q.1, xv ad q.2))) := by
  rw [xflt _ (fun q => by rw [xv_cat])] at h
  exact xlv_pick (lv := (i, v) :: lv.filter _) h ks hl
set_option maxHeartbeats 1000000 in
theorem xr_sub {l : Launch} {T : xKd} {cc : ByteArray} {own : String} {nL : Nat} {ret : Option FieldType} {d : Nat} (κ : XC l T cc own nL ret d) {pc : Nat} {lv : List (Nat × Value)} {st : List Value} {ω : xWd} (ks : List Nat) {lv' : List (Nat × Value)} (hlv : lv_pick lv ks = lv') (k : Wat κ pc lv' st ω) : Wat κ pc lv st ω := by
  obtain ⟨⟨⟨p, e, R⟩, ⟨s, m, args, below⟩, ⟨meth, c, cells, slots⟩, ⟨Q, A⟩, ⟨D, ad, cA⟩⟩, ⟨hx, hb, hml, hr, hts, hown, hlocks⟩, hK, hA, hroom⟩ := κ
  intro H locs ls hP hD hS hl
  exact k H locs ls hP hD hS (xlv_pick hl ks hlv)
set_option maxHeartbeats 1000000 in
theorem xr_iconst {l : Launch} {T : xKd} {cc : ByteArray} {own : String} {nL : Nat} {ret : Option FieldType} {d : Nat} (κ : XC l T cc own nL ret d) {pc : Nat} {lv : List (Nat × Value)} {st : List Value} {ω : xWd} {n : Int} {v : Int32} (hd : decode cc pc = .ok (.iconst n, 1)) (hv : Int32.ofInt n = v) (k : Wat κ (pc + 1) lv (.int v :: st) ω) : Wat κ pc lv st ω := by
  obtain ⟨⟨⟨p, e, R⟩, ⟨s, m, args, below⟩, ⟨meth, c, cells, slots⟩, ⟨Q, A⟩, ⟨D, ad, cA⟩⟩, ⟨hx, hb, hml, hr, hts, hown, hlocks⟩, hK, hA, hroom⟩ := κ
  intro H locs ls hP hD hS hl
  exact lv_iconst hx hb hd hv (k H locs ls hP hD hS hl)
set_option maxHeartbeats 1000000 in
theorem xr_bipush {l : Launch} {T : xKd} {cc : ByteArray} {own : String} {nL : Nat} {ret : Option FieldType} {d : Nat} (κ : XC l T cc own nL ret d) {pc : Nat} {lv : List (Nat × Value)} {st : List Value} {ω : xWd} {n : Int} {v : Int32} (hd : decode cc pc = .ok (.bipush n, 2)) (hv : (Int8.ofInt n).toInt32 = v) (k : Wat κ (pc + 2) lv (.int v :: st) ω) : Wat κ pc lv st ω := by
  obtain ⟨⟨⟨p, e, R⟩, ⟨s, m, args, below⟩, ⟨meth, c, cells, slots⟩, ⟨Q, A⟩, ⟨D, ad, cA⟩⟩, ⟨hx, hb, hml, hr, hts, hown, hlocks⟩, hK, hA, hroom⟩ := κ
  intro H locs ls hP hD hS hl
  exact lv_bipush hx hb hd hv (k H locs ls hP hD hS hl)
set_option maxHeartbeats 1000000 in
theorem xr_sipush {l : Launch} {T : xKd} {cc : ByteArray} {own : String} {nL : Nat} {ret : Option FieldType} {d : Nat} (κ : XC l T cc own nL ret d) {pc : Nat} {lv : List (Nat × Value)} {st : List Value} {ω : xWd} {n : Int} {v : Int32} (hd : decode cc pc = .ok (.sipush n, 3)) (hv : (Int16.ofInt n).toInt32 = v) (k : Wat κ (pc + 3) lv (.int v :: st) ω) : Wat κ pc lv st ω := by
  obtain ⟨⟨⟨p, e, R⟩, ⟨s, m, args, below⟩, ⟨meth, c, cells, slots⟩, ⟨Q, A⟩, ⟨D, ad, cA⟩⟩, ⟨hx, hb, hml, hr, hts, hown, hlocks⟩, hK, hA, hroom⟩ := κ
  intro H locs ls hP hD hS hl
  exact lv_sipush hx hb hd hv (k H locs ls hP hD hS hl)
set_option maxHeartbeats 1000000 in
theorem xr_lconst {l : Launch} {T : xKd} {cc : ByteArray} {own : String} {nL : Nat} {ret : Option FieldType} {d : Nat} (κ : XC l T cc own nL ret d) {pc : Nat} {lv : List (Nat × Value)} {st : List Value} {ω : xWd} {n : Fin 2} {v : Int64} (hd : decode cc pc = .ok (.lconst n, 1)) (hv : Int64.ofNat (n : Nat) = v) (k : Wat κ (pc + 1) lv (.long v :: st) ω) : Wat κ pc lv st ω := by
  obtain ⟨⟨⟨p, e, R⟩, ⟨s, m, args, below⟩, ⟨meth, c, cells, slots⟩, ⟨Q, A⟩, ⟨D, ad, cA⟩⟩, ⟨hx, hb, hml, hr, hts, hown, hlocks⟩, hK, hA, hroom⟩ := κ
  intro H locs ls hP hD hS hl
  exact lv_lconst hx hb hd hv (k H locs ls hP hD hS hl)
set_option maxHeartbeats 1000000 in
theorem xr_ldc2 {l : Launch} {T : xKd} {cc : ByteArray} {own : String} {nL : Nat} {ret : Option FieldType} {d : Nat} (κ : XC l T cc own nL ret d) {pc : Nat} {lv : List (Nat × Value)} {st : List Value} {ω : xWd} {ix : Nat} {v : Int64} (hc : Cond.constantLong own ix v ∈ xB) (hd : decode cc pc = .ok (.ldc2_w ix, 3)) (k : Wat κ (pc + 3) lv (.long v :: st) ω) : Wat κ pc lv st ω := by
  obtain ⟨⟨⟨p, e, R⟩, ⟨s, m, args, below⟩, ⟨meth, c, cells, slots⟩, ⟨Q, A⟩, ⟨D, ad, cA⟩⟩, ⟨hx, hb, hml, hr, hts, hown, hlocks⟩, hK, hA, hroom⟩ := κ
  intro H locs ls hP hD hS hl
  exact lv_ldc2 hx hb hown (hts _ hc) hd (k H locs ls hP hD hS hl)
set_option maxHeartbeats 1000000 in
theorem xr_ldcw {l : Launch} {T : xKd} {cc : ByteArray} {own : String} {nL : Nat} {ret : Option FieldType} {d : Nat} (κ : XC l T cc own nL ret d) {pc : Nat} {lv : List (Nat × Value)} {st : List Value} {ω : xWd} {ix : Nat} {v : Int32} (hc : Cond.constant own ix v ∈ xB) (hd : decode cc pc = .ok (.ldc_w ix, 3)) (k : Wat κ (pc + 3) lv (.int v :: st) ω) : Wat κ pc lv st ω := by
  obtain ⟨⟨⟨p, e, R⟩, ⟨s, m, args, below⟩, ⟨meth, c, cells, slots⟩, ⟨Q, A⟩, ⟨D, ad, cA⟩⟩, ⟨hx, hb, hml, hr, hts, hown, hlocks⟩, hK, hA, hroom⟩ := κ
  intro H locs ls hP hD hS hl
  exact lv_ldcw hx hb hown (hts _ hc) hd (k H locs ls hP hD hS hl)
set_option maxHeartbeats 1000000 in
theorem xr_ldc {l : Launch} {T : xKd} {cc : ByteArray} {own : String} {nL : Nat} {ret : Option FieldType} {d : Nat} (κ : XC l T cc own nL ret d) {pc : Nat} {lv : List (Nat × Value)} {st : List Value} {ω : xWd} {ix : Nat} {v : Int32} (hc : Cond.constant own ix v ∈ xB) (hd : decode cc pc = .ok (.ldc ix, 2)) (k : Wat κ (pc + 2) lv (.int v :: st) ω) : Wat κ pc lv st ω := by
  obtain ⟨⟨⟨p, e, R⟩, ⟨s, m, args, below⟩, ⟨meth, c, cells, slots⟩, ⟨Q, A⟩, ⟨D, ad, cA⟩⟩, ⟨hx, hb, hml, hr, hts, hown, hlocks⟩, hK, hA, hroom⟩ := κ
  intro H locs ls hP hD hS hl
  exact lv_ldc hx hb hown (hts _ hc) hd (k H locs ls hP hD hS hl)
set_option maxHeartbeats 1000000 in
theorem xr_iload_n {l : Launch} {T : xKd} {cc : ByteArray} {own : String} {nL : Nat} {ret : Option FieldType} {d : Nat} (κ : XC l T cc own nL ret d) {pc : Nat} {lv : List (Nat × Value)} {st : List Value} {ω : xWd} (j : Nat) {n : Fin 4} {i : Nat} {x : Int32} (hd : decode cc pc = .ok (.iload_n n, 1)) (hi : (n : Nat) = i) (hj : lv[j]? = some (i, .int x)) (k : Wat κ (pc + 1) lv (.int x :: st) ω) : Wat κ pc lv st ω := by
  obtain ⟨⟨⟨p, e, R⟩, ⟨s, m, args, below⟩, ⟨meth, c, cells, slots⟩, ⟨Q, A⟩, ⟨D, ad, cA⟩⟩, ⟨hx, hb, hml, hr, hts, hown, hlocks⟩, hK, hA, hroom⟩ := κ
  intro H locs ls hP hD hS hl
  exact lv_iload_n hx hb hd hi (xlv_at hl j hj) (k H locs ls hP hD hS hl)
set_option maxHeartbeats 1000000 in
theorem xr_iload {l : Launch} {T : xKd} {cc : ByteArray} {own : String} {nL : Nat} {ret : Option FieldType} {d : Nat} (κ : XC l T cc own nL ret d) {pc : Nat} {lv : List (Nat × Value)} {st : List Value} {ω : xWd} (j : Nat) {i : Nat} {x : Int32} (hd : decode cc pc = .ok (.iload i, 2)) (hj : lv[j]? = some (i, .int x)) (k : Wat κ (pc + 2) lv (.int x :: st) ω) : Wat κ pc lv st ω := by
  obtain ⟨⟨⟨p, e, R⟩, ⟨s, m, args, below⟩, ⟨meth, c, cells, slots⟩, ⟨Q, A⟩, ⟨D, ad, cA⟩⟩, ⟨hx, hb, hml, hr, hts, hown, hlocks⟩, hK, hA, hroom⟩ := κ
  intro H locs ls hP hD hS hl
  exact lv_iload hx hb hd (xlv_at hl j hj) (k H locs ls hP hD hS hl)
set_option maxHeartbeats 1000000 in
theorem xr_istore_n {l : Launch} {T : xKd} {cc : ByteArray} {own : String} {nL : Nat} {ret : Option FieldType} {d : Nat} (κ : XC l T cc own nL ret d) {pc : Nat} {lv : List (Nat × Value)} {st : List Value} {ω : xWd} (ks : List Nat) {lv' : List (Nat × Value)} {n : Fin 4} {i : Nat} {x : Int32} (hd : decode cc pc = .ok (.istore_n n, 1)) (hi : (n : Nat) = i) (hn : i < nL) (hlv : lv_pick ((i, .int x) :: lv.filter (fun q => !(q.1 == i) && !(q.1 + 1 == i && q.2.category == 2))) ks = lv') (k : Wat κ (pc + 1) lv' (st) ω) : Wat κ pc lv (.int x :: st) ω := by
  obtain ⟨⟨⟨p, e, R⟩, ⟨s, m, args, below⟩, ⟨meth, c, cells, slots⟩, ⟨Q, A⟩, ⟨D, ad, cA⟩⟩, ⟨hx, hb, hml, hr, hts, hown, hlocks⟩, hK, hA, hroom⟩ := κ
  intro H locs ls hP hD hS hl
  exact lv_istore_n hx hb hd hi hl hn rfl (fun ls1 hl1 => k H locs ls1 hP hD hS (xst1 (v := .int x) ks hl1 hlv))
set_option maxHeartbeats 1000000 in
theorem xr_istore {l : Launch} {T : xKd} {cc : ByteArray} {own : String} {nL : Nat} {ret : Option FieldType} {d : Nat} (κ : XC l T cc own nL ret d) {pc : Nat} {lv : List (Nat × Value)} {st : List Value} {ω : xWd} (ks : List Nat) {lv' : List (Nat × Value)} {i : Nat} {x : Int32} (hd : decode cc pc = .ok (.istore i, 2)) (hn : i < nL) (hlv : lv_pick ((i, .int x) :: lv.filter (fun q => !(q.1 == i) && !(q.1 + 1 == i && q.2.category == 2))) ks = lv') (k : Wat κ (pc + 2) lv' (st) ω) : Wat κ pc lv (.int x :: st) ω := by
  obtain ⟨⟨⟨p, e, R⟩, ⟨s, m, args, below⟩, ⟨meth, c, cells, slots⟩, ⟨Q, A⟩, ⟨D, ad, cA⟩⟩, ⟨hx, hb, hml, hr, hts, hown, hlocks⟩, hK, hA, hroom⟩ := κ
  intro H locs ls hP hD hS hl
  exact lv_istore hx hb hd hl hn rfl (fun ls1 hl1 => k H locs ls1 hP hD hS (xst1 (v := .int x) ks hl1 hlv))
set_option maxHeartbeats 1000000 in
theorem xr_lload_n {l : Launch} {T : xKd} {cc : ByteArray} {own : String} {nL : Nat} {ret : Option FieldType} {d : Nat} (κ : XC l T cc own nL ret d) {pc : Nat} {lv : List (Nat × Value)} {st : List Value} {ω : xWd} (j : Nat) {n : Fin 4} {i : Nat} {x : Int64} (hd : decode cc pc = .ok (.lload_n n, 1)) (hi : (n : Nat) = i) (hj : lv[j]? = some (i, .long x)) (k : Wat κ (pc + 1) lv (.long x :: st) ω) : Wat κ pc lv st ω := by
  obtain ⟨⟨⟨p, e, R⟩, ⟨s, m, args, below⟩, ⟨meth, c, cells, slots⟩, ⟨Q, A⟩, ⟨D, ad, cA⟩⟩, ⟨hx, hb, hml, hr, hts, hown, hlocks⟩, hK, hA, hroom⟩ := κ
  intro H locs ls hP hD hS hl
  exact lv_lload_n hx hb hd hi (xlv_at hl j hj) (k H locs ls hP hD hS hl)
set_option maxHeartbeats 1000000 in
theorem xr_lload {l : Launch} {T : xKd} {cc : ByteArray} {own : String} {nL : Nat} {ret : Option FieldType} {d : Nat} (κ : XC l T cc own nL ret d) {pc : Nat} {lv : List (Nat × Value)} {st : List Value} {ω : xWd} (j : Nat) {i : Nat} {x : Int64} (hd : decode cc pc = .ok (.lload i, 2)) (hj : lv[j]? = some (i, .long x)) (k : Wat κ (pc + 2) lv (.long x :: st) ω) : Wat κ pc lv st ω := by
  obtain ⟨⟨⟨p, e, R⟩, ⟨s, m, args, below⟩, ⟨meth, c, cells, slots⟩, ⟨Q, A⟩, ⟨D, ad, cA⟩⟩, ⟨hx, hb, hml, hr, hts, hown, hlocks⟩, hK, hA, hroom⟩ := κ
  intro H locs ls hP hD hS hl
  exact lv_lload hx hb hd (xlv_at hl j hj) (k H locs ls hP hD hS hl)
set_option maxHeartbeats 1000000 in
theorem xr_lstore_n {l : Launch} {T : xKd} {cc : ByteArray} {own : String} {nL : Nat} {ret : Option FieldType} {d : Nat} (κ : XC l T cc own nL ret d) {pc : Nat} {lv : List (Nat × Value)} {st : List Value} {ω : xWd} (ks : List Nat) {lv' : List (Nat × Value)} {n : Fin 4} {i : Nat} {x : Int64} (hd : decode cc pc = .ok (.lstore_n n, 1)) (hi : (n : Nat) = i) (hn : i + 1 < nL) (hlv : lv_pick ((i, .long x) :: lv.filter (fun q => !(q.1 == i) && (!(q.1 == i + 1) && !(q.1 + 1 == i && q.2.category == 2)))) ks = lv') (k : Wat κ (pc + 1) lv' (st) ω) : Wat κ pc lv (.long x :: st) ω := by
  obtain ⟨⟨⟨p, e, R⟩, ⟨s, m, args, below⟩, ⟨meth, c, cells, slots⟩, ⟨Q, A⟩, ⟨D, ad, cA⟩⟩, ⟨hx, hb, hml, hr, hts, hown, hlocks⟩, hK, hA, hroom⟩ := κ
  intro H locs ls hP hD hS hl
  exact lv_lstore_n hx hb hd hi hl hn rfl (fun ls1 hl1 => k H locs ls1 hP hD hS (xst2 (v := .long x) ks hl1 hlv))
set_option maxHeartbeats 1000000 in
theorem xr_lstore {l : Launch} {T : xKd} {cc : ByteArray} {own : String} {nL : Nat} {ret : Option FieldType} {d : Nat} (κ : XC l T cc own nL ret d) {pc : Nat} {lv : List (Nat × Value)} {st : List Value} {ω : xWd} (ks : List Nat) {lv' : List (Nat × Value)} {i : Nat} {x : Int64} (hd : decode cc pc = .ok (.lstore i, 2)) (hn : i + 1 < nL) (hlv : lv_pick ((i, .long x) :: lv.filter (fun q => !(q.1 == i) && (!(q.1 == i + 1) && !(q.1 + 1 == i && q.2.category == 2)))) ks = lv') (k : Wat κ (pc + 2) lv' (st) ω) : Wat κ pc lv (.long x :: st) ω := by
  obtain ⟨⟨⟨p, e, R⟩, ⟨s, m, args, below⟩, ⟨meth, c, cells, slots⟩, ⟨Q, A⟩, ⟨D, ad, cA⟩⟩, ⟨hx, hb, hml, hr, hts, hown, hlocks⟩, hK, hA, hroom⟩ := κ
  intro H locs ls hP hD hS hl
  exact lv_lstore hx hb hd hl hn rfl (fun ls1 hl1 => k H locs ls1 hP hD hS (xst2 (v := .long x) ks hl1 hlv))
set_option maxHeartbeats 1000000 in
theorem xr_aload_n {l : Launch} {T : xKd} {cc : ByteArray} {own : String} {nL : Nat} {ret : Option FieldType} {d : Nat} (κ : XC l T cc own nL ret d) {pc : Nat} {lv : List (Nat × Value)} {st : List Value} {ω : xWd} (j : Nat) {n : Fin 4} {i : Nat} {x : Nat} (hd : decode cc pc = .ok (.aload_n n, 1)) (hi : (n : Nat) = i) (hj : lv[j]? = some (i, .ref x)) (k : Wat κ (pc + 1) lv (.ref x :: st) ω) : Wat κ pc lv st ω := by
  obtain ⟨⟨⟨p, e, R⟩, ⟨s, m, args, below⟩, ⟨meth, c, cells, slots⟩, ⟨Q, A⟩, ⟨D, ad, cA⟩⟩, ⟨hx, hb, hml, hr, hts, hown, hlocks⟩, hK, hA, hroom⟩ := κ
  intro H locs ls hP hD hS hl
  exact lv_aload_n hx hb hd hi (xlv_at hl j hj) (k H locs ls hP hD hS hl)
set_option maxHeartbeats 1000000 in
theorem xr_aload {l : Launch} {T : xKd} {cc : ByteArray} {own : String} {nL : Nat} {ret : Option FieldType} {d : Nat} (κ : XC l T cc own nL ret d) {pc : Nat} {lv : List (Nat × Value)} {st : List Value} {ω : xWd} (j : Nat) {i : Nat} {x : Nat} (hd : decode cc pc = .ok (.aload i, 2)) (hj : lv[j]? = some (i, .ref x)) (k : Wat κ (pc + 2) lv (.ref x :: st) ω) : Wat κ pc lv st ω := by
  obtain ⟨⟨⟨p, e, R⟩, ⟨s, m, args, below⟩, ⟨meth, c, cells, slots⟩, ⟨Q, A⟩, ⟨D, ad, cA⟩⟩, ⟨hx, hb, hml, hr, hts, hown, hlocks⟩, hK, hA, hroom⟩ := κ
  intro H locs ls hP hD hS hl
  exact lv_aload hx hb hd (xlv_at hl j hj) (k H locs ls hP hD hS hl)
set_option maxHeartbeats 1000000 in
theorem xr_astore_n {l : Launch} {T : xKd} {cc : ByteArray} {own : String} {nL : Nat} {ret : Option FieldType} {d : Nat} (κ : XC l T cc own nL ret d) {pc : Nat} {lv : List (Nat × Value)} {st : List Value} {ω : xWd} (ks : List Nat) {lv' : List (Nat × Value)} {n : Fin 4} {i : Nat} {x : Nat} (hd : decode cc pc = .ok (.astore_n n, 1)) (hi : (n : Nat) = i) (hn : i < nL) (hlv : lv_pick ((i, .ref x) :: lv.filter (fun q => !(q.1 == i) && !(q.1 + 1 == i && q.2.category == 2))) ks = lv') (k : Wat κ (pc + 1) lv' (st) ω) : Wat κ pc lv (.ref x :: st) ω := by
  obtain ⟨⟨⟨p, e, R⟩, ⟨s, m, args, below⟩, ⟨meth, c, cells, slots⟩, ⟨Q, A⟩, ⟨D, ad, cA⟩⟩, ⟨hx, hb, hml, hr, hts, hown, hlocks⟩, hK, hA, hroom⟩ := κ
  intro H locs ls hP hD hS hl
  exact lv_astore_n hx hb hd hi hl hn rfl (fun ls1 hl1 => k H locs ls1 hP hD hS (xst1 (v := .ref x) ks hl1 hlv))
set_option maxHeartbeats 1000000 in
theorem xr_astore {l : Launch} {T : xKd} {cc : ByteArray} {own : String} {nL : Nat} {ret : Option FieldType} {d : Nat} (κ : XC l T cc own nL ret d) {pc : Nat} {lv : List (Nat × Value)} {st : List Value} {ω : xWd} (ks : List Nat) {lv' : List (Nat × Value)} {i : Nat} {x : Nat} (hd : decode cc pc = .ok (.astore i, 2)) (hn : i < nL) (hlv : lv_pick ((i, .ref x) :: lv.filter (fun q => !(q.1 == i) && !(q.1 + 1 == i && q.2.category == 2))) ks = lv') (k : Wat κ (pc + 2) lv' (st) ω) : Wat κ pc lv (.ref x :: st) ω := by
  obtain ⟨⟨⟨p, e, R⟩, ⟨s, m, args, below⟩, ⟨meth, c, cells, slots⟩, ⟨Q, A⟩, ⟨D, ad, cA⟩⟩, ⟨hx, hb, hml, hr, hts, hown, hlocks⟩, hK, hA, hroom⟩ := κ
  intro H locs ls hP hD hS hl
  exact lv_astore hx hb hd hl hn rfl (fun ls1 hl1 => k H locs ls1 hP hD hS (xst1 (v := .ref x) ks hl1 hlv))
set_option maxHeartbeats 1000000 in
theorem xr_iinc {l : Launch} {T : xKd} {cc : ByteArray} {own : String} {nL : Nat} {ret : Option FieldType} {d : Nat} (κ : XC l T cc own nL ret d) {pc : Nat} {lv : List (Nat × Value)} {st : List Value} {ω : xWd} (j : Nat) (ks : List Nat) {lv' : List (Nat × Value)} {i : Nat} {n : Int} {x v : Int32} (hd : decode cc pc = .ok (.iinc i n, 3)) (hj : lv[j]? = some (i, .int x)) (hv : x + Int32.ofInt n = v) (hn : i < nL) (hlv : lv_pick ((i, .int v) :: lv.filter (fun q => !(q.1 == i) && !(q.1 + 1 == i && q.2.category == 2))) ks = lv') (k : Wat κ (pc + 3) lv' (st) ω) : Wat κ pc lv st ω := by
  obtain ⟨⟨⟨p, e, R⟩, ⟨s, m, args, below⟩, ⟨meth, c, cells, slots⟩, ⟨Q, A⟩, ⟨D, ad, cA⟩⟩, ⟨hx, hb, hml, hr, hts, hown, hlocks⟩, hK, hA, hroom⟩ := κ
  intro H locs ls hP hD hS hl
  exact lv_iinc (k := j) (x := x) hx hb hd hl (by rw [List.getElem?_map, hj]; rfl) hv hn rfl (fun ls1 hl1 => k H locs ls1 hP hD hS (xst1 (v := .int v) ks hl1 hlv))
set_option maxHeartbeats 1000000 in
theorem xr_iadd {l : Launch} {T : xKd} {cc : ByteArray} {own : String} {nL : Nat} {ret : Option FieldType} {d : Nat} (κ : XC l T cc own nL ret d) {pc : Nat} {lv : List (Nat × Value)} {st : List Value} {ω : xWd} {x y : Int32} (hd : decode cc pc = .ok (.iadd, 1)) (k : Wat κ (pc + 1) lv (.int (x + y) :: st) ω) : Wat κ pc lv (.int y :: .int x :: st) ω := by
  obtain ⟨⟨⟨p, e, R⟩, ⟨s, m, args, below⟩, ⟨meth, c, cells, slots⟩, ⟨Q, A⟩, ⟨D, ad, cA⟩⟩, ⟨hx, hb, hml, hr, hts, hown, hlocks⟩, hK, hA, hroom⟩ := κ
  intro H locs ls hP hD hS hl
  exact lv_iadd hx hb hd (k H locs ls hP hD hS hl)
set_option maxHeartbeats 1000000 in
theorem xr_isub {l : Launch} {T : xKd} {cc : ByteArray} {own : String} {nL : Nat} {ret : Option FieldType} {d : Nat} (κ : XC l T cc own nL ret d) {pc : Nat} {lv : List (Nat × Value)} {st : List Value} {ω : xWd} {x y : Int32} (hd : decode cc pc = .ok (.isub, 1)) (k : Wat κ (pc + 1) lv (.int (x - y) :: st) ω) : Wat κ pc lv (.int y :: .int x :: st) ω := by
  obtain ⟨⟨⟨p, e, R⟩, ⟨s, m, args, below⟩, ⟨meth, c, cells, slots⟩, ⟨Q, A⟩, ⟨D, ad, cA⟩⟩, ⟨hx, hb, hml, hr, hts, hown, hlocks⟩, hK, hA, hroom⟩ := κ
  intro H locs ls hP hD hS hl
  exact lv_isub hx hb hd (k H locs ls hP hD hS hl)
set_option maxHeartbeats 1000000 in
theorem xr_imul {l : Launch} {T : xKd} {cc : ByteArray} {own : String} {nL : Nat} {ret : Option FieldType} {d : Nat} (κ : XC l T cc own nL ret d) {pc : Nat} {lv : List (Nat × Value)} {st : List Value} {ω : xWd} {x y : Int32} (hd : decode cc pc = .ok (.imul, 1)) (k : Wat κ (pc + 1) lv (.int (x * y) :: st) ω) : Wat κ pc lv (.int y :: .int x :: st) ω := by
  obtain ⟨⟨⟨p, e, R⟩, ⟨s, m, args, below⟩, ⟨meth, c, cells, slots⟩, ⟨Q, A⟩, ⟨D, ad, cA⟩⟩, ⟨hx, hb, hml, hr, hts, hown, hlocks⟩, hK, hA, hroom⟩ := κ
  intro H locs ls hP hD hS hl
  exact lv_imul hx hb hd (k H locs ls hP hD hS hl)
set_option maxHeartbeats 1000000 in
theorem xr_iand {l : Launch} {T : xKd} {cc : ByteArray} {own : String} {nL : Nat} {ret : Option FieldType} {d : Nat} (κ : XC l T cc own nL ret d) {pc : Nat} {lv : List (Nat × Value)} {st : List Value} {ω : xWd} {x y : Int32} (hd : decode cc pc = .ok (.iand, 1)) (k : Wat κ (pc + 1) lv (.int (x &&& y) :: st) ω) : Wat κ pc lv (.int y :: .int x :: st) ω := by
  obtain ⟨⟨⟨p, e, R⟩, ⟨s, m, args, below⟩, ⟨meth, c, cells, slots⟩, ⟨Q, A⟩, ⟨D, ad, cA⟩⟩, ⟨hx, hb, hml, hr, hts, hown, hlocks⟩, hK, hA, hroom⟩ := κ
  intro H locs ls hP hD hS hl
  exact lv_iand hx hb hd (k H locs ls hP hD hS hl)
set_option maxHeartbeats 1000000 in
theorem xr_ior {l : Launch} {T : xKd} {cc : ByteArray} {own : String} {nL : Nat} {ret : Option FieldType} {d : Nat} (κ : XC l T cc own nL ret d) {pc : Nat} {lv : List (Nat × Value)} {st : List Value} {ω : xWd} {x y : Int32} (hd : decode cc pc = .ok (.ior, 1)) (k : Wat κ (pc + 1) lv (.int (x ||| y) :: st) ω) : Wat κ pc lv (.int y :: .int x :: st) ω := by
  obtain ⟨⟨⟨p, e, R⟩, ⟨s, m, args, below⟩, ⟨meth, c, cells, slots⟩, ⟨Q, A⟩, ⟨D, ad, cA⟩⟩, ⟨hx, hb, hml, hr, hts, hown, hlocks⟩, hK, hA, hroom⟩ := κ
  intro H locs ls hP hD hS hl
  exact lv_ior hx hb hd (k H locs ls hP hD hS hl)
set_option maxHeartbeats 1000000 in
theorem xr_ixor {l : Launch} {T : xKd} {cc : ByteArray} {own : String} {nL : Nat} {ret : Option FieldType} {d : Nat} (κ : XC l T cc own nL ret d) {pc : Nat} {lv : List (Nat × Value)} {st : List Value} {ω : xWd} {x y : Int32} (hd : decode cc pc = .ok (.ixor, 1)) (k : Wat κ (pc + 1) lv (.int (x ^^^ y) :: st) ω) : Wat κ pc lv (.int y :: .int x :: st) ω := by
  obtain ⟨⟨⟨p, e, R⟩, ⟨s, m, args, below⟩, ⟨meth, c, cells, slots⟩, ⟨Q, A⟩, ⟨D, ad, cA⟩⟩, ⟨hx, hb, hml, hr, hts, hown, hlocks⟩, hK, hA, hroom⟩ := κ
  intro H locs ls hP hD hS hl
  exact lv_ixor hx hb hd (k H locs ls hP hD hS hl)
set_option maxHeartbeats 1000000 in
theorem xr_ishl {l : Launch} {T : xKd} {cc : ByteArray} {own : String} {nL : Nat} {ret : Option FieldType} {d : Nat} (κ : XC l T cc own nL ret d) {pc : Nat} {lv : List (Nat × Value)} {st : List Value} {ω : xWd} {x y : Int32} (hd : decode cc pc = .ok (.ishl, 1)) (k : Wat κ (pc + 1) lv (.int (x <<< (y &&& 31)) :: st) ω) : Wat κ pc lv (.int y :: .int x :: st) ω := by
  obtain ⟨⟨⟨p, e, R⟩, ⟨s, m, args, below⟩, ⟨meth, c, cells, slots⟩, ⟨Q, A⟩, ⟨D, ad, cA⟩⟩, ⟨hx, hb, hml, hr, hts, hown, hlocks⟩, hK, hA, hroom⟩ := κ
  intro H locs ls hP hD hS hl
  exact lv_ishl hx hb hd (k H locs ls hP hD hS hl)
set_option maxHeartbeats 1000000 in
theorem xr_ishr {l : Launch} {T : xKd} {cc : ByteArray} {own : String} {nL : Nat} {ret : Option FieldType} {d : Nat} (κ : XC l T cc own nL ret d) {pc : Nat} {lv : List (Nat × Value)} {st : List Value} {ω : xWd} {x y : Int32} (hd : decode cc pc = .ok (.ishr, 1)) (k : Wat κ (pc + 1) lv (.int (x >>> (y &&& 31)) :: st) ω) : Wat κ pc lv (.int y :: .int x :: st) ω := by
  obtain ⟨⟨⟨p, e, R⟩, ⟨s, m, args, below⟩, ⟨meth, c, cells, slots⟩, ⟨Q, A⟩, ⟨D, ad, cA⟩⟩, ⟨hx, hb, hml, hr, hts, hown, hlocks⟩, hK, hA, hroom⟩ := κ
  intro H locs ls hP hD hS hl
  exact lv_ishr hx hb hd (k H locs ls hP hD hS hl)
set_option maxHeartbeats 1000000 in
theorem xr_ladd {l : Launch} {T : xKd} {cc : ByteArray} {own : String} {nL : Nat} {ret : Option FieldType} {d : Nat} (κ : XC l T cc own nL ret d) {pc : Nat} {lv : List (Nat × Value)} {st : List Value} {ω : xWd} {x y : Int64} (hd : decode cc pc = .ok (.ladd, 1)) (k : Wat κ (pc + 1) lv (.long (x + y) :: st) ω) : Wat κ pc lv (.long y :: .long x :: st) ω := by
  obtain ⟨⟨⟨p, e, R⟩, ⟨s, m, args, below⟩, ⟨meth, c, cells, slots⟩, ⟨Q, A⟩, ⟨D, ad, cA⟩⟩, ⟨hx, hb, hml, hr, hts, hown, hlocks⟩, hK, hA, hroom⟩ := κ
  intro H locs ls hP hD hS hl
  exact lv_ladd hx hb hd (k H locs ls hP hD hS hl)
set_option maxHeartbeats 1000000 in
theorem xr_lsub {l : Launch} {T : xKd} {cc : ByteArray} {own : String} {nL : Nat} {ret : Option FieldType} {d : Nat} (κ : XC l T cc own nL ret d) {pc : Nat} {lv : List (Nat × Value)} {st : List Value} {ω : xWd} {x y : Int64} (hd : decode cc pc = .ok (.lsub, 1)) (k : Wat κ (pc + 1) lv (.long (x - y) :: st) ω) : Wat κ pc lv (.long y :: .long x :: st) ω := by
  obtain ⟨⟨⟨p, e, R⟩, ⟨s, m, args, below⟩, ⟨meth, c, cells, slots⟩, ⟨Q, A⟩, ⟨D, ad, cA⟩⟩, ⟨hx, hb, hml, hr, hts, hown, hlocks⟩, hK, hA, hroom⟩ := κ
  intro H locs ls hP hD hS hl
  exact lv_lsub hx hb hd (k H locs ls hP hD hS hl)
set_option maxHeartbeats 1000000 in
theorem xr_lmul {l : Launch} {T : xKd} {cc : ByteArray} {own : String} {nL : Nat} {ret : Option FieldType} {d : Nat} (κ : XC l T cc own nL ret d) {pc : Nat} {lv : List (Nat × Value)} {st : List Value} {ω : xWd} {x y : Int64} (hd : decode cc pc = .ok (.lmul, 1)) (k : Wat κ (pc + 1) lv (.long (x * y) :: st) ω) : Wat κ pc lv (.long y :: .long x :: st) ω := by
  obtain ⟨⟨⟨p, e, R⟩, ⟨s, m, args, below⟩, ⟨meth, c, cells, slots⟩, ⟨Q, A⟩, ⟨D, ad, cA⟩⟩, ⟨hx, hb, hml, hr, hts, hown, hlocks⟩, hK, hA, hroom⟩ := κ
  intro H locs ls hP hD hS hl
  exact lv_lmul hx hb hd (k H locs ls hP hD hS hl)
set_option maxHeartbeats 1000000 in
theorem xr_idiv {l : Launch} {T : xKd} {cc : ByteArray} {own : String} {nL : Nat} {ret : Option FieldType} {d : Nat} (κ : XC l T cc own nL ret d) {pc : Nat} {lv : List (Nat × Value)} {st : List Value} {ω : xWd} {x y : Int32} (hne : ¬ y = 0) (hd : decode cc pc = .ok (.idiv, 1)) (k : Wat κ (pc + 1) lv (.int (x / y) :: st) ω) : Wat κ pc lv (.int y :: .int x :: st) ω := by
  obtain ⟨⟨⟨p, e, R⟩, ⟨s, m, args, below⟩, ⟨meth, c, cells, slots⟩, ⟨Q, A⟩, ⟨D, ad, cA⟩⟩, ⟨hx, hb, hml, hr, hts, hown, hlocks⟩, hK, hA, hroom⟩ := κ
  intro H locs ls hP hD hS hl
  exact lv_idiv hx hb hd hne (k H locs ls hP hD hS hl)
set_option maxHeartbeats 1000000 in
theorem xr_irem {l : Launch} {T : xKd} {cc : ByteArray} {own : String} {nL : Nat} {ret : Option FieldType} {d : Nat} (κ : XC l T cc own nL ret d) {pc : Nat} {lv : List (Nat × Value)} {st : List Value} {ω : xWd} {x y : Int32} (hne : ¬ y = 0) (hd : decode cc pc = .ok (.irem, 1)) (k : Wat κ (pc + 1) lv (.int (x - x / y * y) :: st) ω) : Wat κ pc lv (.int y :: .int x :: st) ω := by
  obtain ⟨⟨⟨p, e, R⟩, ⟨s, m, args, below⟩, ⟨meth, c, cells, slots⟩, ⟨Q, A⟩, ⟨D, ad, cA⟩⟩, ⟨hx, hb, hml, hr, hts, hown, hlocks⟩, hK, hA, hroom⟩ := κ
  intro H locs ls hP hD hS hl
  exact lv_irem hx hb hd hne (k H locs ls hP hD hS hl)
set_option maxHeartbeats 1000000 in
theorem xr_ldiv {l : Launch} {T : xKd} {cc : ByteArray} {own : String} {nL : Nat} {ret : Option FieldType} {d : Nat} (κ : XC l T cc own nL ret d) {pc : Nat} {lv : List (Nat × Value)} {st : List Value} {ω : xWd} {x y : Int64} (hne : ¬ y = 0) (hd : decode cc pc = .ok (.ldiv, 1)) (k : Wat κ (pc + 1) lv (.long (x / y) :: st) ω) : Wat κ pc lv (.long y :: .long x :: st) ω := by
  obtain ⟨⟨⟨p, e, R⟩, ⟨s, m, args, below⟩, ⟨meth, c, cells, slots⟩, ⟨Q, A⟩, ⟨D, ad, cA⟩⟩, ⟨hx, hb, hml, hr, hts, hown, hlocks⟩, hK, hA, hroom⟩ := κ
  intro H locs ls hP hD hS hl
  exact lv_ldiv hx hb hd hne (k H locs ls hP hD hS hl)
set_option maxHeartbeats 1000000 in
theorem xr_lrem {l : Launch} {T : xKd} {cc : ByteArray} {own : String} {nL : Nat} {ret : Option FieldType} {d : Nat} (κ : XC l T cc own nL ret d) {pc : Nat} {lv : List (Nat × Value)} {st : List Value} {ω : xWd} {x y : Int64} (hne : ¬ y = 0) (hd : decode cc pc = .ok (.lrem, 1)) (k : Wat κ (pc + 1) lv (.long (x - x / y * y) :: st) ω) : Wat κ pc lv (.long y :: .long x :: st) ω := by
  obtain ⟨⟨⟨p, e, R⟩, ⟨s, m, args, below⟩, ⟨meth, c, cells, slots⟩, ⟨Q, A⟩, ⟨D, ad, cA⟩⟩, ⟨hx, hb, hml, hr, hts, hown, hlocks⟩, hK, hA, hroom⟩ := κ
  intro H locs ls hP hD hS hl
  exact lv_lrem hx hb hd hne (k H locs ls hP hD hS hl)
set_option maxHeartbeats 1000000 in
theorem xr_iushr {l : Launch} {T : xKd} {cc : ByteArray} {own : String} {nL : Nat} {ret : Option FieldType} {d : Nat} (κ : XC l T cc own nL ret d) {pc : Nat} {lv : List (Nat × Value)} {st : List Value} {ω : xWd} {x y : Int32} (hd : decode cc pc = .ok (.iushr, 1)) (k : Wat κ (pc + 1) lv (.int ((x.toUInt32 >>> (y.toUInt32 &&& Int32.toUInt32 31)).toInt32) :: st) ω) : Wat κ pc lv (.int y :: .int x :: st) ω := by
  obtain ⟨⟨⟨p, e, R⟩, ⟨s, m, args, below⟩, ⟨meth, c, cells, slots⟩, ⟨Q, A⟩, ⟨D, ad, cA⟩⟩, ⟨hx, hb, hml, hr, hts, hown, hlocks⟩, hK, hA, hroom⟩ := κ
  intro H locs ls hP hD hS hl
  exact lv_iushr hx hb hd rfl (k H locs ls hP hD hS hl)
set_option maxHeartbeats 1000000 in
theorem xr_ineg {l : Launch} {T : xKd} {cc : ByteArray} {own : String} {nL : Nat} {ret : Option FieldType} {d : Nat} (κ : XC l T cc own nL ret d) {pc : Nat} {lv : List (Nat × Value)} {st : List Value} {ω : xWd} {x : Int32} (hd : decode cc pc = .ok (.ineg, 1)) (k : Wat κ (pc + 1) lv (.int (-x) :: st) ω) : Wat κ pc lv (.int x :: st) ω := by
  obtain ⟨⟨⟨p, e, R⟩, ⟨s, m, args, below⟩, ⟨meth, c, cells, slots⟩, ⟨Q, A⟩, ⟨D, ad, cA⟩⟩, ⟨hx, hb, hml, hr, hts, hown, hlocks⟩, hK, hA, hroom⟩ := κ
  intro H locs ls hP hD hS hl
  exact lv_ineg hx hb hd (k H locs ls hP hD hS hl)
set_option maxHeartbeats 1000000 in
theorem xr_lneg {l : Launch} {T : xKd} {cc : ByteArray} {own : String} {nL : Nat} {ret : Option FieldType} {d : Nat} (κ : XC l T cc own nL ret d) {pc : Nat} {lv : List (Nat × Value)} {st : List Value} {ω : xWd} {x : Int64} (hd : decode cc pc = .ok (.lneg, 1)) (k : Wat κ (pc + 1) lv (.long (-x) :: st) ω) : Wat κ pc lv (.long x :: st) ω := by
  obtain ⟨⟨⟨p, e, R⟩, ⟨s, m, args, below⟩, ⟨meth, c, cells, slots⟩, ⟨Q, A⟩, ⟨D, ad, cA⟩⟩, ⟨hx, hb, hml, hr, hts, hown, hlocks⟩, hK, hA, hroom⟩ := κ
  intro H locs ls hP hD hS hl
  exact lv_lneg hx hb hd (k H locs ls hP hD hS hl)
set_option maxHeartbeats 1000000 in
theorem xr_i2l {l : Launch} {T : xKd} {cc : ByteArray} {own : String} {nL : Nat} {ret : Option FieldType} {d : Nat} (κ : XC l T cc own nL ret d) {pc : Nat} {lv : List (Nat × Value)} {st : List Value} {ω : xWd} {x : Int32} (hd : decode cc pc = .ok (.i2l, 1)) (k : Wat κ (pc + 1) lv (.long x.toInt64 :: st) ω) : Wat κ pc lv (.int x :: st) ω := by
  obtain ⟨⟨⟨p, e, R⟩, ⟨s, m, args, below⟩, ⟨meth, c, cells, slots⟩, ⟨Q, A⟩, ⟨D, ad, cA⟩⟩, ⟨hx, hb, hml, hr, hts, hown, hlocks⟩, hK, hA, hroom⟩ := κ
  intro H locs ls hP hD hS hl
  exact lv_i2l hx hb hd rfl (k H locs ls hP hD hS hl)
set_option maxHeartbeats 1000000 in
theorem xr_dup {l : Launch} {T : xKd} {cc : ByteArray} {own : String} {nL : Nat} {ret : Option FieldType} {d : Nat} (κ : XC l T cc own nL ret d) {pc : Nat} {lv : List (Nat × Value)} {st : List Value} {ω : xWd} {v : Value} (hc : v.category = 1) (hd : decode cc pc = .ok (.dup, 1)) (k : Wat κ (pc + 1) lv (v :: v :: st) ω) : Wat κ pc lv (v :: st) ω := by
  obtain ⟨⟨⟨p, e, R⟩, ⟨s, m, args, below⟩, ⟨meth, c, cells, slots⟩, ⟨Q, A⟩, ⟨D, ad, cA⟩⟩, ⟨hx, hb, hml, hr, hts, hown, hlocks⟩, hK, hA, hroom⟩ := κ
  intro H locs ls hP hD hS hl
  exact lv_dup hx hb hd (by rw [xv_cat]; exact hc) (k H locs ls hP hD hS hl)
set_option maxHeartbeats 1000000 in
theorem xr_dup2 {l : Launch} {T : xKd} {cc : ByteArray} {own : String} {nL : Nat} {ret : Option FieldType} {d : Nat} (κ : XC l T cc own nL ret d) {pc : Nat} {lv : List (Nat × Value)} {st : List Value} {ω : xWd} {v w : Value} (hc : v.category = 1) (hc2 : w.category = 1) (hd : decode cc pc = .ok (.dup2, 1)) (k : Wat κ (pc + 1) lv (v :: w :: v :: w :: st) ω) : Wat κ pc lv (v :: w :: st) ω := by
  obtain ⟨⟨⟨p, e, R⟩, ⟨s, m, args, below⟩, ⟨meth, c, cells, slots⟩, ⟨Q, A⟩, ⟨D, ad, cA⟩⟩, ⟨hx, hb, hml, hr, hts, hown, hlocks⟩, hK, hA, hroom⟩ := κ
  intro H locs ls hP hD hS hl
  exact lv_dup2_11 hx hb hd (by rw [xv_cat]; exact hc) (by rw [xv_cat]; exact hc2) (k H locs ls hP hD hS hl)
set_option maxHeartbeats 1000000 in
theorem xr_goto {l : Launch} {T : xKd} {cc : ByteArray} {own : String} {nL : Nat} {ret : Option FieldType} {d : Nat} (κ : XC l T cc own nL ret d) {pc : Nat} {lv : List (Nat × Value)} {st : List Value} {ω : xWd} {off : Int} {tgt : Nat} (hd : decode cc pc = .ok (.goto off, 3)) (ht : (pc : Int) + off = (tgt : Int)) (k : Wat κ tgt lv st ω) : Wat κ pc lv st ω := by
  obtain ⟨⟨⟨p, e, R⟩, ⟨s, m, args, below⟩, ⟨meth, c, cells, slots⟩, ⟨Q, A⟩, ⟨D, ad, cA⟩⟩, ⟨hx, hb, hml, hr, hts, hown, hlocks⟩, hK, hA, hroom⟩ := κ
  intro H locs ls hP hD hS hl
  exact lv_goto hx hb hd ht (k H locs ls hP hD hS hl)
set_option maxHeartbeats 1000000 in
theorem xr_if_eq {l : Launch} {T : xKd} {cc : ByteArray} {own : String} {nL : Nat} {ret : Option FieldType} {d : Nat} (κ : XC l T cc own nL ret d) {pc : Nat} {lv : List (Nat × Value)} {st : List Value} {ω : xWd} {x : Int32} {off : Int} {tgt : Nat} (hd : decode cc pc = .ok (.ifCond .eq off, 3)) (ht : (pc : Int) + off = (tgt : Int)) (kt : x = 0 → Wat κ tgt lv st ω) (kf : ¬ x = 0 → Wat κ (pc + 3) lv st ω) : Wat κ pc lv (.int x :: st) ω := by
  obtain ⟨⟨⟨p, e, R⟩, ⟨s, m, args, below⟩, ⟨meth, c, cells, slots⟩, ⟨Q, A⟩, ⟨D, ad, cA⟩⟩, ⟨hx, hb, hml, hr, hts, hown, hlocks⟩, hK, hA, hroom⟩ := κ
  intro H locs ls hP hD hS hl
  exact lv_if_eq hx hb hd ht (fun h => kt h H locs ls hP hD hS hl) (fun h => kf h H locs ls hP hD hS hl)
set_option maxHeartbeats 1000000 in
theorem xr_icmp_eq {l : Launch} {T : xKd} {cc : ByteArray} {own : String} {nL : Nat} {ret : Option FieldType} {d : Nat} (κ : XC l T cc own nL ret d) {pc : Nat} {lv : List (Nat × Value)} {st : List Value} {ω : xWd} {x y : Int32} {off : Int} {tgt : Nat} (hd : decode cc pc = .ok (.if_icmp .eq off, 3)) (ht : (pc : Int) + off = (tgt : Int)) (kt : x = y → Wat κ tgt lv st ω) (kf : ¬ x = y → Wat κ (pc + 3) lv st ω) : Wat κ pc lv (.int y :: .int x :: st) ω := by
  obtain ⟨⟨⟨p, e, R⟩, ⟨s, m, args, below⟩, ⟨meth, c, cells, slots⟩, ⟨Q, A⟩, ⟨D, ad, cA⟩⟩, ⟨hx, hb, hml, hr, hts, hown, hlocks⟩, hK, hA, hroom⟩ := κ
  intro H locs ls hP hD hS hl
  exact lv_icmp_eq hx hb hd ht (fun h => kt h H locs ls hP hD hS hl) (fun h => kf h H locs ls hP hD hS hl)
set_option maxHeartbeats 1000000 in
theorem xr_lcmp_eq {l : Launch} {T : xKd} {cc : ByteArray} {own : String} {nL : Nat} {ret : Option FieldType} {d : Nat} (κ : XC l T cc own nL ret d) {pc : Nat} {lv : List (Nat × Value)} {st : List Value} {ω : xWd} {x y : Int64} {off : Int} {tgt : Nat} (hd0 : decode cc pc = .ok (.lcmp, 1)) (hd : decode cc (pc + 1) = .ok (.ifCond .eq off, 3)) (ht : ((pc + 1 : Nat) : Int) + off = (tgt : Int)) (kt : x = y → Wat κ tgt lv st ω) (kf : ¬ x = y → Wat κ (pc + 1 + 3) lv st ω) : Wat κ pc lv (.long y :: .long x :: st) ω := by
  obtain ⟨⟨⟨p, e, R⟩, ⟨s, m, args, below⟩, ⟨meth, c, cells, slots⟩, ⟨Q, A⟩, ⟨D, ad, cA⟩⟩, ⟨hx, hb, hml, hr, hts, hown, hlocks⟩, hK, hA, hroom⟩ := κ
  intro H locs ls hP hD hS hl
  exact W.lcmp hx hb hd0 (lv_if_eq hx hb hd ht (fun h => kt ((lg_cmp_eq x y).mp h) H locs ls hP hD hS hl) (fun h => kf (fun q => h ((lg_cmp_eq x y).mpr q)) H locs ls hP hD hS hl))
set_option maxHeartbeats 1000000 in
theorem xr_if_ne {l : Launch} {T : xKd} {cc : ByteArray} {own : String} {nL : Nat} {ret : Option FieldType} {d : Nat} (κ : XC l T cc own nL ret d) {pc : Nat} {lv : List (Nat × Value)} {st : List Value} {ω : xWd} {x : Int32} {off : Int} {tgt : Nat} (hd : decode cc pc = .ok (.ifCond .ne off, 3)) (ht : (pc : Int) + off = (tgt : Int)) (kt : ¬ x = 0 → Wat κ tgt lv st ω) (kf : x = 0 → Wat κ (pc + 3) lv st ω) : Wat κ pc lv (.int x :: st) ω := by
  obtain ⟨⟨⟨p, e, R⟩, ⟨s, m, args, below⟩, ⟨meth, c, cells, slots⟩, ⟨Q, A⟩, ⟨D, ad, cA⟩⟩, ⟨hx, hb, hml, hr, hts, hown, hlocks⟩, hK, hA, hroom⟩ := κ
  intro H locs ls hP hD hS hl
  exact lv_if_ne hx hb hd ht (fun h => kt h H locs ls hP hD hS hl) (fun h => kf h H locs ls hP hD hS hl)
set_option maxHeartbeats 1000000 in
theorem xr_icmp_ne {l : Launch} {T : xKd} {cc : ByteArray} {own : String} {nL : Nat} {ret : Option FieldType} {d : Nat} (κ : XC l T cc own nL ret d) {pc : Nat} {lv : List (Nat × Value)} {st : List Value} {ω : xWd} {x y : Int32} {off : Int} {tgt : Nat} (hd : decode cc pc = .ok (.if_icmp .ne off, 3)) (ht : (pc : Int) + off = (tgt : Int)) (kt : ¬ x = y → Wat κ tgt lv st ω) (kf : x = y → Wat κ (pc + 3) lv st ω) : Wat κ pc lv (.int y :: .int x :: st) ω := by
  obtain ⟨⟨⟨p, e, R⟩, ⟨s, m, args, below⟩, ⟨meth, c, cells, slots⟩, ⟨Q, A⟩, ⟨D, ad, cA⟩⟩, ⟨hx, hb, hml, hr, hts, hown, hlocks⟩, hK, hA, hroom⟩ := κ
  intro H locs ls hP hD hS hl
  exact lv_icmp_ne hx hb hd ht (fun h => kt h H locs ls hP hD hS hl) (fun h => kf h H locs ls hP hD hS hl)
set_option maxHeartbeats 1000000 in
theorem xr_lcmp_ne {l : Launch} {T : xKd} {cc : ByteArray} {own : String} {nL : Nat} {ret : Option FieldType} {d : Nat} (κ : XC l T cc own nL ret d) {pc : Nat} {lv : List (Nat × Value)} {st : List Value} {ω : xWd} {x y : Int64} {off : Int} {tgt : Nat} (hd0 : decode cc pc = .ok (.lcmp, 1)) (hd : decode cc (pc + 1) = .ok (.ifCond .ne off, 3)) (ht : ((pc + 1 : Nat) : Int) + off = (tgt : Int)) (kt : ¬ x = y → Wat κ tgt lv st ω) (kf : x = y → Wat κ (pc + 1 + 3) lv st ω) : Wat κ pc lv (.long y :: .long x :: st) ω := by
  obtain ⟨⟨⟨p, e, R⟩, ⟨s, m, args, below⟩, ⟨meth, c, cells, slots⟩, ⟨Q, A⟩, ⟨D, ad, cA⟩⟩, ⟨hx, hb, hml, hr, hts, hown, hlocks⟩, hK, hA, hroom⟩ := κ
  intro H locs ls hP hD hS hl
  exact W.lcmp hx hb hd0 (lv_if_ne hx hb hd ht (fun h => kt (fun q => h ((lg_cmp_eq x y).mpr q)) H locs ls hP hD hS hl) (fun h => kf ((lg_cmp_eq x y).mp h) H locs ls hP hD hS hl))
set_option maxHeartbeats 1000000 in
theorem xr_if_lt {l : Launch} {T : xKd} {cc : ByteArray} {own : String} {nL : Nat} {ret : Option FieldType} {d : Nat} (κ : XC l T cc own nL ret d) {pc : Nat} {lv : List (Nat × Value)} {st : List Value} {ω : xWd} {x : Int32} {off : Int} {tgt : Nat} (hd : decode cc pc = .ok (.ifCond .lt off, 3)) (ht : (pc : Int) + off = (tgt : Int)) (kt : x < 0 → Wat κ tgt lv st ω) (kf : ¬ x < 0 → Wat κ (pc + 3) lv st ω) : Wat κ pc lv (.int x :: st) ω := by
  obtain ⟨⟨⟨p, e, R⟩, ⟨s, m, args, below⟩, ⟨meth, c, cells, slots⟩, ⟨Q, A⟩, ⟨D, ad, cA⟩⟩, ⟨hx, hb, hml, hr, hts, hown, hlocks⟩, hK, hA, hroom⟩ := κ
  intro H locs ls hP hD hS hl
  exact lv_if_lt hx hb hd ht (fun h => kt h H locs ls hP hD hS hl) (fun h => kf h H locs ls hP hD hS hl)
set_option maxHeartbeats 1000000 in
theorem xr_icmp_lt {l : Launch} {T : xKd} {cc : ByteArray} {own : String} {nL : Nat} {ret : Option FieldType} {d : Nat} (κ : XC l T cc own nL ret d) {pc : Nat} {lv : List (Nat × Value)} {st : List Value} {ω : xWd} {x y : Int32} {off : Int} {tgt : Nat} (hd : decode cc pc = .ok (.if_icmp .lt off, 3)) (ht : (pc : Int) + off = (tgt : Int)) (kt : x < y → Wat κ tgt lv st ω) (kf : ¬ x < y → Wat κ (pc + 3) lv st ω) : Wat κ pc lv (.int y :: .int x :: st) ω := by
  obtain ⟨⟨⟨p, e, R⟩, ⟨s, m, args, below⟩, ⟨meth, c, cells, slots⟩, ⟨Q, A⟩, ⟨D, ad, cA⟩⟩, ⟨hx, hb, hml, hr, hts, hown, hlocks⟩, hK, hA, hroom⟩ := κ
  intro H locs ls hP hD hS hl
  exact lv_icmp_lt hx hb hd ht (fun h => kt h H locs ls hP hD hS hl) (fun h => kf h H locs ls hP hD hS hl)
set_option maxHeartbeats 1000000 in
theorem xr_lcmp_lt {l : Launch} {T : xKd} {cc : ByteArray} {own : String} {nL : Nat} {ret : Option FieldType} {d : Nat} (κ : XC l T cc own nL ret d) {pc : Nat} {lv : List (Nat × Value)} {st : List Value} {ω : xWd} {x y : Int64} {off : Int} {tgt : Nat} (hd0 : decode cc pc = .ok (.lcmp, 1)) (hd : decode cc (pc + 1) = .ok (.ifCond .lt off, 3)) (ht : ((pc + 1 : Nat) : Int) + off = (tgt : Int)) (kt : x < y → Wat κ tgt lv st ω) (kf : ¬ x < y → Wat κ (pc + 1 + 3) lv st ω) : Wat κ pc lv (.long y :: .long x :: st) ω := by
  obtain ⟨⟨⟨p, e, R⟩, ⟨s, m, args, below⟩, ⟨meth, c, cells, slots⟩, ⟨Q, A⟩, ⟨D, ad, cA⟩⟩, ⟨hx, hb, hml, hr, hts, hown, hlocks⟩, hK, hA, hroom⟩ := κ
  intro H locs ls hP hD hS hl
  exact W.lcmp hx hb hd0 (lv_if_lt hx hb hd ht (fun h => kt ((lg_cmp_lt x y).mp h) H locs ls hP hD hS hl) (fun h => kf (fun q => h ((lg_cmp_lt x y).mpr q)) H locs ls hP hD hS hl))
set_option maxHeartbeats 1000000 in
theorem xr_if_ge {l : Launch} {T : xKd} {cc : ByteArray} {own : String} {nL : Nat} {ret : Option FieldType} {d : Nat} (κ : XC l T cc own nL ret d) {pc : Nat} {lv : List (Nat × Value)} {st : List Value} {ω : xWd} {x : Int32} {off : Int} {tgt : Nat} (hd : decode cc pc = .ok (.ifCond .ge off, 3)) (ht : (pc : Int) + off = (tgt : Int)) (kt : 0 ≤ x → Wat κ tgt lv st ω) (kf : ¬ 0 ≤ x → Wat κ (pc + 3) lv st ω) : Wat κ pc lv (.int x :: st) ω := by
  obtain ⟨⟨⟨p, e, R⟩, ⟨s, m, args, below⟩, ⟨meth, c, cells, slots⟩, ⟨Q, A⟩, ⟨D, ad, cA⟩⟩, ⟨hx, hb, hml, hr, hts, hown, hlocks⟩, hK, hA, hroom⟩ := κ
  intro H locs ls hP hD hS hl
  exact lv_if_ge hx hb hd ht (fun h => kt h H locs ls hP hD hS hl) (fun h => kf h H locs ls hP hD hS hl)
set_option maxHeartbeats 1000000 in
theorem xr_icmp_ge {l : Launch} {T : xKd} {cc : ByteArray} {own : String} {nL : Nat} {ret : Option FieldType} {d : Nat} (κ : XC l T cc own nL ret d) {pc : Nat} {lv : List (Nat × Value)} {st : List Value} {ω : xWd} {x y : Int32} {off : Int} {tgt : Nat} (hd : decode cc pc = .ok (.if_icmp .ge off, 3)) (ht : (pc : Int) + off = (tgt : Int)) (kt : y ≤ x → Wat κ tgt lv st ω) (kf : ¬ y ≤ x → Wat κ (pc + 3) lv st ω) : Wat κ pc lv (.int y :: .int x :: st) ω := by
  obtain ⟨⟨⟨p, e, R⟩, ⟨s, m, args, below⟩, ⟨meth, c, cells, slots⟩, ⟨Q, A⟩, ⟨D, ad, cA⟩⟩, ⟨hx, hb, hml, hr, hts, hown, hlocks⟩, hK, hA, hroom⟩ := κ
  intro H locs ls hP hD hS hl
  exact lv_icmp_ge hx hb hd ht (fun h => kt h H locs ls hP hD hS hl) (fun h => kf h H locs ls hP hD hS hl)
set_option maxHeartbeats 1000000 in
theorem xr_lcmp_ge {l : Launch} {T : xKd} {cc : ByteArray} {own : String} {nL : Nat} {ret : Option FieldType} {d : Nat} (κ : XC l T cc own nL ret d) {pc : Nat} {lv : List (Nat × Value)} {st : List Value} {ω : xWd} {x y : Int64} {off : Int} {tgt : Nat} (hd0 : decode cc pc = .ok (.lcmp, 1)) (hd : decode cc (pc + 1) = .ok (.ifCond .ge off, 3)) (ht : ((pc + 1 : Nat) : Int) + off = (tgt : Int)) (kt : y ≤ x → Wat κ tgt lv st ω) (kf : ¬ y ≤ x → Wat κ (pc + 1 + 3) lv st ω) : Wat κ pc lv (.long y :: .long x :: st) ω := by
  obtain ⟨⟨⟨p, e, R⟩, ⟨s, m, args, below⟩, ⟨meth, c, cells, slots⟩, ⟨Q, A⟩, ⟨D, ad, cA⟩⟩, ⟨hx, hb, hml, hr, hts, hown, hlocks⟩, hK, hA, hroom⟩ := κ
  intro H locs ls hP hD hS hl
  exact W.lcmp hx hb hd0 (lv_if_ge hx hb hd ht (fun h => kt ((lg_cmp_ge x y).mp h) H locs ls hP hD hS hl) (fun h => kf (fun q => h ((lg_cmp_ge x y).mpr q)) H locs ls hP hD hS hl))
set_option maxHeartbeats 1000000 in
theorem xr_if_gt {l : Launch} {T : xKd} {cc : ByteArray} {own : String} {nL : Nat} {ret : Option FieldType} {d : Nat} (κ : XC l T cc own nL ret d) {pc : Nat} {lv : List (Nat × Value)} {st : List Value} {ω : xWd} {x : Int32} {off : Int} {tgt : Nat} (hd : decode cc pc = .ok (.ifCond .gt off, 3)) (ht : (pc : Int) + off = (tgt : Int)) (kt : 0 < x → Wat κ tgt lv st ω) (kf : ¬ 0 < x → Wat κ (pc + 3) lv st ω) : Wat κ pc lv (.int x :: st) ω := by
  obtain ⟨⟨⟨p, e, R⟩, ⟨s, m, args, below⟩, ⟨meth, c, cells, slots⟩, ⟨Q, A⟩, ⟨D, ad, cA⟩⟩, ⟨hx, hb, hml, hr, hts, hown, hlocks⟩, hK, hA, hroom⟩ := κ
  intro H locs ls hP hD hS hl
  exact lv_if_gt hx hb hd ht (fun h => kt h H locs ls hP hD hS hl) (fun h => kf h H locs ls hP hD hS hl)
set_option maxHeartbeats 1000000 in
theorem xr_icmp_gt {l : Launch} {T : xKd} {cc : ByteArray} {own : String} {nL : Nat} {ret : Option FieldType} {d : Nat} (κ : XC l T cc own nL ret d) {pc : Nat} {lv : List (Nat × Value)} {st : List Value} {ω : xWd} {x y : Int32} {off : Int} {tgt : Nat} (hd : decode cc pc = .ok (.if_icmp .gt off, 3)) (ht : (pc : Int) + off = (tgt : Int)) (kt : y < x → Wat κ tgt lv st ω) (kf : ¬ y < x → Wat κ (pc + 3) lv st ω) : Wat κ pc lv (.int y :: .int x :: st) ω := by
  obtain ⟨⟨⟨p, e, R⟩, ⟨s, m, args, below⟩, ⟨meth, c, cells, slots⟩, ⟨Q, A⟩, ⟨D, ad, cA⟩⟩, ⟨hx, hb, hml, hr, hts, hown, hlocks⟩, hK, hA, hroom⟩ := κ
  intro H locs ls hP hD hS hl
  exact lv_icmp_gt hx hb hd ht (fun h => kt h H locs ls hP hD hS hl) (fun h => kf h H locs ls hP hD hS hl)
set_option maxHeartbeats 1000000 in
theorem xr_lcmp_gt {l : Launch} {T : xKd} {cc : ByteArray} {own : String} {nL : Nat} {ret : Option FieldType} {d : Nat} (κ : XC l T cc own nL ret d) {pc : Nat} {lv : List (Nat × Value)} {st : List Value} {ω : xWd} {x y : Int64} {off : Int} {tgt : Nat} (hd0 : decode cc pc = .ok (.lcmp, 1)) (hd : decode cc (pc + 1) = .ok (.ifCond .gt off, 3)) (ht : ((pc + 1 : Nat) : Int) + off = (tgt : Int)) (kt : y < x → Wat κ tgt lv st ω) (kf : ¬ y < x → Wat κ (pc + 1 + 3) lv st ω) : Wat κ pc lv (.long y :: .long x :: st) ω := by
  obtain ⟨⟨⟨p, e, R⟩, ⟨s, m, args, below⟩, ⟨meth, c, cells, slots⟩, ⟨Q, A⟩, ⟨D, ad, cA⟩⟩, ⟨hx, hb, hml, hr, hts, hown, hlocks⟩, hK, hA, hroom⟩ := κ
  intro H locs ls hP hD hS hl
  exact W.lcmp hx hb hd0 (lv_if_gt hx hb hd ht (fun h => kt ((lg_cmp_gt x y).mp h) H locs ls hP hD hS hl) (fun h => kf (fun q => h ((lg_cmp_gt x y).mpr q)) H locs ls hP hD hS hl))
set_option maxHeartbeats 1000000 in
theorem xr_if_le {l : Launch} {T : xKd} {cc : ByteArray} {own : String} {nL : Nat} {ret : Option FieldType} {d : Nat} (κ : XC l T cc own nL ret d) {pc : Nat} {lv : List (Nat × Value)} {st : List Value} {ω : xWd} {x : Int32} {off : Int} {tgt : Nat} (hd : decode cc pc = .ok (.ifCond .le off, 3)) (ht : (pc : Int) + off = (tgt : Int)) (kt : x ≤ 0 → Wat κ tgt lv st ω) (kf : ¬ x ≤ 0 → Wat κ (pc + 3) lv st ω) : Wat κ pc lv (.int x :: st) ω := by
  obtain ⟨⟨⟨p, e, R⟩, ⟨s, m, args, below⟩, ⟨meth, c, cells, slots⟩, ⟨Q, A⟩, ⟨D, ad, cA⟩⟩, ⟨hx, hb, hml, hr, hts, hown, hlocks⟩, hK, hA, hroom⟩ := κ
  intro H locs ls hP hD hS hl
  exact lv_if_le hx hb hd ht (fun h => kt h H locs ls hP hD hS hl) (fun h => kf h H locs ls hP hD hS hl)
set_option maxHeartbeats 1000000 in
theorem xr_icmp_le {l : Launch} {T : xKd} {cc : ByteArray} {own : String} {nL : Nat} {ret : Option FieldType} {d : Nat} (κ : XC l T cc own nL ret d) {pc : Nat} {lv : List (Nat × Value)} {st : List Value} {ω : xWd} {x y : Int32} {off : Int} {tgt : Nat} (hd : decode cc pc = .ok (.if_icmp .le off, 3)) (ht : (pc : Int) + off = (tgt : Int)) (kt : x ≤ y → Wat κ tgt lv st ω) (kf : ¬ x ≤ y → Wat κ (pc + 3) lv st ω) : Wat κ pc lv (.int y :: .int x :: st) ω := by
  obtain ⟨⟨⟨p, e, R⟩, ⟨s, m, args, below⟩, ⟨meth, c, cells, slots⟩, ⟨Q, A⟩, ⟨D, ad, cA⟩⟩, ⟨hx, hb, hml, hr, hts, hown, hlocks⟩, hK, hA, hroom⟩ := κ
  intro H locs ls hP hD hS hl
  exact lv_icmp_le hx hb hd ht (fun h => kt h H locs ls hP hD hS hl) (fun h => kf h H locs ls hP hD hS hl)
set_option maxHeartbeats 1000000 in
theorem xr_lcmp_le {l : Launch} {T : xKd} {cc : ByteArray} {own : String} {nL : Nat} {ret : Option FieldType} {d : Nat} (κ : XC l T cc own nL ret d) {pc : Nat} {lv : List (Nat × Value)} {st : List Value} {ω : xWd} {x y : Int64} {off : Int} {tgt : Nat} (hd0 : decode cc pc = .ok (.lcmp, 1)) (hd : decode cc (pc + 1) = .ok (.ifCond .le off, 3)) (ht : ((pc + 1 : Nat) : Int) + off = (tgt : Int)) (kt : x ≤ y → Wat κ tgt lv st ω) (kf : ¬ x ≤ y → Wat κ (pc + 1 + 3) lv st ω) : Wat κ pc lv (.long y :: .long x :: st) ω := by
  obtain ⟨⟨⟨p, e, R⟩, ⟨s, m, args, below⟩, ⟨meth, c, cells, slots⟩, ⟨Q, A⟩, ⟨D, ad, cA⟩⟩, ⟨hx, hb, hml, hr, hts, hown, hlocks⟩, hK, hA, hroom⟩ := κ
  intro H locs ls hP hD hS hl
  exact W.lcmp hx hb hd0 (lv_if_le hx hb hd ht (fun h => kt ((lg_cmp_le x y).mp h) H locs ls hP hD hS hl) (fun h => kf (fun q => h ((lg_cmp_le x y).mpr q)) H locs ls hP hD hS hl))
/-- a class: its number, name, fields, how many, their types; its words are good -/
def xCls (ci : Nat) (C : String) (Tt : u_T) (N : Nat) (ty0 : Nat → FieldType) : Prop := vwCl[ci]? = some (C, Tt, N) ∧ (∀ w ∈ u_ws C Tt N, w ∈ xB) ∧ (∀ k, k < N → parseFieldDescriptor (Tt k).2.2.1 = some (ty0 k)) ∧ (∀ a, a < N → ∀ b, b < N → a ≠ b → (Tt a).2.1 ≠ (Tt b).2.1)
set_option maxHeartbeats 1000000 in
theorem xr_get {l : Launch} {T : xKd} {cc : ByteArray} {own : String} {nL : Nat} {ret : Option FieldType} {d : Nat} (κ : XC l T cc own nL ret d) {pc : Nat} {lv : List (Nat × Value)} {st : List Value} {ω : xWd} {ci : Nat} {C : String} {Tt : u_T} {N : Nat} {ty0 : Nat → FieldType} (hc : xCls ci C Tt N ty0) {k f ix : Nat} {fs : List Value} {v : Value} (hlink : Cond.fieldLink own ix (Tt f).1 (Tt f).2.1 (Tt f).2.2.1 ∈ xB) (hk : k < T.1) (hω : ω k = xO ci fs) (hf : f < N) (hv : fs[f]? = some v) (hd : decode cc pc = .ok (.getfield ix, 3)) (kk : Wat κ (pc + 3) lv (v :: st) ω) : Wat κ pc lv (.ref k :: st) ω := by
  obtain ⟨⟨⟨p, e, R⟩, ⟨s, m, args, below⟩, ⟨meth, c, cells, slots⟩, ⟨Q, A⟩, ⟨D, ad, cA⟩⟩, ⟨hx, hb, hml, hr, hts, hown, hlocks⟩, hK, hA, hroom⟩ := κ
  intro H locs ls hP hD hS hl
  exact va_get (D := D) (cl := vwCl) (ci := ci) (C := C) (T := Tt) (N := N) hx hb hts hc.2.1 hown hK.nil hP k (by rw [xW_get hk, hω]; rfl) hc.1 f hf (hts _ hlink) (fun _ h9 => h9) (v := xv ad v) (by rw [List.getElem?_map, hv]; rfl) hd (kk H locs ls hP hD hS hl)
set_option maxHeartbeats 1000000 in
theorem xr_put {l : Launch} {T : xKd} {cc : ByteArray} {own : String} {nL : Nat} {ret : Option FieldType} {d : Nat} (κ : XC l T cc own nL ret d) {pc : Nat} {lv : List (Nat × Value)} {st : List Value} {ω : xWd} {ci : Nat} {C : String} {Tt : u_T} {N : Nat} {ty0 : Nat → FieldType} (hc : xCls ci C Tt N ty0) {k f ix : Nat} {fs : List Value} {v : Value} {ω' : xWd} (hlink : Cond.fieldLink own ix (Tt f).1 (Tt f).2.1 (Tt f).2.2.1 ∈ xB) (hk : k < T.1) (hω : ω k = xO ci fs) (hf : f < N) (hfin : (Tt f).2.2.2 = false) (hnr : ∀ ad, narrow (ty0 f) (xv ad v) = xv ad v) (hft : ∀ ad, fits (ty0 f) (xv ad v) = true) (hlen : f < fs.length) (hw : va_up ω k (xO ci (fs.set f v)) = ω') (hd : decode cc pc = .ok (.putfield ix, 3)) (kk : Wat κ (pc + 3) lv (st) ω') : Wat κ pc lv (v :: .ref k :: st) ω := by
  obtain ⟨⟨⟨p, e, R⟩, ⟨s, m, args, below⟩, ⟨meth, c, cells, slots⟩, ⟨Q, A⟩, ⟨D, ad, cA⟩⟩, ⟨hx, hb, hml, hr, hts, hown, hlocks⟩, hK, hA, hroom⟩ := κ
  intro H locs ls hP hD hS hl
  refine va_put (D := D) (cl := vwCl) (ci := ci) (C := C) (T := Tt) (N := N) (a := ad k) (fs := fs.map (xv ad)) hx hb hts hc.2.1 ty0 hc.2.2.1 hc.2.2.2 hown hK.nil hP hD hS k (by rw [xW_get hk, hω]; rfl) hc.1 f hf (hts _ hlink) (fun _ h9 => h9) hfin (v := xv ad v) (hc.2.2.1 f hf) (hnr ad) (hft ad) (by rw [List.length_map]; exact hlen) hd (fun H1 locs1 hP1 hD1 hS1 => ?_)
  have e : (xW ad cA T.1 ω).set k (ad k, .inr (ci, (fs.map (xv ad)).set f (xv ad v))) = xW ad cA T.1 ω' := by
    rw [← hw, ← xW_set, ← List.map_set]; rfl
  rw [e] at hP1 hD1
  exact kk H1 locs1 ls hP1 hD1 hS1 hl
set_option maxHeartbeats 1000000 in
theorem xr_getN {l : Launch} {T : xKd} {cc : ByteArray} {own : String} {nL : Nat} {ret : Option FieldType} {d : Nat} (κ : XC l T cc own nL ret d) {pc : Nat} {lv : List (Nat × Value)} {st : List Value} {ω : xWd} {ci : Nat} {C : String} {Tt : u_T} {N : Nat} {ty0 : Nat → FieldType} (hc : xCls ci C Tt N ty0) {k f ix : Nat} {fs : List Value} {v : Value} {host : String} (hlink : Cond.fieldLinkNest own ix (Tt f).1 (Tt f).2.1 (Tt f).2.2.1 host ∈ xNest) (hk : k < T.1) (hω : ω k = xO ci fs) (hf : f < N) (hv : fs[f]? = some v) (hd : decode cc pc = .ok (.getfield ix, 3)) (kk : Wat κ (pc + 3) lv (v :: st) ω) : Wat κ pc lv (.ref k :: st) ω := by
  obtain ⟨⟨⟨p, e, R⟩, ⟨s, m, args, below⟩, ⟨meth, c, cells, slots⟩, ⟨Q, A⟩, ⟨D, ad, cA⟩⟩, ⟨hx, hb, hml, hr, hts, hown, hlocks⟩, hK, hA, hroom⟩ := κ
  intro H locs ls hP hD hS hl
  exact va_getN (D := D) (cl := vwCl) (ci := ci) (C := C) (T := Tt) (N := N) hx hb hts hc.2.1 hown hK.nil hP k (by rw [xW_get hk, hω]; rfl) hc.1 f hf ((hK.2.2 _ hlink).use rfl) (fun _ h9 => h9) (v := xv ad v) (by rw [List.getElem?_map, hv]; rfl) hd (kk H locs ls hP hD hS hl)
set_option maxHeartbeats 1000000 in
theorem xr_putN {l : Launch} {T : xKd} {cc : ByteArray} {own : String} {nL : Nat} {ret : Option FieldType} {d : Nat} (κ : XC l T cc own nL ret d) {pc : Nat} {lv : List (Nat × Value)} {st : List Value} {ω : xWd} {ci : Nat} {C : String} {Tt : u_T} {N : Nat} {ty0 : Nat → FieldType} (hc : xCls ci C Tt N ty0) {k f ix : Nat} {fs : List Value} {v : Value} {ω' : xWd} {host : String} (hlink : Cond.fieldLinkNest own ix (Tt f).1 (Tt f).2.1 (Tt f).2.2.1 host ∈ xNest) (hk : k < T.1) (hω : ω k = xO ci fs) (hf : f < N) (hfin : (Tt f).2.2.2 = false) (hnr : ∀ ad, narrow (ty0 f) (xv ad v) = xv ad v) (hft : ∀ ad, fits (ty0 f) (xv ad v) = true) (hlen : f < fs.length) (hw : va_up ω k (xO ci (fs.set f v)) = ω') (hd : decode cc pc = .ok (.putfield ix, 3)) (kk : Wat κ (pc + 3) lv (st) ω') : Wat κ pc lv (v :: .ref k :: st) ω := by
  obtain ⟨⟨⟨p, e, R⟩, ⟨s, m, args, below⟩, ⟨meth, c, cells, slots⟩, ⟨Q, A⟩, ⟨D, ad, cA⟩⟩, ⟨hx, hb, hml, hr, hts, hown, hlocks⟩, hK, hA, hroom⟩ := κ
  intro H locs ls hP hD hS hl
  refine va_putN (D := D) (cl := vwCl) (ci := ci) (C := C) (T := Tt) (N := N) (a := ad k) (fs := fs.map (xv ad)) hx hb hts hc.2.1 ty0 hc.2.2.1 hc.2.2.2 hown hK.nil hP hD hS k (by rw [xW_get hk, hω]; rfl) hc.1 f hf ((hK.2.2 _ hlink).use rfl) (fun _ h9 => h9) hfin (v := xv ad v) (hc.2.2.1 f hf) (hnr ad) (hft ad) (by rw [List.length_map]; exact hlen) hd (fun H1 locs1 hP1 hD1 hS1 => ?_)
  have e : (xW ad cA T.1 ω).set k (ad k, .inr (ci, (fs.map (xv ad)).set f (xv ad v))) = xW ad cA T.1 ω' := by
    rw [← hw, ← xW_set, ← List.map_set]; rfl
  rw [e] at hP1 hD1
  exact kk H1 locs1 ls hP1 hD1 hS1 hl
set_option maxHeartbeats 1000000 in
theorem xr_iald {l : Launch} {T : xKd} {cc : ByteArray} {own : String} {nL : Nat} {ret : Option FieldType} {d : Nat} (κ : XC l T cc own nL ret d) {pc : Nat} {lv : List (Nat × Value)} {st : List Value} {ω : xWd} {k n : Nat} {f : Nat → Int32} {i : Int32} (hk : k < T.1) (ht : T.2 k = some .int) (hω : ω k = xI n f) (hin : vp_in i n) (hd : decode cc pc = .ok (.iaload, 1)) (kk : Wat κ (pc + 1) lv (.int (f i.toNatClampNeg) :: st) ω) : Wat κ pc lv (.int i :: .ref k :: st) ω := by
  obtain ⟨⟨⟨p, e, R⟩, ⟨s, m, args, below⟩, ⟨meth, c, cells, slots⟩, ⟨Q, A⟩, ⟨D, ad, cA⟩⟩, ⟨hx, hb, hml, hr, hts, hown, hlocks⟩, hK, hA, hroom⟩ := κ
  intro H locs ls hP hD hS hl
  exact va_iald hx hb (hK.tys hk ht) hP k 0 (by rw [xW_get hk, hω]; rfl) rfl hin hd (kk H locs ls hP hD hS hl)
set_option maxHeartbeats 1000000 in
theorem xr_lald {l : Launch} {T : xKd} {cc : ByteArray} {own : String} {nL : Nat} {ret : Option FieldType} {d : Nat} (κ : XC l T cc own nL ret d) {pc : Nat} {lv : List (Nat × Value)} {st : List Value} {ω : xWd} {k n : Nat} {f : Nat → Int64} {i : Int32} (hk : k < T.1) (ht : T.2 k = some .long) (hω : ω k = xJ n f) (hin : vp_in i n) (hd : decode cc pc = .ok (.laload, 1)) (kk : Wat κ (pc + 1) lv (.long (f i.toNatClampNeg) :: st) ω) : Wat κ pc lv (.int i :: .ref k :: st) ω := by
  obtain ⟨⟨⟨p, e, R⟩, ⟨s, m, args, below⟩, ⟨meth, c, cells, slots⟩, ⟨Q, A⟩, ⟨D, ad, cA⟩⟩, ⟨hx, hb, hml, hr, hts, hown, hlocks⟩, hK, hA, hroom⟩ := κ
  intro H locs ls hP hD hS hl
  exact va_lald hx hb (hK.tys hk ht) hP k 0 (by rw [xW_get hk, hω]; rfl) rfl hin hd (kk H locs ls hP hD hS hl)
set_option maxHeartbeats 1000000 in
theorem xr_iast {l : Launch} {T : xKd} {cc : ByteArray} {own : String} {nL : Nat} {ret : Option FieldType} {d : Nat} (κ : XC l T cc own nL ret d) {pc : Nat} {lv : List (Nat × Value)} {st : List Value} {ω : xWd} {k n : Nat} {f : Nat → Int32} {i : Int32} {x : Int32} {ω' : xWd} (hk : k < T.1) (ht : T.2 k = some .int) (hω : ω k = xI n f) (hin : vp_in i n) (hw : va_up ω k (xI n (upd f i.toNatClampNeg x)) = ω') (hd : decode cc pc = .ok (.iastore, 1)) (kk : Wat κ (pc + 1) lv (st) ω') : Wat κ pc lv (.int x :: .int i :: .ref k :: st) ω := by
  obtain ⟨⟨⟨p, e, R⟩, ⟨s, m, args, below⟩, ⟨meth, c, cells, slots⟩, ⟨Q, A⟩, ⟨D, ad, cA⟩⟩, ⟨hx, hb, hml, hr, hts, hown, hlocks⟩, hK, hA, hroom⟩ := κ
  intro H locs ls hP hD hS hl
  refine va_iast (a := ad k) (cA := cA k) (n := n) (f := f) hx hb (hK.tys hk ht) hP hD hS k 0 (by rw [xW_get hk, hω]; rfl) rfl hin hd (fun H1 locs1 hP1 hD1 hS1 => ?_)
  have e : (xW ad cA T.1 ω).set k (ad k, xe ad cA k (xI n (upd f i.toNatClampNeg x))) = xW ad cA T.1 ω' := by
    rw [xW_set, hw]
  have hP2 : va_P D vwCl ((xW ad cA T.1 ω).set k (ad k, xe ad cA k (xI n (upd f i.toNatClampNeg x)))) H1 := hP1
  have hD2 : va_D A ((xW ad cA T.1 ω).set k (ad k, xe ad cA k (xI n (upd f i.toNatClampNeg x)))) := hD1
  rw [e] at hP2 hD2
  exact kk H1 locs1 ls hP2 hD2 hS1 hl
set_option maxHeartbeats 1000000 in
theorem xr_last {l : Launch} {T : xKd} {cc : ByteArray} {own : String} {nL : Nat} {ret : Option FieldType} {d : Nat} (κ : XC l T cc own nL ret d) {pc : Nat} {lv : List (Nat × Value)} {st : List Value} {ω : xWd} {k n : Nat} {f : Nat → Int64} {i : Int32} {x : Int64} {ω' : xWd} (hk : k < T.1) (ht : T.2 k = some .long) (hω : ω k = xJ n f) (hin : vp_in i n) (hw : va_up ω k (xJ n (vp_updL f i.toNatClampNeg x)) = ω') (hd : decode cc pc = .ok (.lastore, 1)) (kk : Wat κ (pc + 1) lv (st) ω') : Wat κ pc lv (.long x :: .int i :: .ref k :: st) ω := by
  obtain ⟨⟨⟨p, e, R⟩, ⟨s, m, args, below⟩, ⟨meth, c, cells, slots⟩, ⟨Q, A⟩, ⟨D, ad, cA⟩⟩, ⟨hx, hb, hml, hr, hts, hown, hlocks⟩, hK, hA, hroom⟩ := κ
  intro H locs ls hP hD hS hl
  refine va_last (a := ad k) (cA := cA k) (n := n) (f := f) hx hb (hK.tys hk ht) hP hD hS k 0 (by rw [xW_get hk, hω]; rfl) rfl hin hd (fun H1 locs1 hP1 hD1 hS1 => ?_)
  have e : (xW ad cA T.1 ω).set k (ad k, xe ad cA k (xJ n (vp_updL f i.toNatClampNeg x))) = xW ad cA T.1 ω' := by
    rw [xW_set, hw]
  have hP2 : va_P D vwCl ((xW ad cA T.1 ω).set k (ad k, xe ad cA k (xJ n (vp_updL f i.toNatClampNeg x)))) H1 := hP1
  have hD2 : va_D A ((xW ad cA T.1 ω).set k (ad k, xe ad cA k (xJ n (vp_updL f i.toNatClampNeg x)))) := hD1
  rw [e] at hP2 hD2
  exact kk H1 locs1 ls hP2 hD2 hS1 hl
set_option maxHeartbeats 1000000 in
theorem xr_aald {l : Launch} {T : xKd} {cc : ByteArray} {own : String} {nL : Nat} {ret : Option FieldType} {d : Nat} (κ : XC l T cc own nL ret d) {pc : Nat} {lv : List (Nat × Value)} {st : List Value} {ω : xWd} {k n j : Nat} {f : Nat → Option Nat} {i : Int32} {ety : FieldType} (hk : k < T.1) (ht : T.2 k = some ety) (hr9 : ety.isReference = true) (hω : ω k = xR n f) (hin : vp_in i n) (hj : f i.toNatClampNeg = some j) (hd : decode cc pc = .ok (.aaload, 1)) (kk : Wat κ (pc + 1) lv (.ref j :: st) ω) : Wat κ pc lv (.int i :: .ref k :: st) ω := by
  obtain ⟨⟨⟨p, e, R⟩, ⟨s, m, args, below⟩, ⟨meth, c, cells, slots⟩, ⟨Q, A⟩, ⟨D, ad, cA⟩⟩, ⟨hx, hb, hml, hr, hts, hown, hlocks⟩, hK, hA, hroom⟩ := κ
  intro H locs ls hP hD hS hl
  have hlt : i.toNatClampNeg < n := Nat.not_le.mp fun q => hin (Or.inr q)
  have ha : (xW ad cA T.1 ω)[k]? = some (ad k, .inl (cA k, n, .inr (.inr (.inr (.inr (fun j => (f j).map ad)))))) := by rw [xW_get hk, hω]; rfl
  have hv : va_rf ((f i.toNatClampNeg).map ad) = .ref (ad j) := by rw [hj]; rfl
  exact W.aald (v := .ref (ad j)) (ty := ety) hx hb (hP k _ ha) (((hK.tys hk ht).2 0 _ rfl).1 n (fun j => va_rf ((f j).map ad))) hr9 (fun q => by cases q) (by show ¬ (i < 0 ∨ (arrV _ _ _).slots.size ≤ _); rw [arrV_size]; exact hin) (by show (arrV _ _ _).slots[_]? = _; rw [arrV_read _ _ hlt, hv]) rfl rfl hd (kk H locs ls hP hD hS hl)
set_option maxHeartbeats 1000000 in
theorem xr_iret {l : Launch} {T : xKd} {cc : ByteArray} {own : String} {nL : Nat} {d : Nat} (κ : XC l T cc own nL (some .int) d) {pc : Nat} {lv : List (Nat × Value)} {ω : xWd} (K : Option Value → xWd → Prop) (hQ : xRet κ K) {x : Int32} (hd : decode cc pc = .ok (.ireturn, 1)) (hk : K (some (.int x)) ω) : Wat κ pc lv [.int x] ω := by
  obtain ⟨⟨⟨p, e, R⟩, ⟨s, m, args, below⟩, ⟨meth, c, cells, slots⟩, ⟨Q, A⟩, ⟨D, ad, cA⟩⟩, ⟨hx, hb, hml, hr, hts, hown, hlocks⟩, hK, hA, hroom⟩ := κ
  have hQ : Q = MQ below (xQ T D ad cA A K) args s cells slots A := hQ
  subst hQ
  intro H locs ls hP hD hS hl
  exact W.iret hx hb hr (fun t ht hW => ⟨⟨(some (.int x)), ω, rfl, hk, by rw [ht]; exact hP⟩, hS.F ht⟩) hS.2.2 hd hlocks
set_option maxHeartbeats 1000000 in
theorem xr_zret {l : Launch} {T : xKd} {cc : ByteArray} {own : String} {nL : Nat} {d : Nat} (κ : XC l T cc own nL (some .boolean) d) {pc : Nat} {lv : List (Nat × Value)} {ω : xWd} (K : Option Value → xWd → Prop) (hQ : xRet κ K) {x : Int32} (hn : narrow .boolean (.int x) = .int x) (hd : decode cc pc = .ok (.ireturn, 1)) (hk : K (some (.int x)) ω) : Wat κ pc lv [.int x] ω := by
  obtain ⟨⟨⟨p, e, R⟩, ⟨s, m, args, below⟩, ⟨meth, c, cells, slots⟩, ⟨Q, A⟩, ⟨D, ad, cA⟩⟩, ⟨hx, hb, hml, hr, hts, hown, hlocks⟩, hK, hA, hroom⟩ := κ
  have hQ : Q = MQ below (xQ T D ad cA A K) args s cells slots A := hQ
  subst hQ
  intro H locs ls hP hD hS hl
  exact W.zret hx hb hr hn (fun t ht hW => ⟨⟨(some (.int x)), ω, rfl, hk, by rw [ht]; exact hP⟩, hS.F ht⟩) hS.2.2 hd hlocks
set_option maxHeartbeats 1000000 in
theorem xr_lret {l : Launch} {T : xKd} {cc : ByteArray} {own : String} {nL : Nat} {d : Nat} (κ : XC l T cc own nL (some .long) d) {pc : Nat} {lv : List (Nat × Value)} {ω : xWd} (K : Option Value → xWd → Prop) (hQ : xRet κ K) {x : Int64} (hd : decode cc pc = .ok (.lreturn, 1)) (hk : K (some (.long x)) ω) : Wat κ pc lv [.long x] ω := by
  obtain ⟨⟨⟨p, e, R⟩, ⟨s, m, args, below⟩, ⟨meth, c, cells, slots⟩, ⟨Q, A⟩, ⟨D, ad, cA⟩⟩, ⟨hx, hb, hml, hr, hts, hown, hlocks⟩, hK, hA, hroom⟩ := κ
  have hQ : Q = MQ below (xQ T D ad cA A K) args s cells slots A := hQ
  subst hQ
  intro H locs ls hP hD hS hl
  exact W.lret hx hb hr (fun t ht hW => ⟨⟨(some (.long x)), ω, rfl, hk, by rw [ht]; exact hP⟩, hS.F ht⟩) hS.2.2 hd hlocks
set_option maxHeartbeats 1000000 in
theorem xr_vret {l : Launch} {T : xKd} {cc : ByteArray} {own : String} {nL : Nat} {d : Nat} (κ : XC l T cc own nL none d) {pc : Nat} {lv : List (Nat × Value)} {ω : xWd} (K : Option Value → xWd → Prop) (hQ : xRet κ K)  (hd : decode cc pc = .ok (.return_, 1)) (hk : K none ω) : Wat κ pc lv [] ω := by
  obtain ⟨⟨⟨p, e, R⟩, ⟨s, m, args, below⟩, ⟨meth, c, cells, slots⟩, ⟨Q, A⟩, ⟨D, ad, cA⟩⟩, ⟨hx, hb, hml, hr, hts, hown, hlocks⟩, hK, hA, hroom⟩ := κ
  have hQ : Q = MQ below (xQ T D ad cA A K) args s cells slots A := hQ
  subst hQ
  intro H locs ls hP hD hS hl
  exact W.vret hx hb hr (fun t ht hW => ⟨⟨none, ω, rfl, hk, by rw [ht]; exact hP⟩, hS.F ht⟩) hS.2.2 hd hlocks
/-- after a call -/
theorem xr_after {l : Launch} {T : xKd} {p : Program} {e : Env} {R : Room} {s : State} {m : MethodId} {args : Array Value} {below : List Frame} {meth : Method} {c : Code} {cells slots : Nat} {Q : State → Prop} {A : Nat → Prop} {D : va_G} {ad : Nat → Nat} {cA : Nat → ClassId} {H : Heap} {locs : List Loc} {ls : Array Slot} {pc : Nat} {st0 rest : List Value} {a : Array Value} {K : Option Value → xWd → Prop} {ω : xWd} (hA : ∀ q, s.heap.size ≤ q → A q)
    (hr : va_Run p l e R s m args below meth c H locs cells slots 0 0 (F0 m pc ls st0) (rest.map (xv ad)) (xQ T D ad cA (xA ad T.1 H.size) K a) (xA ad T.1 H.size)) (hD : va_D A (xW ad cA T.1 ω)) (hS : va_S A s.heap H locs)
    (kk : ∀ (v : Option Value) (ω' : xWd), K v ω' → ∀ (H1 : Heap) (locs1 : List Loc), va_P D vwCl (xW ad cA T.1 ω') H1 → va_D A (xW ad cA T.1 ω') → va_S A s.heap H1 locs1 → W p l e R s m args below meth c H1 locs1 cells slots Q (F0 m (pc + 3) ls ((v.toList ++ rest).map (xv ad)))) : W p l e R s m args below meth c H locs cells slots Q (F0 m pc ls st0) := by
  have hAA : ∀ q, xA ad T.1 H.size q → A q := fun q h => by
    rcases h with ⟨k, hk, rfl⟩ | h
    · exact xA_D hD hk
    · exact hA q (Nat.le_trans hS.1 h)
  intro X0 hT X
  obtain ⟨v, st₀, t, T', L, h0, X', hL, e1, e2, ⟨⟨v1, ω', hv, hk, hP1⟩, hz, hkp⟩, st⟩ := hr X0 hT X
  cases hv
  rw [h0] at hz hkp
  obtain ⟨t2, a1, b1⟩ := kk v1 ω' hk T'.heap (locs ++ L) (by rw [e1]; exact hP1) (xD_any hD)
    ⟨Nat.le_trans hS.1 (by rw [e1]; exact hz), fun q h1 h2 => by rw [e1, hkp q (Nat.lt_of_lt_of_le h1 hS.1) (fun z => h2 (hAA q z))]; exact hS.2.1 q h1 h2, fun q hq => by
      rcases List.mem_append.mp hq with h | h
      · exact hS.2.2 q h
      · exact hAA _ (hL q h)⟩ T' rfl X'
  refine ⟨t2, st t2 ?_, b1⟩
  have e3 : (v1.map (xv ad)).toList ++ rest.map (xv ad) = (v1.toList ++ rest).map (xv ad) := by cases v1 <;> rfl
  rw [e3]
  exact a1
def xArg (y : MethodName) (n : Nat) : Prop := y.cls ≠ "java/lang/invoke/MethodHandle" ∧ y.cls ≠ "java/lang/invoke/VarHandle" ∧ (parseMethodDescriptor y.desc).map (fun d => d.parameters.length) = some n
/-- what a method's own words are, wherever it is called -/
def xTgt (y : MethodName) (cc : ByteArray) (mL : Nat) (ret : Option FieldType) (n : Nat) : Prop := Cond.initialized y.cls ∈ xB ∧ Cond.code y cc mL ret ∈ xB ∧ xArg y n
def xTgtV (y : MethodName) (cc : ByteArray) (mL : Nat) (ret : Option FieldType) (n : Nat) : Prop := xTgt y cc mL ret n ∧ Cond.instanceMethod y ∈ xB ∧ Cond.selects y.cls y y ∈ xB
def xTgtS (y : MethodName) (cc : ByteArray) (mL : Nat) (ret : Option FieldType) (n : Nat) : Prop := xTgt y cc mL ret n ∧ Cond.static y ∈ xB
theorem xPc_blind {T : xKd} {D : va_G} {ad : Nat → Nat} {cA : Nat → ClassId} {as : List Value} {sz : Nat} {ω : xWd} : FrameBlind (va_Pc as (fun U => U.heap.size = sz ∧ va_P D vwCl (xW ad cA T.1 ω) U.heap ∧ xKs T D cA U ∧ va_D (fun _ => True) (xW ad cA T.1 ω))) := fun a U g mk q => by
  obtain ⟨q0, q1, qP, qK, qD⟩ := q
  exact ⟨q0, q1, qP, qK.calling, qD⟩
theorem goodIn_app2 {a b c : Cond} {ws : List Cond} (h1 : a ∈ xB ∧ ((a.onTables && a.keeps) = true ∨ ∃ ty, a = .arrayClass ty)) (h2 : b ∈ xB ∧ ((b.onTables && b.keeps) = true ∨ ∃ ty, b = .arrayClass ty)) (h3 : c ∈ xB ∧ ((c.onTables && c.keeps) = true ∨ ∃ ty, c = .arrayClass ty)) (h : GoodIn xB ws) : GoodIn xB ([a, b, c] ++ ws) := fun w hw => by
  rcases List.mem_append.mp hw with q | q
  · rcases List.mem_cons.mp q with e | q
    · rw [e]; exact h1
    rcases List.mem_cons.mp q with e | q
    · rw [e]; exact h2
    rcases List.mem_cons.mp q with e | q
    · rw [e]; exact h3
    exact absurd q List.not_mem_nil
  · exact h w q
theorem xgoodS {own : String} {ix : Nat} {y : MethodName} {ws : List Cond} (h1 : Cond.methodLink own ix y ∈ xB) (h2 : Cond.static y ∈ xB) (h3 : Cond.initialized y.cls ∈ xB) (h : GoodIn xB ws) : GoodIn xB (va_wsS own ix y ws) := goodIn_app2 (xB_good _ h1) (xB_good _ h2) (xB_good _ h3) h

set_option maxHeartbeats 1000000 in
theorem xr_callV {l : Launch} {T : xKd} {cc : ByteArray} {own : String} {nL : Nat} {ret : Option FieldType} {d : Nat} (κ : XC l T cc own nL ret d) {pc : Nat} {lv : List (Nat × Value)} {st : List Value} {ω : xWd} (as : List Value) {y : MethodName} {bytes : ByteArray} {mL n dc ix : Nat} {ret' : Option FieldType} {K : Option Value → xWd → Prop} {kr ci : Nat} {fs : List Value} {q : vw_C} (hlk : Cond.methodLink own ix y ∈ xB) (hL : xTgtV y bytes mL ret' n) (hM : XM l T y bytes mL ret' dc (.ref kr :: as) ω K) (hn : as.length = n) (hdc : dc + 1 ≤ d) (hmL : mL ≤ 21) (hk : kr < T.1) (hω : ω kr = xO ci fs) (hci : vwCl[ci]? = some q) (hq : q.1 = y.cls) (hcat : (st.map fun v => v.category).sum ≤ 8) (hd : decode cc pc = .ok (.invokevirtual ix, 3)) (kk : ∀ v ω', K v ω' → Wat κ (pc + 3) lv (v.toList ++ st) ω') : Wat κ pc lv (as.reverse ++ .ref kr :: st) ω := by
  obtain ⟨⟨⟨p, e, R⟩, ⟨s, m, args, below⟩, ⟨meth, c, cells, slots⟩, ⟨Q, A⟩, ⟨D, ad, cA⟩⟩, ⟨hx, hb, hml, hr, hts, hown, hlocks⟩, hK, hA, hroom⟩ := κ
  intro H locs ls hP hD hS hl
  refine xr_after hA (va_runV (b := ad kr) (As := as.map (xv ad)) (rest := st.map (xv ad)) ⟨hx, hb, hml, hown, hts⟩ (hM D ad cA H.size) ⟨callB_of n hts (xw_good hL.1.2.1) rfl rfl rfl (hts _ hL.1.1) (hts _ hlk) hL.1.2.2 ⟨Nat.le_trans hdc hroom.1, Nat.le_trans (by show 8 + (mL + 11) + 40 * dc ≤ 40 * d; omega) hroom.2.1⟩, hts _ hL.2.1, hts _ hL.2.2⟩ ⟨xPc_blind, ?_, fun U hU hW => ⟨rfl, by rw [hU], by rw [hU]; exact hP, hK.warm hW, ⟨hD.1, fun _ _ _ => trivial⟩⟩⟩ rfl (by rw [List.length_map]; exact hn) hl.1 (by show (List.map (xv ad) (as.reverse ++ .ref kr :: st)) = _; rw [List.map_append, List.map_reverse]; rfl) (lv_room (by rw [List.map_map]; rw [show ((fun v : Value => v.category) ∘ xv ad) = (fun v => v.category) from funext fun v => xv_cat ad v]; exact hcat)) hd ⟨hroom.2.2.1, hroom.2.2.2⟩) hD hS (fun v ω1 hk1 H1 locs1 hP1 hD1 hS1 => kk v ω1 hk1 H1 locs1 ls hP1 hD1 hS1 hl)
  have h := va_recv hK.nil hP (ci := ci) (q0 := kr) (a := ad kr) (fs := fs.map (xv ad)) hci (by rw [xW_get hk, hω]; rfl)
  rw [hq] at h
  exact h
set_option maxHeartbeats 1000000 in
theorem xr_callVN {l : Launch} {T : xKd} {cc : ByteArray} {own : String} {nL : Nat} {ret : Option FieldType} {d : Nat} (κ : XC l T cc own nL ret d) {pc : Nat} {lv : List (Nat × Value)} {st : List Value} {ω : xWd} (as : List Value) {y : MethodName} {bytes : ByteArray} {mL n dc ix : Nat} {ret' : Option FieldType} {K : Option Value → xWd → Prop} {kr ci : Nat} {fs : List Value} {q : vw_C} {host : String} (hlk : Cond.methodLinkNest own ix y host ∈ xNest) (hL : xTgtV y bytes mL ret' n) (hM : XM l T y bytes mL ret' dc (.ref kr :: as) ω K) (hn : as.length = n) (hdc : dc + 1 ≤ d) (hmL : mL ≤ 21) (hk : kr < T.1) (hω : ω kr = xO ci fs) (hci : vwCl[ci]? = some q) (hq : q.1 = y.cls) (hcat : (st.map fun v => v.category).sum ≤ 8) (hd : decode cc pc = .ok (.invokevirtual ix, 3)) (kk : ∀ v ω', K v ω' → Wat κ (pc + 3) lv (v.toList ++ st) ω') : Wat κ pc lv (as.reverse ++ .ref kr :: st) ω := by
  obtain ⟨⟨⟨p, e, R⟩, ⟨s, m, args, below⟩, ⟨meth, c, cells, slots⟩, ⟨Q, A⟩, ⟨D, ad, cA⟩⟩, ⟨hx, hb, hml, hr, hts, hown, hlocks⟩, hK, hA, hroom⟩ := κ
  intro H locs ls hP hD hS hl
  refine xr_after hA (va_runVN (b := ad kr) (As := as.map (xv ad)) (rest := st.map (xv ad)) ⟨hx, hb, hml, hown, hts⟩ (hM D ad cA H.size) ⟨va_cnB n hts (xw_good hL.1.2.1) rfl rfl rfl (hK.2.2 _ hlk) (hts _ hL.1.1) hL.1.2.2 ⟨Nat.le_trans hdc hroom.1, Nat.le_trans (by show 8 + (mL + 11) + 40 * dc ≤ 40 * d; omega) hroom.2.1⟩, hts _ hL.2.1, hts _ hL.2.2⟩ ⟨xPc_blind, ?_, fun U hU hW => ⟨rfl, by rw [hU], by rw [hU]; exact hP, hK.warm hW, ⟨hD.1, fun _ _ _ => trivial⟩⟩⟩ rfl (by rw [List.length_map]; exact hn) hl.1 (by show (List.map (xv ad) (as.reverse ++ .ref kr :: st)) = _; rw [List.map_append, List.map_reverse]; rfl) (lv_room (by rw [List.map_map]; rw [show ((fun v : Value => v.category) ∘ xv ad) = (fun v => v.category) from funext fun v => xv_cat ad v]; exact hcat)) hd ⟨hroom.2.2.1, hroom.2.2.2⟩) hD hS (fun v ω1 hk1 H1 locs1 hP1 hD1 hS1 => kk v ω1 hk1 H1 locs1 ls hP1 hD1 hS1 hl)
  have h := va_recv hK.nil hP (ci := ci) (q0 := kr) (a := ad kr) (fs := fs.map (xv ad)) hci (by rw [xW_get hk, hω]; rfl)
  rw [hq] at h
  exact h
set_option maxHeartbeats 1000000 in
theorem xr_callS {l : Launch} {T : xKd} {cc : ByteArray} {own : String} {nL : Nat} {ret : Option FieldType} {d : Nat} (κ : XC l T cc own nL ret d) {pc : Nat} {lv : List (Nat × Value)} {st : List Value} {ω : xWd} (as : List Value) {y : MethodName} {bytes : ByteArray} {mL n dc ix : Nat} {ret' : Option FieldType} {K : Option Value → xWd → Prop} (hlk : Cond.methodLink own ix y ∈ xB) (hL : xTgtS y bytes mL ret' n) (hM : XM l T y bytes mL ret' dc as ω K) (hn : as.length = n) (hdc : dc + 1 ≤ d) (hmL : mL ≤ 21) (hcat : (st.map fun v => v.category).sum ≤ 8) (hd : decode cc pc = .ok (.invokestatic ix, 3)) (kk : ∀ v ω', K v ω' → Wat κ (pc + 3) lv (v.toList ++ st) ω') : Wat κ pc lv (as.reverse ++ st) ω := by
  obtain ⟨⟨⟨p, e, R⟩, ⟨s, m, args, below⟩, ⟨meth, c, cells, slots⟩, ⟨Q, A⟩, ⟨D, ad, cA⟩⟩, ⟨hx, hb, hml, hr, hts, hown, hlocks⟩, hK, hA, hroom⟩ := κ
  intro H locs ls hP hD hS hl
  exact xr_after hA (va_runS (As := as.map (xv ad)) (rest := st.map (xv ad)) ⟨hx, hb, hml, hown, hts⟩ (hM D ad cA H.size) ⟨callB_of n hts (xw_good hL.1.2.1) rfl rfl rfl (hts _ hL.1.1) (hts _ hlk) hL.1.2.2 ⟨Nat.le_trans hdc hroom.1, Nat.le_trans (by show 8 + (mL + 11) + 40 * dc ≤ 40 * d; omega) hroom.2.1⟩, hts _ hL.2⟩ ⟨xPc_blind, fun U hU hW => ⟨rfl, by rw [hU], by rw [hU]; exact hP, hK.warm hW, ⟨hD.1, fun _ _ _ => trivial⟩⟩⟩ rfl (by rw [List.length_map]; exact hn) hl.1 (by show (List.map (xv ad) (as.reverse ++ st)) = _; rw [List.map_append, List.map_reverse]) (lv_room (by rw [List.map_map]; rw [show ((fun v : Value => v.category) ∘ xv ad) = (fun v => v.category) from funext fun v => xv_cat ad v]; exact hcat)) hd ⟨hroom.2.2.1, hroom.2.2.2⟩) hD hS (fun v ω1 hk1 H1 locs1 hP1 hD1 hS1 => kk v ω1 hk1 H1 locs1 ls hP1 hD1 hS1 hl)
set_option maxHeartbeats 1000000 in
theorem xr_callSN {l : Launch} {T : xKd} {cc : ByteArray} {own : String} {nL : Nat} {ret : Option FieldType} {d : Nat} (κ : XC l T cc own nL ret d) {pc : Nat} {lv : List (Nat × Value)} {st : List Value} {ω : xWd} (as : List Value) {y : MethodName} {bytes : ByteArray} {mL n dc ix : Nat} {ret' : Option FieldType} {K : Option Value → xWd → Prop} {host : String} (hlk : Cond.methodLinkNest own ix y host ∈ xNest) (hL : xTgtS y bytes mL ret' n) (hM : XM l T y bytes mL ret' dc as ω K) (hn : as.length = n) (hdc : dc + 1 ≤ d) (hmL : mL ≤ 21) (hcat : (st.map fun v => v.category).sum ≤ 8) (hd : decode cc pc = .ok (.invokestatic ix, 3)) (kk : ∀ v ω', K v ω' → Wat κ (pc + 3) lv (v.toList ++ st) ω') : Wat κ pc lv (as.reverse ++ st) ω := by
  obtain ⟨⟨⟨p, e, R⟩, ⟨s, m, args, below⟩, ⟨meth, c, cells, slots⟩, ⟨Q, A⟩, ⟨D, ad, cA⟩⟩, ⟨hx, hb, hml, hr, hts, hown, hlocks⟩, hK, hA, hroom⟩ := κ
  intro H locs ls hP hD hS hl
  exact xr_after hA (va_runSN (As := as.map (xv ad)) (rest := st.map (xv ad)) ⟨hx, hb, hml, hown, hts⟩ (hM D ad cA H.size) ⟨va_cnB n hts (xw_good hL.1.2.1) rfl rfl rfl (hK.2.2 _ hlk) (hts _ hL.1.1) hL.1.2.2 ⟨Nat.le_trans hdc hroom.1, Nat.le_trans (by show 8 + (mL + 11) + 40 * dc ≤ 40 * d; omega) hroom.2.1⟩, hts _ hL.2, trivial⟩ ⟨xPc_blind, fun U hU hW => ⟨rfl, by rw [hU], by rw [hU]; exact hP, hK.warm hW, ⟨hD.1, fun _ _ _ => trivial⟩⟩⟩ rfl (by rw [List.length_map]; exact hn) hl.1 (by show (List.map (xv ad) (as.reverse ++ st)) = _; rw [List.map_append, List.map_reverse]) (lv_room (by rw [List.map_map]; rw [show ((fun v : Value => v.category) ∘ xv ad) = (fun v => v.category) from funext fun v => xv_cat ad v]; exact hcat)) hd ⟨hroom.2.2.1, hroom.2.2.2⟩) hD hS (fun v ω1 hk1 H1 locs1 hP1 hD1 hS1 => kk v ω1 hk1 H1 locs1 ls hP1 hD1 hS1 hl)
set_option maxHeartbeats 1000000 in
theorem xr_mmin {l : Launch} {T : xKd} {cc : ByteArray} {own : String} {nL : Nat} {ret : Option FieldType} {d : Nat} (κ : XC l T cc own nL ret d) {pc : Nat} {lv : List (Nat × Value)} {st : List Value} {ω : xWd} {ix : Nat} {x y : Int32} (hlk : Cond.methodLink own ix Lib.Math.min.name ∈ xB) (h2 : Cond.static Lib.Math.min.name ∈ xB) (h3 : Cond.initialized "java/lang/Math" ∈ xB) (h4 : Cond.code Lib.Math.min.name Lib.Math.min.code 2 (some .int) ∈ xB) (hdd : 1 ≤ d) (hcat : (st.map fun v => v.category).sum ≤ 8) (hd : decode cc pc = .ok (.invokestatic ix, 3)) (kk : Wat κ (pc + 3) lv (.int (if y < x then y else x) :: st) ω) : Wat κ pc lv (.int y :: .int x :: st) ω := by
  obtain ⟨⟨⟨p, e, R⟩, ⟨s, m, args, below⟩, ⟨meth, c, cells, slots⟩, ⟨Q, A⟩, ⟨D, ad, cA⟩⟩, ⟨hx, hb, hml, hr, hts, hown, hlocks⟩, hK, hA, hroom⟩ := κ
  intro H locs ls hP hD hS hl
  have hlo := hroom.2.1
  exact va_mmin hx hb (by rw [hml]; exact hl.1.symm) hown (hts _ hlk) (hts _ h2) (hts _ h3) (hts _ h4) (Nat.le_trans hdd hroom.1) (by rw [List.map_map]; rw [show ((fun v : Value => v.category) ∘ xv ad) = (fun v => v.category) from funext fun v => xv_cat ad v]; omega) hroom.2.2.1 hroom.2.2.2 hd (kk H locs ls hP hD hS hl)
set_option maxHeartbeats 1000000 in
theorem xr_mmaxL {l : Launch} {T : xKd} {cc : ByteArray} {own : String} {nL : Nat} {ret : Option FieldType} {d : Nat} (κ : XC l T cc own nL ret d) {pc : Nat} {lv : List (Nat × Value)} {st : List Value} {ω : xWd} {ix : Nat} {x y : Int64} (hlk : Cond.methodLink own ix Lib.MathLoose.max_long.x ∈ xB) (h2 : Cond.static Lib.MathLoose.max_long.x ∈ xB) (h3 : Cond.initialized "java/lang/Math" ∈ xB) (h4 : Cond.code Lib.MathLoose.max_long.x Lib.MathLoose.max_long.code 4 (some .long) ∈ xB) (hdd : 1 ≤ d) (hcat : (st.map fun v => v.category).sum ≤ 8) (hd : decode cc pc = .ok (.invokestatic ix, 3)) (kk : Wat κ (pc + 3) lv (.long (if y < x then x else y) :: st) ω) : Wat κ pc lv (.long y :: .long x :: st) ω := by
  obtain ⟨⟨⟨p, e, R⟩, ⟨s, m, args, below⟩, ⟨meth, c, cells, slots⟩, ⟨Q, A⟩, ⟨D, ad, cA⟩⟩, ⟨hx, hb, hml, hr, hts, hown, hlocks⟩, hK, hA, hroom⟩ := κ
  intro H locs ls hP hD hS hl
  have hlo := hroom.2.1
  exact va_mmax_long hx hb (by rw [hml]; exact hl.1.symm) hown (hts _ hlk) (hts _ h2) (hts _ h3) (hts _ h4) (Nat.le_trans hdd hroom.1) (by rw [List.map_map]; rw [show ((fun v : Value => v.category) ∘ xv ad) = (fun v => v.category) from funext fun v => xv_cat ad v]; omega) hroom.2.2.1 hroom.2.2.2 hd (kk H locs ls hP hD hS hl)
set_option maxHeartbeats 1000000 in
theorem xr_mminL {l : Launch} {T : xKd} {cc : ByteArray} {own : String} {nL : Nat} {ret : Option FieldType} {d : Nat} (κ : XC l T cc own nL ret d) {pc : Nat} {lv : List (Nat × Value)} {st : List Value} {ω : xWd} {ix : Nat} {x y : Int64} (hlk : Cond.methodLink own ix Lib.MathLoose.min_long.x ∈ xB) (h2 : Cond.static Lib.MathLoose.min_long.x ∈ xB) (h3 : Cond.initialized "java/lang/Math" ∈ xB) (h4 : Cond.code Lib.MathLoose.min_long.x Lib.MathLoose.min_long.code 4 (some .long) ∈ xB) (hdd : 1 ≤ d) (hcat : (st.map fun v => v.category).sum ≤ 8) (hd : decode cc pc = .ok (.invokestatic ix, 3)) (kk : Wat κ (pc + 3) lv (.long (if y < x then y else x) :: st) ω) : Wat κ pc lv (.long y :: .long x :: st) ω := by
  obtain ⟨⟨⟨p, e, R⟩, ⟨s, m, args, below⟩, ⟨meth, c, cells, slots⟩, ⟨Q, A⟩, ⟨D, ad, cA⟩⟩, ⟨hx, hb, hml, hr, hts, hown, hlocks⟩, hK, hA, hroom⟩ := κ
  intro H locs ls hP hD hS hl
  have hlo := hroom.2.1
  exact va_mmin_long hx hb (by rw [hml]; exact hl.1.symm) hown (hts _ hlk) (hts _ h2) (hts _ h3) (hts _ h4) (Nat.le_trans hdd hroom.1) (by rw [List.map_map]; rw [show ((fun v : Value => v.category) ∘ xv ad) = (fun v => v.category) from funext fun v => xv_cat ad v]; omega) hroom.2.2.1 hroom.2.2.2 hd (kk H locs ls hP hD hS hl)
set_option maxHeartbeats 1000000 in
theorem xr_mabsL {l : Launch} {T : xKd} {cc : ByteArray} {own : String} {nL : Nat} {ret : Option FieldType} {d : Nat} (κ : XC l T cc own nL ret d) {pc : Nat} {lv : List (Nat × Value)} {st : List Value} {ω : xWd} {ix : Nat} {x : Int64} (hlk : Cond.methodLink own ix Lib.MathLoose.abs_long.x ∈ xB) (h2 : Cond.static Lib.MathLoose.abs_long.x ∈ xB) (h3 : Cond.initialized "java/lang/Math" ∈ xB) (h4 : Cond.code Lib.MathLoose.abs_long.x Lib.MathLoose.abs_long.code 2 (some .long) ∈ xB) (hdd : 1 ≤ d) (hcat : (st.map fun v => v.category).sum ≤ 8) (hd : decode cc pc = .ok (.invokestatic ix, 3)) (kk : Wat κ (pc + 3) lv (.long (if 0 < x then x else -x) :: st) ω) : Wat κ pc lv (.long x :: st) ω := by
  obtain ⟨⟨⟨p, e, R⟩, ⟨s, m, args, below⟩, ⟨meth, c, cells, slots⟩, ⟨Q, A⟩, ⟨D, ad, cA⟩⟩, ⟨hx, hb, hml, hr, hts, hown, hlocks⟩, hK, hA, hroom⟩ := κ
  intro H locs ls hP hD hS hl
  have hlo := hroom.2.1
  exact va_mabs_long hx hb (by rw [hml]; exact hl.1.symm) hown (hts _ hlk) (hts _ h2) (hts _ h3) (hts _ h4) (Nat.le_trans hdd hroom.1) (by rw [List.map_map]; rw [show ((fun v : Value => v.category) ∘ xv ad) = (fun v => v.category) from funext fun v => xv_cat ad v]; omega) hroom.2.2.1 hroom.2.2.2 hd (kk H locs ls hP hD hS hl)
set_option maxHeartbeats 1000000 in
theorem xr_tsw {l : Launch} {T : xKd} {cc : ByteArray} {own : String} {nL : Nat} {ret : Option FieldType} {d : Nat} (κ : XC l T cc own nL ret d) {pc : Nat} {lv : List (Nat × Value)} {st : List Value} {ω : xWd} {dflt hi : Int} {offs : Array Int} {len : Nat} {x : Int32} (N : Nat) (tg : Nat → Nat) (dt : Nat) (hd : decode cc pc = .ok (.tableswitch dflt 0 hi offs, len)) (hhi : hi = (N : Int) - 1) (hN : N < 2 ^ 31) (hof : ∀ j, j < N → ∃ off, offs[j]? = some off ∧ (pc : Int) + off = (tg j : Int)) (hdt : (pc : Int) + dflt = (dt : Int))
    (kt : ∀ j : Nat, j < N → x = nI j → Wat κ (tg j) lv st ω) (kf : (∀ j : Nat, j < N → ¬ x = nI j) → Wat κ dt lv st ω) : Wat κ pc lv (.int x :: st) ω := by
  obtain ⟨⟨⟨p, e, R⟩, ⟨s, m, args, below⟩, ⟨meth, c, cells, slots⟩, ⟨Q, A⟩, ⟨D, ad, cA⟩⟩, ⟨hx, hb, hml, hr, hts, hown, hlocks⟩, hK, hA, hroom⟩ := κ
  intro H locs ls hP hD hS hl
  by_cases hin : 0 ≤ x.toInt ∧ x.toInt < N
  · have hj : x.toInt.toNat < N := by omega
    have hxe : x = nI x.toInt.toNat := Int32.toInt_inj.mp (by rw [nI_toInt (by omega)]; omega)
    obtain ⟨off, ho, ht⟩ := hof _ hj
    exact lv_tableIn hx hb hd (by omega) (by omega) (by rw [show (x.toInt - 0).toNat = x.toInt.toNat by omega]; exact ho) ht (kt _ hj hxe H locs ls hP hD hS hl)
  · refine lv_tableOut hx hb hd (by omega) hdt (kf (fun j hj hxe => ?_) H locs ls hP hD hS hl)
    rw [hxe, nI_toInt (by omega)] at hin
    omega
