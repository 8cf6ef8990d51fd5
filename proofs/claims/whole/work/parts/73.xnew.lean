/-! CONSTRUCTORS: a made object among the cells that are there; pieces of a world put together -/
def rfc (b n : Nat) : xC → Prop
  | .inr (.inr (.inl (_, f))) => ∀ j i, f j = some i → b ≤ i ∧ i < b + n
  | .inr (.inr (.inr (_, fs))) => ∀ i : Nat, Value.ref i ∈ fs → b ≤ i ∧ i < b + n
  | _ => True
theorem rfc_up {b n b' n' : Nat} (h1 : b' ≤ b) (h2 : b + n ≤ b' + n') : ∀ {c : xC}, rfc b n c → rfc b' n' c
  | .inl _, _ => trivial
  | .inr (.inl _), _ => trivial
  | .inr (.inr (.inl (_, f))), h => fun j i e => by have := h j i e; omega
  | .inr (.inr (.inr (_, fs))), h => fun i e => by have := h i e; omega
theorem xe_part {ad ad' : Nat → Nat} {cA cA' : Nat → ClassId} {b n k : Nat} (ha : ∀ k, b ≤ k → k < b + n → ad k = ad' k) (hc : cA k = cA' k) : ∀ {c : xC}, rfc b n c → xe ad cA k c = xe ad' cA' k c
  | .inl (m, f), _ => by show Sum.inl (cA k, m, Sum.inl f) = Sum.inl (cA' k, m, Sum.inl f); rw [hc]
  | .inr (.inl (m, f)), _ => by show Sum.inl (cA k, m, Sum.inr (Sum.inl f)) = Sum.inl (cA' k, m, Sum.inr (Sum.inl f)); rw [hc]
  | .inr (.inr (.inl (m, f))), h => by
    have e : (fun j => (f j).map ad) = (fun j => (f j).map ad') := by
      funext j
      cases q : f j with
      | none => rfl
      | some i => exact congrArg some (ha i (h j i q).1 (h j i q).2)
    show Sum.inl (cA k, m, Sum.inr (Sum.inr (Sum.inr (Sum.inr (fun j => (f j).map ad))))) = Sum.inl (cA' k, m, Sum.inr (Sum.inr (Sum.inr (Sum.inr (fun j => (f j).map ad')))))
    rw [hc, e]
  | .inr (.inr (.inr (ci, fs))), h => by
    have e : fs.map (xv ad) = fs.map (xv ad') := List.map_congr_left (fun v hv => by
      cases v with
      | ref i => exact congrArg Value.ref (ha i (h i hv).1 (h i hv).2)
      | _ => rfl)
    show Sum.inr (ci, fs.map (xv ad)) = Sum.inr (ci, fs.map (xv ad'))
    rw [e]
theorem xS_part {ad ad' : Nat → Nat} {cA cA' : Nat → ClassId} {b n : Nat} {ω : xWd} (ha : ∀ k, b ≤ k → k < b + n → ad k = ad' k) (hc : ∀ k, b ≤ k → k < b + n → cA k = cA' k) (hr : ∀ k, b ≤ k → k < b + n → rfc b n (ω k)) : xS ad cA b n ω = xS ad' cA' b n ω := by
  unfold xS
  refine List.map_congr_left (fun k hk => ?_)
  obtain ⟨i, hi, e⟩ := List.mem_range'.mp hk
  have h1 : b ≤ k ∧ k < b + n := by omega
  rw [ha k h1.1 h1.2, xe_part ha (hc k h1.1 h1.2) (hr k h1.1 h1.2)]
theorem xS_app (ad : Nat → Nat) (cA : Nat → ClassId) (b n m : Nat) (ω : xWd) : xS ad cA b (n + m) ω = xS ad cA b n ω ++ xS ad cA (b + n) m ω := by
  unfold xS
  rw [← List.map_append]
  congr 1
  have := List.range'_append (s := b) (m := n) (n := m) (step := 1)
  rw [Nat.one_mul] at this
  exact this.symm
theorem xS_W (ad : Nat → Nat) (cA : Nat → ClassId) (N : Nat) (ω : xWd) : xS ad cA 0 N ω = xW ad cA N ω := by
  unfold xS xW
  rw [List.range_eq_range']
theorem va_D_left {A : Nat → Prop} {w1 w2 : va_W} (h : va_D A (w1 ++ w2)) : va_D A w1 := by
  have key : ∀ {i : Nat} {p : Nat × va_E}, w1[i]? = some p → (w1 ++ w2)[i]? = some p := fun {i p} hi => by
    rw [List.getElem?_append_left (List.getElem?_eq_some_iff.mp hi).1]; exact hi
  exact ⟨fun i j p q hi hj e => h.1 i j p q (key hi) (key hj) e, fun k q hk => h.2 k q (key hk)⟩
theorem va_P_left {D : va_G} {cl : List vw_C} {w1 w2 : va_W} {H : Heap} (h : va_P D cl (w1 ++ w2) H) : va_P D cl w1 H := fun k q hk => h k q (by rw [List.getElem?_append_left (List.getElem?_eq_some_iff.mp hk).1]; exact hk)
theorem va_D_last {A : Nat → Prop} {w1 : va_W} {z : Nat × va_E} (h : va_D A (w1 ++ [z])) : (∀ (k : Nat) (q : Nat × va_E), w1[k]? = some q → q.1 ≠ z.1) ∧ A z.1 := by
  have hz : (w1 ++ [z])[w1.length]? = some z := by simp
  refine ⟨fun k q hk e => ?_, h.2 _ z hz⟩
  have hlt := (List.getElem?_eq_some_iff.mp hk).1
  have := h.1 k w1.length q z (by rw [List.getElem?_append_left hlt]; exact hk) hz e
  omega
/-- new, dup, and the constructor -/
theorem xnew {p : Program} {l : Launch} {e : Env} {R : Room} {s : State} {m : MethodId} {args : Array Value} {below : List Frame} {meth : Method} {c : Code} {H : Heap} {locs : List Loc} {cells slots : Nat} {Q : State → Prop} {A : Nat → Prop} {D : va_G} {ws : va_W} {cc : ByteArray} {own : String} {nL pc : Nat} {ls : Array Slot} {rest : List Value}
    (hx : p.tables.exec = Jvm.exec) (hb : c.code = cc) (hml : c.maxLocals = nL) (hown : s.vm.findClass own = some m.cls) (hts : ∀ w ∈ xB, w.before args s = true) (hKc : xKc D s) (hP : va_P D vwCl ws H) (hD : va_D A ws) (hS : va_S A s.heap H locs) (hA : ∀ q, s.heap.size ≤ q → A q)
    {C : String} {Tt : u_T} {N ci ix ix2 : Nat} {ty0 : Nat → FieldType} (hc : xCls ci C Tt N ty0) (hcl : Cond.classLink own ix C ∈ xB) (hinst : Cond.instantiable C N ∈ xB) (hini : Cond.initialized C ∈ xB) {fs : List Value} (hfs : ∀ j, j < N → defaultValue (ty0 j) = vp_V fs j)
    {y : MethodName} {bytes : ByteArray} {mL dc mc ms b n : Nat} {Tk : Nat → Option FieldType} {ω : xWd} (hy : y.cls = C) (hM : XN l y bytes mL dc mc ms Tk ci fs b n ω)
    (hlk : (∃ host, Cond.methodLinkNest own ix2 y host ∈ xNest) ∨ Cond.methodLink own ix2 y ∈ xB) (hcode : Cond.code y bytes mL none ∈ xB) (hinm : Cond.instanceMethod y ∈ xB) (hyn : y.name = "<init>") (hya : xArg y 0)
    (hr1 : dc + 1 ≤ R.frames) (hr2 : 8 + (mL + 11) + 40 * dc ≤ R.locals) (hcells : cells + 1 + mc ≤ R.cells) (hslots : slots + N + ms ≤ R.slots)
    (d0 : decode cc pc = .ok (.new ix, 3)) (d1 : decode cc (pc + 3) = .ok (.dup, 1)) (d2 : decode cc (pc + 4) = .ok (.invokespecial ix2, 3)) (hls : ls.size = nL) (hst : (rest.map fun v => v.category).sum + 1 ≤ 8)
    (kk : ∀ (ad : Nat → Nat) (cA : Nat → ClassId) (H1 : Heap) (locs1 : List Loc), va_P D vwCl (ws ++ xS ad cA b n ω) H1 → va_D A (ws ++ xS ad cA b n ω) → xTy Tk cA b n s → va_S A s.heap H1 locs1 → W p l e R s m args below meth c H1 locs1 (cells + 1 + mc) (slots + N + ms) Q (F0 m (pc + 7) ls (.ref (ad b) :: rest))) :
    W p l e R s m args below meth c H locs cells slots Q (F0 m pc ls rest) := by
  refine va_new (ci := ci) (fs := fs) (C := C) (T := Tt) (N := N) hx hb hts hc.2.1 ty0 hc.2.2.1 hown (hts _ hcl) (hts _ hinst) (hts _ hini) hKc.nil hP hD hS hA hc.1 hfs (by omega) (by omega) d0 (fun q H hP hD hS => ?_)
  refine lv_dup hx hb d1 rfl ?_
  have hl := va_D_last hD
  have hPz : va_P D vwCl [(q, .inr (ci, fs))] H := fun k x hk => by
    have hz : k < 1 := (List.getElem?_eq_some_iff.mp hk).1
    obtain rfl : k = 0 := by omega
    cases hk
    exact hP ws.length _ (by simp)
  have hDz : va_D (fun _ => True) [(q, .inr (ci, fs))] := ⟨fun i j p1 q1 hi hj _ => by
    have h1 : i < 1 := (List.getElem?_eq_some_iff.mp hi).1
    have h2 : j < 1 := (List.getElem?_eq_some_iff.mp hj).1
    omega, fun _ _ _ => trivial⟩
  have hAA : ∀ x, va_A [(q, Sum.inr (ci, fs))] H.size x → A x := fun x h => by
    rcases h with ⟨k, e1, h⟩ | h
    · have hz : k < 1 := (List.getElem?_eq_some_iff.mp h).1
      obtain rfl : k = 0 := by omega
      cases h
      exact hl.2
    · exact hA x (Nat.le_trans hS.1 h)
  have hpre : PreS s H (va_Pc [.ref q] (fun U => U.heap.size = H.size ∧ va_P D vwCl [(q, .inr (ci, fs))] U.heap ∧ xKc D U ∧ va_D (fun _ => True) [(q, .inr (ci, fs))])) [.ref q] := ⟨fun a U g mk z => by
    obtain ⟨q0, q1, qP, qK, qD⟩ := z
    exact ⟨q0, q1, qP, qK.calling, qD⟩, fun U hU hW => ⟨rfl, by rw [hU], by rw [hU]; exact hPz, hKc.warm hW, hDz⟩⟩
  have hrun : va_Run p l e R s m args below meth c H locs (cells + 1) (slots + N) mc ms (F0 m (pc + 4) ls (.ref q :: .ref q :: rest)) (.ref q :: rest) (va_Qv (fun u : (Nat → Nat) × (Nat → ClassId) => u.1 b = q) (fun u t => va_P D vwCl (xS u.1 u.2 b n ω) t.heap ∧ xTy Tk u.2 b n t ∧ va_D (va_A [(q, .inr (ci, fs))] H.size) (xS u.1 u.2 b n ω)) (va_A [(q, .inr (ci, fs))] H.size) (Value.ref q :: []).toArray) (va_A [(q, .inr (ci, fs))] H.size) := by
    rcases hlk with ⟨host, hlk⟩ | hlk
    · exact va_runIN (As := []) (rest := .ref q :: rest) ⟨hx, hb, hml, hown, hts⟩ (hM D q H.size) ⟨va_cnB 0 hts (xw_good hcode) rfl rfl rfl (hKc.2.1 _ hlk) (hts _ (by rw [hy]; exact hini)) hya ⟨hr1, hr2⟩, hyn, hts _ hinm⟩ hpre rfl rfl hls rfl (by show 2 * 0 + (1 + (rest.map fun v => v.category).sum) ≤ 8 <;> omega) d2 ⟨hcells, hslots⟩
    · exact va_runI (As := []) (rest := .ref q :: rest) ⟨hx, hb, hml, hown, hts⟩ (hM D q H.size) ⟨callB_of 0 hts (xw_good hcode) rfl rfl rfl (hts _ (by rw [hy]; exact hini)) (hts _ hlk) hya ⟨hr1, hr2⟩, hyn, hts _ hinm⟩ hpre rfl rfl hls rfl (by show 2 * 0 + (1 + (rest.map fun v => v.category).sum) ≤ 8 <;> omega) d2 ⟨hcells, hslots⟩
  refine va_callv hrun hS (fun x _ h => hAA x h) hAA (fun u t H1 locs1 ht hvm hp hB hz hk hS1 => ?_)
  obtain ⟨ad, cA⟩ := u
  obtain ⟨hP1, hT1, hD1⟩ := hB
  rw [ht] at hP1
  have hp : ad b = q := hp
  have hPw : va_P D vwCl ws H1 := (va_P_left hP).kept (fun k x hx' => hk x.1 ((va_P_left hP k x hx').lt) (fun z => by
    rcases z with ⟨k2, e2, z⟩ | z
    · have h0 : k2 < 1 := (List.getElem?_eq_some_iff.mp z).1
      obtain rfl : k2 = 0 := by omega
      cases z
      exact hl.1 k x hx' rfl
    · have := (va_P_left hP k x hx').lt
      omega))
  have hDw : va_D A (ws ++ xS ad cA b n ω) := va_D.app (va_D_left hD) (hD1.weaken (fun k x _ h => hAA x.1 h)) (fun i j x y hx' hy' hxy => by
    have h1 := hD1.2 j y hy'
    rcases h1 with ⟨k2, e2, z⟩ | z
    · have h0 : k2 < 1 := (List.getElem?_eq_some_iff.mp z).1
      obtain rfl : k2 = 0 := by omega
      have e3 : y.1 = q := by
        have := Option.some.inj z
        exact (congrArg Prod.fst this).symm
      exact hl.1 i x hx' (hxy.trans e3)
    · have := (va_P_left hP i x hx').lt
      rw [hxy] at this
      omega)
  have := kk ad cA H1 locs1 (va_P.app hPw hP1) hDw (hT1.moved hvm.symm) hS1
  rw [hp] at this
  exact this
