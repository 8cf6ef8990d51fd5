/-! THE LAYER BETWEEN THE MACHINE AND PURE WORLDS: a world is a function from cell numbers to pure cells; references are cell numbers; 'ad' lays them. -/
def xB : List Cond := lw_tbl.filter goodWord
theorem xB_in {w : Cond} (h : w ∈ lw_tbl) (g : goodWord w = true) : w ∈ xB := List.mem_filter.mpr ⟨h, g⟩
theorem xB_tbl {w : Cond} (h : w ∈ xB) : w ∈ lw_tbl := (List.mem_filter.mp h).1
theorem xB_good : GoodIn xB xB := fun _ h => ⟨h, good_of_word (List.mem_filter.mp h).2⟩
def xIsNest : Cond → Bool
  | .fieldLinkNest _ _ _ _ _ _ => true
  | .methodLinkNest _ _ _ _ => true
  | _ => false
def xNest : List Cond := tables_1.filter xIsNest
theorem xNest_in {w : Cond} (h : w ∈ tables_1) (g : xIsNest w = true) : w ∈ xNest := List.mem_filter.mpr ⟨h, g⟩
theorem xNest_warm {w : Cond} (hw : w ∈ xNest) {s U : State} (hW : s.WarmedH U.vm) (h : va_Nw w s) : va_Nw w U := by
  have g := (List.mem_filter.mp hw).2
  cases w <;> simp only [xIsNest] at g <;> first | exact absurd g (by decide) | exact va_Nw.warmF hW h | exact va_Nw.warmM hW h
theorem xNest_tabs {w : Cond} (hw : w ∈ xNest) : w.onTables = true := by
  have g := (List.mem_filter.mp hw).2
  cases w <;> simp only [xIsNest] at g <;> first | exact absurd g (by decide) | rfl
def xw (y : MethodName) (cc : ByteArray) (mL : Nat) (ret : Option FieldType) : List Cond := Cond.code y cc mL ret :: xB
theorem xw_good {y : MethodName} {cc : ByteArray} {mL : Nat} {ret : Option FieldType} (h : Cond.code y cc mL ret ∈ xB) : GoodIn xB (xw y cc mL ret) := fun w hw => by
  rcases List.mem_cons.mp hw with e | e
  · rw [e]; exact xB_good _ h
  · exact xB_good _ e
def xrm (d : Nat) : Room := { frames := d, cells := 0, slots := 0, locals := 40 * d }
/-- a pure cell: ints, longs, references, an object of a class -/
abbrev xC : Type := (Nat × (Nat → Int32)) ⊕ (Nat × (Nat → Int64)) ⊕ (Nat × (Nat → Option Nat)) ⊕ (Nat × List Value)
abbrev xI (n : Nat) (f : Nat → Int32) : xC := .inl (n, f)
abbrev xJ (n : Nat) (f : Nat → Int64) : xC := .inr (.inl (n, f))
abbrev xR (n : Nat) (f : Nat → Option Nat) : xC := .inr (.inr (.inl (n, f)))
abbrev xO (ci : Nat) (fs : List Value) : xC := .inr (.inr (.inr (ci, fs)))
abbrev xWd : Type := Nat → xC
def xv (ad : Nat → Nat) : Value → Value
  | .ref k => .ref (ad k)
  | v => v
theorem xv_cat (ad : Nat → Nat) (v : Value) : (xv ad v).category = v.category := by cases v <;> rfl
def xe (ad : Nat → Nat) (cA : Nat → ClassId) (k : Nat) : xC → va_E
  | .inl (n, f) => .inl (cA k, n, .inl f)
  | .inr (.inl (n, f)) => .inl (cA k, n, .inr (.inl f))
  | .inr (.inr (.inl (n, f))) => .inl (cA k, n, .inr (.inr (.inr (.inr (fun j => (f j).map ad)))))
  | .inr (.inr (.inr (ci, fs))) => .inr (ci, fs.map (xv ad))
/-- kinds of a world: how many cells, what the arrays hold -/
abbrev xKd : Type := Nat × (Nat → Option FieldType)
def xW (ad : Nat → Nat) (cA : Nat → ClassId) (N : Nat) (ω : xWd) : va_W := (List.range N).map (fun k => (ad k, xe ad cA k (ω k)))
theorem xW_get {ad : Nat → Nat} {cA : Nat → ClassId} {N : Nat} {ω : xWd} {k : Nat} (h : k < N) : (xW ad cA N ω)[k]? = some (ad k, xe ad cA k (ω k)) := by
  simp [xW, h]
theorem xW_some {ad : Nat → Nat} {cA : Nat → ClassId} {N : Nat} {ω : xWd} {k : Nat} {q : Nat × va_E} (h : (xW ad cA N ω)[k]? = some q) : k < N ∧ q.1 = ad k := by
  have hk : k < N := by
    have := (List.getElem?_eq_some_iff.mp h).1
    simpa [xW] using this
  rw [xW_get hk] at h
  exact ⟨hk, by rw [← Option.some.inj h]⟩
theorem xW_set {ad : Nat → Nat} {cA : Nat → ClassId} {N : Nat} {ω : xWd} {k : Nat} {c : xC} : (xW ad cA N ω).set k (ad k, xe ad cA k c) = xW ad cA N (va_up ω k c) := by
  apply List.ext_getElem?
  intro i
  rw [List.getElem?_set]
  by_cases hi : i < N
  · by_cases e : k = i
    · subst e
      have hl : k < (xW ad cA N ω).length := by simpa [xW] using hi
      simp [hl, xW_get hi, va_up]
    · simp [e, xW_get hi, va_up, Ne.symm e]
  · have h1 : (xW ad cA N ω)[i]? = none := List.getElem?_eq_none (by simpa [xW] using Nat.not_lt.mp hi)
    have h2 : (xW ad cA N (va_up ω k c))[i]? = none := List.getElem?_eq_none (by simpa [xW] using Nat.not_lt.mp hi)
    rw [h2]
    by_cases e : k = i
    · subst e
      have hl : ¬ k < (xW ad cA N ω).length := by simpa [xW] using hi
      simp [hl]
    · simp [e, h1]
theorem xD_any {A : Nat → Prop} {ad : Nat → Nat} {cA : Nat → ClassId} {N : Nat} {ω ω' : xWd} (h : va_D A (xW ad cA N ω)) : va_D A (xW ad cA N ω') := by
  refine ⟨fun i j p q hi hj e => ?_, fun k q hk => ?_⟩
  · obtain ⟨a1, a2⟩ := xW_some hi
    obtain ⟨b1, b2⟩ := xW_some hj
    exact h.1 i j _ _ (xW_get a1) (xW_get b1) (by show ad i = ad j; rw [← a2, ← b2]; exact e)
  · obtain ⟨a1, a2⟩ := xW_some hk
    rw [a2]
    exact h.2 k _ (xW_get a1)
/-- the cells of a world, and what is made later -/
def xA (ad : Nat → Nat) (N sz : Nat) : Nat → Prop := fun q => (∃ k, k < N ∧ ad k = q) ∨ sz ≤ q
theorem xA_D {A : Nat → Prop} {ad : Nat → Nat} {cA : Nat → ClassId} {N : Nat} {ω : xWd} (h : va_D A (xW ad cA N ω)) {k : Nat} (hk : k < N) : A (ad k) := h.2 k _ (xW_get hk)
/-- what is known of the classes and arrays -/
def xKs (T : xKd) (D : va_G) (cA : Nat → ClassId) (U : State) : Prop :=
  (∀ (c : Nat) (q : vw_C), vwCl[c]? = some q → u_Kn U q.1 q.2.1 q.2.2 (D.1 c) (D.2 c)) ∧ (∀ (k : Nat) (ty : FieldType), k < T.1 → T.2 k = some ty → ArrOfT U (cA k) ty ∧ va_RA U (cA k) ty) ∧ ∀ w ∈ xNest, va_Nw w U
theorem xKs.tys {T : xKd} {D : va_G} {cA : Nat → ClassId} {U : State} (h : xKs T D cA U) {k : Nat} {ty : FieldType} (hk : k < T.1) (ht : T.2 k = some ty) : va_K D vwCl [(cA k, ty)] U := ⟨h.1, fun j q hj => by
  match j, hj with
  | 0, hj => cases hj; exact h.2.1 k ty hk ht
  | j + 1, hj => simp at hj⟩
theorem xKs.nil {T : xKd} {D : va_G} {cA : Nat → ClassId} {U : State} (h : xKs T D cA U) : va_K D vwCl [] U := ⟨h.1, fun j q hj => by simp at hj⟩
theorem xKs.warm {T : xKd} {D : va_G} {cA : Nat → ClassId} {s U : State} (hW : s.WarmedH U.vm) (h : xKs T D cA s) : xKs T D cA U :=
  ⟨fun c q hq => u_Kn_moved hW.alike (h.1 c q hq), fun k ty hk ht => ⟨arrOfT_moved hW.alike (h.2.1 k ty hk ht).1, (h.2.1 k ty hk ht).2.moved hW.alike⟩, fun w hw => xNest_warm hw hW (h.2.2 w hw)⟩
theorem xKs.calling {T : xKd} {D : va_G} {cA : Nat → ClassId} {U : State} {g : JFrame} {mk : MethodId} {a : Array Value} (h : xKs T D cA U) : xKs T D cA (U.calling g mk a) :=
  ⟨fun c q hq => u_Kn_moved (u := U) (U := U.calling g mk a) (Vm.Alike.refl U.vm) (h.1 c q hq), fun k ty hk ht => ⟨arrOfT_moved (E := U.calling g mk a) (Vm.Alike.refl U.vm) (h.2.1 k ty hk ht).1, (h.2.1 k ty hk ht).2.moved (u := U) (U := U.calling g mk a) (Vm.Alike.refl U.vm)⟩, fun w hw => va_Nw.same (xNest_tabs hw) (u := U) (U := U.calling g mk a) rfl (h.2.2 w hw)⟩
/-- a method's end, in worlds -/
def xQ (T : xKd) (D : va_G) (ad : Nat → Nat) (cA : Nat → ClassId) (A : Nat → Prop) (K : Option Value → xWd → Prop) : Array Value → State → Outcome → State → Prop := fun _ st oc t =>
  (∃ (v : Option Value) (ω' : xWd), oc = .returned (v.map (xv ad)) ∧ K v ω' ∧ va_P D vwCl (xW ad cA T.1 ω') t.heap) ∧ va_F A st t
/-- A METHOD'S CONTRACT IN WORLDS: called with these, it returns, and K holds of what it answers and of the world then -/
def XM (l : Launch) (T : xKd) (y : MethodName) (cc : ByteArray) (mL : Nat) (ret : Option FieldType) (d : Nat) (as : List Value) (ω : xWd) (K : Option Value → xWd → Prop) : Prop :=
  ∀ (D : va_G) (ad : Nat → Nat) (cA : Nat → ClassId) (sz : Nat), Met l y (xw y cc mL ret) (xrm d) (va_Pc (as.map (xv ad)) (fun U => U.heap.size = sz ∧ va_P D vwCl (xW ad cA T.1 ω) U.heap ∧ xKs T D cA U ∧ va_D (fun _ => True) (xW ad cA T.1 ω))) (xQ T D ad cA (xA ad T.1 sz) K) 0 0 (xA ad T.1 sz)
theorem XM.mono {l : Launch} {T : xKd} {y : MethodName} {cc : ByteArray} {mL : Nat} {ret : Option FieldType} {d : Nat} {as : List Value} {ω : xWd} {K K' : Option Value → xWd → Prop} (h : XM l T y cc mL ret d as ω K) (hk : ∀ v ω', K v ω' → K' v ω') : XM l T y cc mL ret d as ω K' := by
  intro D ad cA sz p e ha hc hkk s m args below hf hx hP hK
  obtain ⟨n, o, h1, h2, h3, ⟨⟨⟨v, ω', q1, q2, q3⟩, q4⟩, q5⟩⟩ := h D ad cA sz p e ha hc hkk s m args below hf hx hP hK
  exact ⟨n, o, h1, h2, h3, ⟨⟨⟨v, ω', q1, hk _ _ q2, q3⟩, q4⟩, q5⟩⟩
-- what a frame stands in: the machine's parts, and the lay of the world
abbrev xRaw : Type := (Program × Env × Room) × (State × MethodId × Array Value × List Frame) × (Method × Code × Nat × Nat) × ((State → Prop) × (Nat → Prop)) × (va_G × (Nat → Nat) × (Nat → ClassId))
def xok (l : Launch) (T : xKd) (cc : ByteArray) (own : String) (nL : Nat) (ret : Option FieldType) (d : Nat) (q : xRaw) : Prop := match q with
  | ((p, _, R), (s, m, args, _), (meth, c, cells, slots), (_, A), (D, _, cA)) =>
    (p.tables.exec = Jvm.exec ∧ c.code = cc ∧ c.maxLocals = nL ∧ meth.sig.returnType = ret ∧ (∀ w ∈ xB, w.before args s = true) ∧ s.vm.findClass own = some m.cls ∧ meth.locks = false) ∧ xKs T D cA s ∧ (∀ q, s.heap.size ≤ q → A q) ∧ (d ≤ R.frames ∧ 40 * d ≤ R.locals ∧ cells ≤ R.cells ∧ slots ≤ R.slots)
def XC (l : Launch) (T : xKd) (cc : ByteArray) (own : String) (nL : Nat) (ret : Option FieldType) (d : Nat) : Type := { q : xRaw // xok l T cc own nL ret d q }
/-- THE GOAL IN WORLDS: from this place of the code, with these locals, this stack and this world, the method comes to its end -/
def Wat {l : Launch} {T : xKd} {cc : ByteArray} {own : String} {nL : Nat} {ret : Option FieldType} {d : Nat} (κ : XC l T cc own nL ret d) (pc : Nat) (lv : List (Nat × Value)) (st : List Value) (ω : xWd) : Prop := match κ.1 with
  | ((p, e, R), (s, m, args, below), (meth, c, cells, slots), (Q, A), (D, ad, cA)) =>
    ∀ (H : Heap) (locs : List Loc) (ls : Array Slot), va_P D vwCl (xW ad cA T.1 ω) H → va_D A (xW ad cA T.1 ω) → va_S A s.heap H locs → lv_has ls nL (lv.map (fun q => (q.1, xv ad q.2))) → W p l e R s m args below meth c H locs cells slots Q (F0 m pc ls (st.map (xv ad)))
/-- what a return gives -/
def xRet {l : Launch} {T : xKd} {cc : ByteArray} {own : String} {nL : Nat} {ret : Option FieldType} {d : Nat} (κ : XC l T cc own nL ret d) (K : Option Value → xWd → Prop) : Prop := match κ.1 with
  | ((_, _, _), (s, _, args, below), (_, _, cells, slots), (Q, A), (D, ad, cA)) => Q = MQ below (xQ T D ad cA A K) args s cells slots A
theorem lv_args_map (ad : Nat → Nat) : ∀ (as : List Value) (i : Nat), lv_args i (as.map (xv ad)) = (lv_args i as).map (fun q => (q.1, xv ad q.2))
  | [], _ => rfl
  | v :: vs, i => by
    show (i, xv ad v) :: lv_args (if (xv ad v).category = 2 then i + 2 else i + 1) (vs.map (xv ad)) = (i, xv ad v) :: (lv_args (if v.category = 2 then i + 2 else i + 1) vs).map _
    rw [xv_cat, lv_args_map ad vs]
theorem lg_sl_len (ad : Nat → Nat) : ∀ (as : List Value), (lg_sl (as.map (xv ad))).length = (lg_sl as).length
  | [] => rfl
  | v :: vs => by
    have ih := lg_sl_len ad vs
    cases v <;> simp_all [lg_sl, xv, Value.category]
/-- FROM A WALK TO A CONTRACT -/
theorem XM.of {l : Launch} {T : xKd} {y : MethodName} {cc : ByteArray} {mL : Nat} {ret : Option FieldType} {d : Nat} {as : List Value} {ω : xWd} {K : Option Value → xWd → Prop} (hy : plainName y.cls = true) (hlen : (lg_sl as).length ≤ mL)
    (h : ∀ κ : XC l T cc y.cls mL ret d, xRet κ K → Wat κ 0 (lv_args 0 as) [] ω) : XM l T y cc mL ret d as ω K := by
  intro D ad cA sz
  refine Met.ofW (cc := cc) (maxL := mL) (ret := ret) hy rfl ?_
  intro p e s m args below meth c s₁ B hml hv
  obtain ⟨rfl, hsz, hP, hK, hD0⟩ := hv
  have hts := atoms_spec (ws := xw y cc mL ret) B.pre
  subst hsz
  have hA : ∀ q : Nat, s.heap.size ≤ q → xA ad T.1 s.heap.size q := fun q h => Or.inr h
  have hD : va_D (xA ad T.1 s.heap.size) (xW ad cA T.1 ω) := ⟨hD0.1, fun k q hk => by
    obtain ⟨a1, a2⟩ := xW_some hk
    exact Or.inl ⟨k, a1, a2.symm⟩⟩
  have k0 : xok l T cc y.cls mL ret d ((p, e, (headSpec (xw y cc mL ret) (xrm d)).room), (s, m, (as.map (xv ad)).toArray, below), (meth, c, 0, 0), (MQ below (xQ T D ad cA (xA ad T.1 s.heap.size) K) (as.map (xv ad)).toArray s 0 0 (xA ad T.1 s.heap.size), xA ad T.1 s.heap.size), (D, ad, cA)) :=
    ⟨⟨B.exec, B.bytes, hml, B.returns, fun w hw => hts w (List.mem_cons_of_mem _ hw), findClass_of_methodNamed B.named, B.notSynchronized⟩, hK, hA, ⟨Nat.le_refl _, Nat.le_refl _, Nat.le_refl _, Nat.le_refl _⟩⟩
  have W0 := h ⟨_, k0⟩ rfl
  have hl := lv_entry (as.map (xv ad)) (n := mL) (by rw [lg_sl_len]; exact hlen)
  rw [lg_entry_eq]
  rw [lv_args_map] at hl
  exact W0 s.heap [] _ hP hD va_S.rf hl
