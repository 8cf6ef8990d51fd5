/-! WIDENED: the class's best row -/
def bstX (c : CS) (x : XT) : Option (List Nat) → Prop
  | none => x_bestPrice x = (-1 : Int32)
  | some b => (x_bestPrice x).toInt = prs (kP c) b ∧ (x_bestMore x).toInt = b.length ∧ ∀ w, w < 12 → (x_bestRow x w).toInt = lc b w
/-- all but the best alike -/
def eqK (x x' : XT) : Prop := x_gets x' = x_gets x ∧ x_bal x' = x_bal x ∧ x_row x' = x_row x ∧ x_limit x' = x_limit x ∧ x_umost x' = x_umost x ∧ x_least x' = x_least x ∧ x_awake x' = x_awake x ∧ x_order x' = x_order x
def betterO (f : Nat → Int) (p : List Nat) : Option (List Nat) → Prop
  | none => True
  | some b => prs f p < prs f b ∨ (prs f p = prs f b ∧ p.length < b.length)
section KP
variable {c : CS} {x : XT} {o : Option (List Nat)} {p : List Nat} {mo pr : Int32}
theorem keep5 {K : CS → XT → Prop} (hb : bstX c x o) (hpp : ∀ b, o = some b → 0 ≤ prs (kP c) b) (hmo : mo.toInt = p.length) (hpr : pr.toInt = prs (kP c) p) (hrow : ∀ w, w < 12 → (x_row x w).toInt = lc p w)
    (h1 : betterO (kP c) p o → ∀ x', eqK x x' → bstX c x' (some p) → K c x') (h0 : ∀ b, o = some b → ¬ betterO (kP c) p o → K c x) : wp_X4_keepIfBetter mo pr c x K := by
  have hput : betterO (kP c) p o → nd_X4_keepIfBetter_32 K mo pr c x := fun hbt => by
    refine ⟨fun q => absurd q n10, fun _ => h1 hbt _ ⟨rfl, rfl, rfl, rfl, rfl, rfl, rfl, rfl⟩ ⟨hpr, hmo, fun w hw => ?_⟩⟩
    show (va_cpy (x_row x) (x_bestRow x) 0 0 12 w).toInt = _
    rw [pk_cpy_in (by omega) (by omega)]
    have := hrow w hw
    rw [← this]
    congr 2
    omega
  cases o with
  | none => exact ⟨fun _ => hput trivial, fun q => absurd hb q⟩
  | some b =>
    obtain ⟨b1, b2, -⟩ := hb
    have hp0 := hpp b rfl
    have hn1 : ¬ x_bestPrice x = (-1 : Int32) := fun e => by
      rw [e, m1'] at b1
      omega
    have hno : ¬ betterO (kP c) p (some b) → nd_X4_keepIfBetter_36 K mo pr c x := fun hbt => ⟨fun _ => h0 b rfl hbt, fun q => absurd rfl q⟩
    refine ⟨fun q => absurd q hn1, fun _ => ⟨fun q => hput ?_, fun q => ⟨fun e => hno ?_, fun e => ⟨fun z => hno ?_, fun z => hput ?_⟩⟩⟩⟩
    · have := Int32.lt_iff_toInt_lt.mp q
      rw [hpr, b1] at this
      exact .inl this
    · rintro (z | ⟨z, _⟩)
      · exact q (Int32.lt_iff_toInt_lt.mpr (by rw [hpr, b1]; exact z))
      · exact e (i_inj (by rw [hpr, b1]; exact z))
    · have e' := congrArg Int32.toInt e
      have z' := Int32.le_iff_toInt_le.mp z
      rw [hpr, b1] at e'
      rw [hmo, b2] at z'
      rintro (y | ⟨_, y⟩) <;> omega
    · have e' := congrArg Int32.toInt e
      have z' : ¬ (x_bestMore x).toInt ≤ mo.toInt := fun y => z (Int32.le_iff_toInt_le.mpr y)
      rw [hpr, b1] at e'
      rw [hmo, b2] at z'
      exact .inr ⟨e', by omega⟩
theorem dear5 {K : Int32 → CS → XT → Prop} {z : Int} (hb : bstX c x o) (hpp : ∀ b, o = some b → 0 ≤ prs (kP c) b) (hpr : pr.toInt = z) (h1 : ∀ b, o = some b → prs (kP c) b < z → K 1 c x) (h0 : (∀ b, o = some b → z ≤ prs (kP c) b) → K 0 c x) : wp_X4_isTooDear pr c x K := by
  cases o with
  | none => exact ⟨fun _ => h0 (fun b hb => by cases hb), fun q => absurd hb q⟩
  | some b =>
    obtain ⟨b1, b2, -⟩ := hb
    have hp0 := hpp b rfl
    have hn1 : ¬ x_bestPrice x = (-1 : Int32) := fun e => by
      rw [e, m1'] at b1
      omega
    refine ⟨fun q => absurd q hn1, fun _ => ⟨fun q => h0 (fun b' hb' => ?_), fun q => h1 b rfl ?_⟩⟩
    · injection hb' with hb'
      subst hb'
      have := Int32.le_iff_toInt_le.mp q
      rw [hpr, b1] at this
      exact this
    · have : ¬ pr.toInt ≤ (x_bestPrice x).toInt := fun y => q (Int32.le_iff_toInt_le.mpr y)
      rw [hpr, b1] at this
      omega
end KP
