/-! WIDENED: the best row among those that were tried -/
def btr (f : Nat → Int) (l b : List Nat) : Prop := prs f l < prs f b ∨ (prs f l = prs f b ∧ (l.length < b.length ∨ (l.length = b.length ∧ bef l b)))
def InvB (f : Nat → Int) (vl : List Nat → Prop) : Option (List Nat) → (List Nat → Prop) → Prop
  | none, V => ∀ l, V l → ¬ vl l
  | some b, V => vl b ∧ V b ∧ ∀ l, V l → vl l → ¬ btr f l b
section BST
variable {f : Nat → Int} {vl V W : List Nat → Prop} {o : Option (List Nat)} {p b : List Nat}
theorem inv_more (h : InvB f vl o V) (hV : ∀ l, V l → W l) (hn : o = none → ∀ l, W l → V l ∨ ¬ vl l) (hs : ∀ b, o = some b → ∀ l, W l → V l ∨ ¬ vl l ∨ ¬ btr f l b) : InvB f vl o W := by
  cases o with
  | none =>
    intro l hl hv
    rcases hn rfl l hl with q | q
    · exact h l q hv
    · exact q hv
  | some b =>
    refine ⟨h.1, hV b h.2.1, fun l hl hv => ?_⟩
    rcases hs b rfl l hl with q | q | q
    · exact h.2.2 l q hv
    · exact absurd hv q
    · exact q
theorem inv_new (h : InvB f vl o V) (hv : vl p) (hV : ∀ l, W l ↔ (V l ∨ l = p)) (hb : ∀ b, o = some b → prs f p < prs f b ∨ (prs f p = prs f b ∧ p.length < b.length)) : InvB f vl (some p) W := by
  refine ⟨hv, (hV p).mpr (.inr rfl), fun l hl hvl hbt => ?_⟩
  rcases (hV l).mp hl with q | q
  · cases o with
    | none => exact h l q hvl
    | some b =>
      refine h.2.2 l q hvl ?_
      rcases hb b rfl with z | ⟨z1, z2⟩
      · rcases hbt with y | ⟨y, _⟩
        · exact .inl (by omega)
        · exact .inl (by omega)
      · rcases hbt with y | ⟨y, y2 | ⟨y2, _⟩⟩
        · exact .inl (by omega)
        · exact .inr ⟨by omega, .inl (by omega)⟩
        · exact .inr ⟨by omega, .inl (by omega)⟩
  · subst q
    rcases hbt with y | ⟨_, y | ⟨_, y⟩⟩
    · omega
    · omega
    · exact bef_asym y y
theorem inv_old (h : InvB f vl (some b) V) (hV : ∀ l, W l ↔ (V l ∨ l = p)) (hl : ∀ v, V v → v.length = p.length → bef v p) (hb : ¬ (prs f p < prs f b ∨ (prs f p = prs f b ∧ p.length < b.length))) : InvB f vl (some b) W := by
  refine ⟨h.1, (hV b).mpr (.inl h.2.1), fun l hl' hvl hbt => ?_⟩
  rcases (hV l).mp hl' with q | q
  · exact h.2.2 l q hvl hbt
  · subst q
    rcases hbt with y | ⟨y, y2 | ⟨y2, y3⟩⟩
    · exact hb (.inl y)
    · exact hb (.inr ⟨y, y2⟩)
    · exact bef_asym y3 (hl b h.2.1 y2.symm)
theorem inv_uniq {o' : Option (List Nat)} (h : InvB f vl o V) (h' : InvB f vl o' W) (hVW : ∀ l, vl l → (V l ↔ W l)) : o = o' := by
  cases o with
  | none =>
    cases o' with
    | none => rfl
    | some b' => exact absurd h'.1 (h b' ((hVW b' h'.1).mpr h'.2.1))
  | some b =>
    cases o' with
    | none => exact absurd h.1 (h' b ((hVW b h.1).mp h.2.1))
    | some b' =>
      have k1 := h.2.2 b' ((hVW b' h'.1).mpr h'.2.1) h'.1
      have k2 := h'.2.2 b ((hVW b h.1).mp h.2.1) h.1
      have e1 : prs f b = prs f b' := by
        rcases Int.lt_trichotomy (prs f b) (prs f b') with z | z | z
        · exact absurd (.inl z) k2
        · exact z
        · exact absurd (.inl z) k1
      have e2 : b.length = b'.length := by
        rcases Nat.lt_trichotomy b.length b'.length with z | z | z
        · exact absurd (.inr ⟨e1, .inl z⟩) k2
        · exact z
        · exact absurd (.inr ⟨e1.symm, .inl z⟩) k1
      rcases bef_total e2 with z | z | z
      · exact absurd (.inr ⟨e1, .inr ⟨e2, z⟩⟩) k2
      · rw [z]
      · exact absurd (.inr ⟨e1.symm, .inr ⟨e2.symm, z⟩⟩) k1
end BST
