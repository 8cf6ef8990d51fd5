/-! WIDENED: rows of more by their counts -/
def lb : List Nat → Nat → Int
  | [], _ => 0
  | a :: p, w => lb p w + if a < w then 1 else 0
theorem lb_0 : ∀ l : List Nat, lb l 0 = 0
  | [] => rfl
  | a :: p => by
    show lb p 0 + (if a < 0 then 1 else 0) = 0
    rw [lb_0 p, if_neg (by omega)]; rfl
theorem lb_up : ∀ (l : List Nat) (w : Nat), lb l (w + 1) = lb l w + lc l w
  | [], _ => rfl
  | a :: p, w => by
    have ih := lb_up p w
    show lb p (w + 1) + (if a < w + 1 then 1 else 0) = lb p w + (if a < w then 1 else 0) + (lc p w + if w = a then 1 else 0)
    rw [ih]
    split <;> split <;> split <;> omega
theorem lb_len : ∀ (l : List Nat) (w : Nat), lb l w ≤ l.length
  | [], _ => Int.le_refl _
  | a :: p, w => by
    have ih := lb_len p w
    show lb p w + (if a < w then 1 else 0) ≤ ((p.length + 1 : Nat) : Int)
    split <;> omega
theorem lb_all {w : Nat} : ∀ {l : List Nat}, (∀ a, a ∈ l → a < w) → lb l w = l.length
  | [], _ => rfl
  | a :: p, h => by
    have ih := lb_all (l := p) (fun b hb => h b (List.mem_cons_of_mem _ hb))
    show lb p w + (if a < w then 1 else 0) = ((p.length + 1 : Nat) : Int)
    rw [if_pos (h a (List.mem_cons_self)), ih]; omega
theorem lb_eq {p q : List Nat} : ∀ {w : Nat}, (∀ v, v < w → lc p v = lc q v) → lb p w = lb q w
  | 0, _ => by rw [lb_0, lb_0]
  | w + 1, h => by rw [lb_up, lb_up, lb_eq (fun v hv => h v (by omega)), h w (by omega)]
theorem lc_mem : ∀ {l : List Nat} {w : Nat}, 0 < lc l w → w ∈ l
  | [], _, h => absurd h (by show ¬ 0 < (0 : Int); omega)
  | a :: p, w, h => by
    have h : 0 < lc p w + (if w = a then 1 else 0) := h
    by_cases e : w = a
    · rw [e]; exact List.mem_cons_self
    · rw [if_neg e] at h
      exact List.mem_cons_of_mem _ (lc_mem (by omega))
theorem bef_len : ∀ {p q : List Nat}, bef p q → p.length = q.length
  | _ :: _, _ :: _, h => by
    rcases h with h | ⟨h, _⟩
    · simp [bef_len h]
    · simp [h]
theorem bef_trans : ∀ {p q r : List Nat}, bef p q → bef q r → bef p r
  | _ :: _, _ :: _, _ :: _, h, k => by
    rcases h with h | ⟨h, h'⟩
    · rcases k with k | ⟨k, _⟩
      · exact .inl (bef_trans h k)
      · rw [k] at h; exact .inl h
    · rcases k with k | ⟨k, k'⟩
      · rw [← h] at k; exact .inl k
      · exact .inr ⟨h.trans k, by omega⟩
theorem btr_trans {f : Nat → Int} {a b d : List Nat} (h : btr f a b) (k : btr f b d) : btr f a d := by
  rcases h with h | ⟨h, h2⟩
  · rcases k with k | ⟨k, _⟩
    · exact .inl (by omega)
    · exact .inl (by omega)
  · rcases k with k | ⟨k, k2⟩
    · exact .inl (by omega)
    · refine .inr ⟨by omega, ?_⟩
      rcases h2 with h2 | ⟨h2, h3⟩
      · rcases k2 with k2 | ⟨k2, _⟩
        · exact .inl (by omega)
        · exact .inl (by omega)
      · rcases k2 with k2 | ⟨k2, k3⟩
        · exact .inl (by omega)
        · exact .inr ⟨by omega, bef_trans h3 k3⟩
/-- where the one that comes before has more -/
theorem bef_first {E : Nat} : ∀ {p q : List Nat}, srt E p → srt E q → bef p q → ∃ w, (∀ v, v < w → lc p v = lc q v) ∧ lc q w < lc p w
  | a :: p, b :: q, hp, hq, h => by
    have ec : ∀ v, lc (a :: p) v = lc p v + if v = a then 1 else 0 := fun _ => rfl
    have ed : ∀ v, lc (b :: q) v = lc q v + if v = b then 1 else 0 := fun _ => rfl
    rcases h with h | ⟨h, h'⟩
    · obtain ⟨w, h1, h2⟩ := bef_first hp.2.2 hq.2.2 h
      have hlen := bef_len h
      have hz := lc_nn q w
      have hwp : w ∈ p := lc_mem (by omega)
      have hwa := hp.2.1 w hwp
      have hwb : w < b := by
        refine Nat.lt_of_not_le (fun hbw => ?_)
        have k1 := lb_eq h1
        have k2 : lb q (w + 1) = q.length := lb_all (fun x hx => by have := hq.2.1 x hx; omega)
        have k3 := lb_len p (w + 1)
        rw [lb_up] at k2 k3
        omega
      refine ⟨w, fun v hv => ?_, ?_⟩
      · rw [ec, ed, if_neg (by omega), if_neg (by omega), h1 v hv]
      · rw [ec, ed, if_neg (show ¬ w = b by omega)]
        split <;> omega
    · subst h
      refine ⟨a, fun v hv => ?_, ?_⟩
      · rw [ec, ed, if_neg (by omega), if_neg (by omega)]
      · rw [ec, ed, if_pos rfl, if_neg (by omega)]; omega
/-- at the first wire where they differ -/
theorem bef_at {E w : Nat} {p q : List Nat} (hp : srt E p) (hq : srt E q) (hl : p.length = q.length) (h1 : ∀ v, v < w → lc p v = lc q v) (h2 : lc p w ≠ lc q w) : bef p q ↔ lc q w < lc p w := by
  have first : ∀ {w' : Nat} {p q : List Nat}, (∀ v, v < w → lc p v = lc q v) → lc p w ≠ lc q w → (∀ v, v < w' → lc p v = lc q v) → lc q w' < lc p w' → w' = w := fun a b c' d => by
    rename_i w' p q
    rcases Nat.lt_trichotomy w' w with z | z | z
    · have := a w' z; omega
    · exact z
    · exact absurd (c' w z) b
  constructor
  · intro h
    obtain ⟨w', a, b⟩ := bef_first hp hq h
    have := first h1 h2 a b
    subst this; exact b
  · intro h
    rcases bef_total hl with z | z | z
    · exact z
    · rw [z] at h; omega
    · obtain ⟨w', a, b⟩ := bef_first hq hp z
      have := first (fun v hv => (h1 v hv).symm) (fun e => h2 e.symm) a b
      subst this; omega
theorem bef_no {E : Nat} {p q : List Nat} (hp : srt E p) (hq : srt E q) (h : ∀ v, v < E → lc p v = lc q v) : ¬ bef p q := fun z => by
  obtain ⟨w, _, b⟩ := bef_first hp hq z
  have hz := lc_nn q w
  have := h w (srt_mem hp w (lc_mem (by omega)))
  omega
section IR
variable {f : Nat → Int} {vl V : List Nat → Prop} {o : Option (List Nat)} {p b : List Nat}
theorem inv_put (h : InvB f vl o V) (hv : vl p) (hb : ∀ b, o = some b → btr f p b) : InvB f vl (some p) (fun l => V l ∨ l = p) := by
  refine ⟨hv, .inr rfl, fun l hl hvl hbt => ?_⟩
  rcases hl with q | q
  · cases o with
    | none => exact h l q hvl
    | some b => exact h.2.2 l q hvl (btr_trans hbt (hb b rfl))
  · subst q
    rcases hbt with y | ⟨_, y | ⟨_, y⟩⟩
    · omega
    · omega
    · exact bef_asym y y
theorem inv_hold (h : InvB f vl o V) (hb : ¬ vl p ∨ ∃ b, o = some b ∧ ¬ btr f p b) : InvB f vl o (fun l => V l ∨ l = p) := by
  refine inv_more h (fun l z => .inl z) (fun e l z => ?_) (fun b e l z => ?_)
  · rcases z with z | z
    · exact .inl z
    · subst z
      rcases hb with y | ⟨b, y, _⟩
      · exact .inr y
      · rw [e] at y; cases y
  · rcases z with z | z
    · exact .inl z
    · subst z
      rcases hb with y | ⟨b', y, y2⟩
      · exact .inr (.inl y)
      · rw [e] at y; injection y with y
        subst y; exact .inr (.inr y2)
end IR
