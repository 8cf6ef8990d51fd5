/-! WIDENED: rows of more as lists of wires, the last pick first -/
def bef : List Nat → List Nat → Prop
  | a :: p, b :: q => bef p q ∨ (p = q ∧ a < b)
  | _, _ => False
theorem bef_asym : ∀ {p q : List Nat}, bef p q → ¬ bef q p
  | [], _, h, _ => h
  | _ :: _, [], h, _ => h
  | a :: p, b :: q, h, k => by
    rcases h with h | ⟨e, h⟩
    · rcases k with k | ⟨e', k⟩
      · exact bef_asym h k
      · subst e'; exact bef_asym h h
    · subst e
      rcases k with k | ⟨_, k⟩
      · exact bef_asym k k
      · omega
theorem bef_total : ∀ {p q : List Nat}, p.length = q.length → bef p q ∨ p = q ∨ bef q p
  | [], [], _ => .inr (.inl rfl)
  | a :: p, b :: q, h => by
    have h' : p.length = q.length := by simpa using h
    rcases bef_total h' with k | k | k
    · exact .inl (.inl k)
    · subst k
      rcases Nat.lt_trichotomy a b with z | z | z
      · exact .inl (.inr ⟨rfl, z⟩)
      · exact .inr (.inl (by rw [z]))
      · exact .inr (.inr (.inr ⟨rfl, z⟩))
    · exact .inr (.inr (.inl k))
theorem bef_ext : ∀ {s s' : List Nat} {a b : List Nat}, s.length = s'.length → bef a b → bef (s ++ a) (s' ++ b)
  | [], [], _, _, _, h => h
  | x :: s, y :: s', a, b, e, h => .inl (bef_ext (by simpa using e) h)
/-- nonincreasing, below E -/
def srt (E : Nat) : List Nat → Prop
  | [] => True
  | a :: p => a < E ∧ (∀ b, b ∈ p → b ≤ a) ∧ srt E p
/-- how often -/
def lc : List Nat → Nat → Int
  | [], _ => 0
  | a :: p, w => lc p w + if w = a then 1 else 0
def prs (f : Nat → Int) : List Nat → Int
  | [] => 0
  | a :: p => prs f p + f a
theorem lc_nn : ∀ (l : List Nat) (w : Nat), 0 ≤ lc l w ∧ lc l w ≤ l.length
  | [], _ => by show 0 ≤ (0 : Int) ∧ (0 : Int) ≤ _; simp
  | a :: p, w => by
    have h := lc_nn p w
    show 0 ≤ lc p w + (if w = a then 1 else 0) ∧ lc p w + (if w = a then 1 else 0) ≤ ((p.length + 1 : Nat) : Int)
    split <;> omega
theorem lc_app : ∀ (s p : List Nat) (w : Nat), lc p w ≤ lc (s ++ p) w
  | [], _, _ => Int.le_refl _
  | a :: s, p, w => by
    have h := lc_app s p w
    show _ ≤ lc (s ++ p) w + (if w = a then 1 else 0)
    split <;> omega
theorem srt_app {E : Nat} : ∀ {s p : List Nat}, srt E (s ++ p) → srt E p
  | [], _, h => h
  | _ :: s, p, h => srt_app (s := s) h.2.2
theorem srt_mem {E : Nat} : ∀ {l : List Nat}, srt E l → ∀ b, b ∈ l → b < E
  | a :: p, h, b, hb => by
    rcases List.mem_cons.mp hb with e | e
    · rw [e]; exact h.1
    · exact srt_mem h.2.2 b e
theorem prs_app {f : Nat → Int} {E : Nat} (hf : ∀ w, w < E → 1 ≤ f w) : ∀ {s p : List Nat}, srt E (s ++ p) → prs f p ≤ prs f (s ++ p)
  | [], _, _ => Int.le_refl _
  | a :: s, p, h => by
    have ih := prs_app hf (s := s) h.2.2
    have := hf a h.1
    show _ ≤ prs f (s ++ p) + f a
    omega
