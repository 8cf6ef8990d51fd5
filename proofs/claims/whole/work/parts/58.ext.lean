/-! WIDENED: rows that go on from a row -/
def Ext (E u : Nat) (p l : List Nat) : Prop := ∃ s, l = s ++ p ∧ srt E l ∧ l.length ≤ u
def hd : List Nat → Nat
  | [] => 0
  | a :: _ => a
theorem srt_hd {E : Nat} {p : List Nat} {w : Nat} (h : srt E (w :: p)) : hd p ≤ w := by
  cases p with
  | nil => exact Nat.zero_le _
  | cons a q => exact h.2.1 a (List.mem_cons_self)
theorem srt_up {E : Nat} {p : List Nat} {w : Nat} (h : srt E p) (hw : w < E) (hh : hd p ≤ w) : srt E (w :: p) := by
  refine ⟨hw, fun b hb => ?_, h⟩
  cases p with
  | nil => cases hb
  | cons a q =>
    have hh : a ≤ w := hh
    rcases List.mem_cons.mp hb with e | e
    · omega
    · have := h.2.1 b e
      omega
theorem app_last : ∀ (s : List Nat), s = [] ∨ ∃ r w, s = r ++ [w]
  | [] => .inl rfl
  | a :: s => by
    rcases app_last s with e | ⟨r, w, e⟩
    · exact .inr ⟨[], a, by rw [e]; rfl⟩
    · exact .inr ⟨a :: r, w, by rw [e]; rfl⟩
theorem Ext_self {E u : Nat} {p : List Nat} (h : srt E p) (hu : p.length ≤ u) : Ext E u p p := ⟨[], rfl, h, hu⟩
theorem Ext_cases {E u : Nat} {p l : List Nat} (h : Ext E u p l) : l = p ∨ ∃ w, w < E ∧ hd p ≤ w ∧ Ext E u (w :: p) l := by
  obtain ⟨s, e, h1, h2⟩ := h
  rcases app_last s with q | ⟨r, w, q⟩
  · rw [q] at e; exact .inl e
  · rw [q] at e
    have e' : l = r ++ (w :: p) := by rw [e, List.append_assoc]; rfl
    have hs : srt E (w :: p) := srt_app (s := r) (by rw [← e']; exact h1)
    exact .inr ⟨w, hs.1, srt_hd hs, r, e', h1, h2⟩
theorem Ext_up {E u : Nat} {p l : List Nat} {w : Nat} (h : Ext E u (w :: p) l) : Ext E u p l := by
  obtain ⟨s, e, h1, h2⟩ := h
  exact ⟨s ++ [w], by rw [e, List.append_assoc]; rfl, h1, h2⟩
theorem Ext_len {E u : Nat} {p l : List Nat} (h : Ext E u p l) : p.length ≤ l.length := by
  obtain ⟨s, e, -⟩ := h
  rw [e, List.length_append]; omega
theorem Ext_full {E u : Nat} {p l : List Nat} (h : Ext E u p l) (hu : p.length = u) : l = p := by
  obtain ⟨s, e, h1, h2⟩ := h
  have : s.length = 0 := by
    rw [e, List.length_append] at h2
    omega
  rw [List.length_eq_zero_iff.mp this] at e
  exact e
theorem Ext_bef {E u : Nat} {a b l m : List Nat} (ha : Ext E u a l) (hb : Ext E u b m) (hab : bef a b) (hl : a.length = b.length) (hlm : l.length = m.length) : bef l m := by
  obtain ⟨s, e, -⟩ := ha
  obtain ⟨s', e', -⟩ := hb
  rw [e, e'] at hlm ⊢
  rw [List.length_append, List.length_append] at hlm
  exact bef_ext (by omega) hab
