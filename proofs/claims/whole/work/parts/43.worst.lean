/-! THE WORST: what blocks get -/
def nx (r : Nat → Int) (g : Nat → Int) : Nat → Option Nat
  | 0 => none
  | i + 1 => if g i = -1 then (match nx r g i with | none => some i | some j => if r i ≤ r j then some j else some i) else nx r g i
def rp : Option Nat → Int32
  | none => -1
  | some j => nI j
theorem m1' : (-1 : Int32).toInt = -1 := by decide
theorem nI_nm1 {j : Nat} (h : j < 2000000000) : ¬ nI j = (-1 : Int32) := fun e => by
  have := congrArg Int32.toInt e
  rw [nI_toInt (by omega), m1'] at this
  omega
theorem nx_some {r g : Nat → Int} : ∀ {i j}, nx r g i = some j → j < i ∧ g j = -1
  | i + 1, j, h => by
    unfold nx at h
    by_cases q : g i = -1
    · rw [if_pos q] at h
      cases e : nx r g i with
      | none => rw [e] at h; injection h with h; subst h; exact ⟨by omega, q⟩
      | some a =>
        have ih := nx_some e
        rw [e] at h
        simp only at h
        by_cases z : r i ≤ r a
        · rw [if_pos z] at h; injection h with h; subst h; exact ⟨by omega, ih.2⟩
        · rw [if_neg z] at h; injection h with h; subst h; exact ⟨by omega, q⟩
    · rw [if_neg q] at h
      have ih := nx_some h
      exact ⟨by omega, ih.2⟩
theorem nx_none {r g : Nat → Int} : ∀ {i}, nx r g i = none → ∀ b, b < i → g b ≠ -1
  | i + 1, h, b, hb => by
    unfold nx at h
    by_cases q : g i = -1
    · rw [if_pos q] at h
      cases e : nx r g i with
      | none => rw [e] at h; exact absurd h (by simp)
      | some a =>
        rw [e] at h
        simp only at h
        by_cases z : r i ≤ r a
        · rw [if_pos z] at h; exact absurd h (by simp)
        · rw [if_neg z] at h; exact absurd h (by simp)
    · rw [if_neg q] at h
      by_cases e : b = i
      · rw [e]; exact q
      · exact nx_none h b (by omega)
def ug (g : Nat → Int) (b : Nat) (v : Int) : Nat → Int := fun j => if j = b then v else g j
def mnI (a b : Int) : Int := if a ≤ b then a else b
def wT (nb : Nat) (r mo : Nat → Int) (s : (Nat → Int) × Int) : (Nat → Int) × Int := match nx r s.1 nb with
    | none => s
    | some b => (ug s.1 b (mnI s.2 (mo b)), s.2 - mnI s.2 (mo b))
/-- gets and left after i turns -/
def wS (nb : Nat) (r mo : Nat → Int) (bud : Int) : Nat → (Nat → Int) × Int
  | 0 => (fun _ => -1, bud)
  | i + 1 => wT nb r mo (wS nb r mo bud i)
theorem wT_some {nb : Nat} {r mo : Nat → Int} {s : (Nat → Int) × Int} {b : Nat} (h : nx r s.1 nb = some b) : wT nb r mo s = (ug s.1 b (mnI s.2 (mo b)), s.2 - mnI s.2 (mo b)) := by
  unfold wT
  rw [h]
def wC (nb : Nat) (g : Nat → Int) : Int := sm nb (fun b => if g b = -1 then 1 else 0)
theorem sm_ug {nb b : Nat} (hb : b < nb) (f : Nat → Int → Int) (g : Nat → Int) (v : Int) : sm nb (fun j => f j (ug g b v j)) = sm nb (fun j => f j (g j)) - f b (g b) + f b v := by
  have e : ∀ j, f j (ug g b v j) = f j (g j) + dl j b * (f b v - f b (g b)) := fun j => by
    unfold ug dl
    by_cases q : j = b
    · subst q; rw [if_pos rfl, if_pos rfl]; omega
    · rw [if_neg q, if_neg q]; omega
  rw [sm_congr (fun j _ => e j), sm_add]
  have := sm_dl hb (fun _ => f b v - f b (g b))
  rw [this]; omega
theorem sm_ones : ∀ n : Nat, sm n (fun _ => (1 : Int)) = (n : Int)
  | 0 => rfl
  | n + 1 => by show sm n (fun _ => (1 : Int)) + 1 = _; rw [sm_ones n]; omega
theorem wS_ok {nb : Nat} {r mo : Nat → Int} {bud : Int} (hb : 0 ≤ bud ∧ bud ≤ 100) (hm : ∀ b, b < nb → 1 ≤ mo b ∧ mo b ≤ 20) : ∀ i, i ≤ nb → (0 ≤ (wS nb r mo bud i).2 ∧ (wS nb r mo bud i).2 ≤ 100) ∧ wC nb (wS nb r mo bud i).1 = (nb : Int) - i ∧ ∀ b, (wS nb r mo bud i).1 b = -1 ∨ (0 ≤ (wS nb r mo bud i).1 b ∧ (wS nb r mo bud i).1 b ≤ 20)
  | 0, _ => by
    refine ⟨hb, ?_, fun b => .inl rfl⟩
    show sm nb (fun _ => if (-1 : Int) = -1 then 1 else 0) = _
    rw [sm_congr (fun j _ => if_pos rfl), sm_ones]; omega
  | i + 1, h => by
    obtain ⟨h1, h2, h3⟩ := wS_ok (r := r) hb hm i (by omega)
    show (0 ≤ (wT nb r mo (wS nb r mo bud i)).2 ∧ (wT nb r mo (wS nb r mo bud i)).2 ≤ 100) ∧ wC nb (wT nb r mo (wS nb r mo bud i)).1 = (nb : Int) - ((i + 1 : Nat) : Int) ∧ ∀ b, (wT nb r mo (wS nb r mo bud i)).1 b = -1 ∨ (0 ≤ (wT nb r mo (wS nb r mo bud i)).1 b ∧ (wT nb r mo (wS nb r mo bud i)).1 b ≤ 20)
    generalize wS nb r mo bud i = s at *
    cases e : nx r s.1 nb with
    | none =>
      have h0 := nx_none e
      have : wC nb s.1 = 0 := sm_zero (fun b hb => if_neg (h0 b hb))
      omega
    | some b =>
      obtain ⟨hbn, hbg⟩ := nx_some e
      have hmb := hm b hbn
      rw [wT_some e]
      have hmn : 0 ≤ mnI s.2 (mo b) ∧ mnI s.2 (mo b) ≤ 20 ∧ mnI s.2 (mo b) ≤ s.2 := by
        unfold mnI; split <;> omega
      refine ⟨by show 0 ≤ s.2 - mnI s.2 (mo b) ∧ s.2 - mnI s.2 (mo b) ≤ 100; omega, ?_, fun j => ?_⟩
      · show sm nb (fun j => if ug s.1 b (mnI s.2 (mo b)) j = -1 then 1 else 0) = _
        rw [sm_ug hbn (fun _ z => if z = -1 then 1 else 0)]
        show wC nb s.1 - (if _ = _ then 1 else 0) + _ = _
        rw [if_pos hbg, if_neg (by omega), h2]
        omega
      · show ug s.1 b (mnI s.2 (mo b)) j = -1 ∨ (0 ≤ ug s.1 b (mnI s.2 (mo b)) j ∧ ug s.1 b (mnI s.2 (mo b)) j ≤ 20)
        unfold ug
        by_cases q : j = b
        · rw [if_pos q]; exact .inr ⟨hmn.1, hmn.2.1⟩
        · rw [if_neg q]; exact h3 j
theorem wS_next {nb : Nat} {r mo : Nat → Int} {bud : Int} (hb : 0 ≤ bud ∧ bud ≤ 100) (hm : ∀ b, b < nb → 1 ≤ mo b ∧ mo b ≤ 20) {i : Nat} (hi : i < nb) : ∃ b, nx r (wS nb r mo bud i).1 nb = some b ∧ b < nb ∧ (wS nb r mo bud i).1 b = -1 := by
  obtain ⟨h1, h2, h3⟩ := wS_ok (r := r) hb hm i (by omega)
  cases e : nx r (wS nb r mo bud i).1 nb with
  | none =>
    have h0 := nx_none e
    have : wC nb (wS nb r mo bud i).1 = 0 := sm_zero (fun b hb => if_neg (h0 b hb))
    omega
  | some b =>
    obtain ⟨hbn, hbg⟩ := nx_some e
    exact ⟨b, rfl, hbn, hbg⟩
/-- the sum of those that have got -/
def wU (nb : Nat) (r g : Nat → Int) : Int := sm nb (fun b => if g b = -1 then 0 else g b * r b)
theorem wS_all {nb : Nat} {r mo : Nat → Int} {bud : Int} (hb : 0 ≤ bud ∧ bud ≤ 100) (hm : ∀ b, b < nb → 1 ≤ mo b ∧ mo b ≤ 20) : ∀ b, b < nb → 0 ≤ (wS nb r mo bud nb).1 b ∧ (wS nb r mo bud nb).1 b ≤ 20 := by
  obtain ⟨h1, h2, h3⟩ := wS_ok (r := r) hb hm nb (Nat.le_refl _)
  intro b hbn
  rcases h3 b with h | h
  · have hz : sm nb (fun b => if (wS nb r mo bud nb).1 b = -1 then 1 else 0) = 0 := by
      have : wC nb (wS nb r mo bud nb).1 = 0 := by omega
      exact this
    have := sm_nonneg_zero (f := fun b => if (wS nb r mo bud nb).1 b = -1 then 1 else 0) (fun b _ => by show 0 ≤ (if (wS nb r mo bud nb).1 b = -1 then (1 : Int) else 0); split <;> omega) hz b hbn
    simp only [if_pos h] at this
    exact absurd this (by omega)
  · exact h
