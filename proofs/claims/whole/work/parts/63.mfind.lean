/-! WIDENED: the reference's search: codes as rows -/
def app1 (p : List Nat) (d : Nat) : List Nat := if d = 0 then p else (d - 1) :: p
def rem_ (E i : Nat) : Nat → Nat
  | 0 => i
  | k + 1 => rem_ E i k / (E + 1)
def dig (E i k : Nat) : Nat := rem_ E i k % (E + 1)
def cdp (E i : Nat) : Nat → List Nat
  | 0 => []
  | k + 1 => app1 (cdp E i k) (dig E i k)
def may (c : CS) (i : Nat) : Nat → Prop
  | 0 => True
  | k + 1 => may c i k ∧ (∀ j, k = j + 1 → dig (kE c) i j ≤ dig (kE c) i k) ∧ (dig (kE c) i k ≠ 0 → kW c (dig (kE c) i k - 1) + lc (cdp (kE c) i (k + 1)) (dig (kE c) i k - 1) ≤ 6)
def ndec (E i : Nat) : Prop := dig E i 0 ≤ dig E i 1 ∧ dig E i 1 ≤ dig E i 2
theorem app1_len (p : List Nat) (d : Nat) : (app1 p d).length ≤ p.length + 1 := by
  unfold app1
  split
  · omega
  · show p.length + 1 ≤ _; omega
theorem cdp_len (E i : Nat) : ∀ k, (cdp E i k).length ≤ k
  | 0 => Nat.le_refl _
  | k + 1 => by
    have := cdp_len E i k
    have := app1_len (cdp E i k) (dig E i k)
    show (app1 _ _).length ≤ _
    omega
theorem dig_lt (E i k : Nat) : dig E i k < E + 1 := Nat.mod_lt _ (by omega)
theorem cdp_mem {E i : Nat} (h : ndec E i) : ∀ k, k ≤ 3 → ∀ b, b ∈ cdp E i k → 0 < k ∧ b + 1 ≤ dig E i (k - 1)
  | 0, _, b, hb => by cases hb
  | k + 1, hk, b, hb => by
    have ih := cdp_mem h k (by omega) b
    have hb : b ∈ app1 (cdp E i k) (dig E i k) := hb
    show 0 < k + 1 ∧ b + 1 ≤ dig E i k
    have hstep : 0 < k → dig E i (k - 1) ≤ dig E i k := fun _ => by
      obtain ⟨h1, h2⟩ := h
      have : k = 1 ∨ k = 2 := by omega
      rcases this with e | e
      · subst e; exact h1
      · subst e; exact h2
    unfold app1 at hb
    by_cases z : dig E i k = 0
    · rw [if_pos z] at hb
      have := ih hb
      have := hstep this.1
      omega
    · rw [if_neg z] at hb
      rcases List.mem_cons.mp hb with e | e
      · omega
      · have := ih e
        have := hstep this.1
        omega
theorem cdp_srt {E i : Nat} (h : ndec E i) : ∀ k, k ≤ 3 → srt E (cdp E i k)
  | 0, _ => trivial
  | k + 1, hk => by
    have ih := cdp_srt h k (by omega)
    show srt E (app1 (cdp E i k) (dig E i k))
    have hm := cdp_mem h (k + 1) hk
    have hd := dig_lt E i k
    unfold app1
    by_cases z : dig E i k = 0
    · rw [if_pos z]; exact ih
    · rw [if_neg z]
      refine ⟨by omega, fun b hb => ?_, ih⟩
      have := (hm b (by show b ∈ app1 _ _; unfold app1; rw [if_neg z]; exact List.mem_cons_of_mem _ hb)).2
      have : b + 1 ≤ dig E i k := this
      omega
theorem may_iff {c : CS} (hC : CI c) (i : Nat) : may c i 3 ↔ ndec (kE c) i ∧ okw c (cdp (kE c) i 3) := by
  have hstep : ∀ k w, lc (cdp (kE c) i (k + 1)) w = lc (cdp (kE c) i k) w + (if dig (kE c) i k = w + 1 then 1 else 0) := fun k w => by
    show lc (app1 _ _) w = _
    unfold app1
    by_cases z : dig (kE c) i k = 0
    · rw [if_pos z, if_neg (by omega)]; omega
    · rw [if_neg z]
      show lc _ w + (if w = _ then 1 else 0) = _
      by_cases y : dig (kE c) i k = w + 1
      · rw [if_pos y, if_pos (by omega)]
      · rw [if_neg y, if_neg (by omega)]
  have hW : ∀ w, w < kE c → kW c w ≤ 6 := fun w hw => (hC.2.2.1 w hw).2.2.2.1.2
  have hd := dig_lt (kE c) i
  constructor
  · rintro ⟨⟨⟨_, _, m0⟩, s1, m1⟩, s2, m2⟩
    have m0 : dig (kE c) i 0 ≠ 0 → kW c (dig (kE c) i 0 - 1) + lc (cdp (kE c) i 1) (dig (kE c) i 0 - 1) ≤ 6 := m0
    have m1 : dig (kE c) i 1 ≠ 0 → kW c (dig (kE c) i 1 - 1) + lc (cdp (kE c) i 2) (dig (kE c) i 1 - 1) ≤ 6 := m1
    have m2 : dig (kE c) i 2 ≠ 0 → kW c (dig (kE c) i 2 - 1) + lc (cdp (kE c) i 3) (dig (kE c) i 2 - 1) ≤ 6 := m2
    have hn : ndec (kE c) i := ⟨s1 0 rfl, s2 1 rfl⟩
    refine ⟨hn, fun w hw => ?_⟩
    have k0 := hW w hw
    have e1 : lc (cdp (kE c) i 1) w = lc (cdp (kE c) i 0) w + _ := hstep 0 w
    have e2 : lc (cdp (kE c) i 2) w = lc (cdp (kE c) i 1) w + _ := hstep 1 w
    have e3 : lc (cdp (kE c) i 3) w = lc (cdp (kE c) i 2) w + _ := hstep 2 w
    have e0 : lc (cdp (kE c) i 0) w = 0 := rfl
    by_cases y2 : dig (kE c) i 2 = w + 1
    · have := m2 (by omega)
      rw [y2, Nat.add_sub_cancel] at this
      exact this
    · rw [if_neg y2] at e3
      by_cases y1 : dig (kE c) i 1 = w + 1
      · have := m1 (by omega)
        rw [y1, Nat.add_sub_cancel] at this
        have : kW c w + lc (cdp (kE c) i 2) w ≤ 6 := this
        omega
      · rw [if_neg y1] at e2
        by_cases y0 : dig (kE c) i 0 = w + 1
        · have := m0 (by omega)
          rw [y0, Nat.add_sub_cancel] at this
          have : kW c w + lc (cdp (kE c) i 1) w ≤ 6 := this
          omega
        · rw [if_neg y0] at e1
          omega
  · rintro ⟨hn, ho⟩
    have mono : ∀ k, k ≤ 2 → dig (kE c) i k ≠ 0 → kW c (dig (kE c) i k - 1) + lc (cdp (kE c) i (k + 1)) (dig (kE c) i k - 1) ≤ 6 := fun k hk hz => by
      have h1 := ho (dig (kE c) i k - 1) (by have := hd k; omega)
      have e2 := hstep 1 (dig (kE c) i k - 1)
      have e3 := hstep 2 (dig (kE c) i k - 1)
      have : k = 0 ∨ k = 1 ∨ k = 2 := by omega
      rcases this with e | e | e
      · subst e
        have e2 : lc (cdp (kE c) i 2) (dig (kE c) i 0 - 1) = lc (cdp (kE c) i 1) (dig (kE c) i 0 - 1) + _ := e2
        have e3 : lc (cdp (kE c) i 3) (dig (kE c) i 0 - 1) = lc (cdp (kE c) i 2) (dig (kE c) i 0 - 1) + _ := e3
        show _ + lc (cdp (kE c) i 1) _ ≤ 6
        split at e2 <;> split at e3 <;> omega
      · subst e
        have e3 : lc (cdp (kE c) i 3) (dig (kE c) i 1 - 1) = lc (cdp (kE c) i 2) (dig (kE c) i 1 - 1) + _ := e3
        show _ + lc (cdp (kE c) i 2) _ ≤ 6
        split at e3 <;> omega
      · subst e; exact h1
    have g1 : ∀ j, 1 = j + 1 → dig (kE c) i j ≤ dig (kE c) i 1 := fun j e => by
      obtain rfl : j = 0 := by omega
      exact hn.1
    have g2 : ∀ j, 2 = j + 1 → dig (kE c) i j ≤ dig (kE c) i 2 := fun j e => by
      obtain rfl : j = 1 := by omega
      exact hn.2
    exact ⟨⟨⟨trivial, fun j (e : 0 = j + 1) => absurd e (by omega), mono 0 (by omega)⟩, g1, mono 1 (by omega)⟩, g2, mono 2 (by omega)⟩
theorem dig_of {E d0 d1 d2 : Nat} (h0 : d0 < E + 1) (h1 : d1 < E + 1) (h2 : d2 < E + 1) : dig E (d0 + (E + 1) * (d1 + (E + 1) * d2)) 0 = d0 ∧ dig E (d0 + (E + 1) * (d1 + (E + 1) * d2)) 1 = d1 ∧ dig E (d0 + (E + 1) * (d1 + (E + 1) * d2)) 2 = d2 := by
  have r1 : (d0 + (E + 1) * (d1 + (E + 1) * d2)) / (E + 1) = d1 + (E + 1) * d2 := by
    rw [Nat.add_mul_div_left _ _ (by omega), Nat.div_eq_of_lt h0]; omega
  have r2 : (d1 + (E + 1) * d2) / (E + 1) = d2 := by
    rw [Nat.add_mul_div_left _ _ (by omega), Nat.div_eq_of_lt h1]; omega
  refine ⟨?_, ?_, ?_⟩
  · show (d0 + (E + 1) * (d1 + (E + 1) * d2)) % (E + 1) = d0
    rw [Nat.add_mul_mod_self_left, Nat.mod_eq_of_lt h0]
  · show (d0 + (E + 1) * (d1 + (E + 1) * d2)) / (E + 1) % (E + 1) = d1
    rw [r1, Nat.add_mul_mod_self_left, Nat.mod_eq_of_lt h1]
  · show (d0 + (E + 1) * (d1 + (E + 1) * d2)) / (E + 1) / (E + 1) % (E + 1) = d2
    rw [r1, r2, Nat.mod_eq_of_lt h2]
theorem code_lt {E d0 d1 d2 : Nat} (h0 : d0 < E + 1) (h1 : d1 < E + 1) (h2 : d2 < E + 1) : d0 + (E + 1) * (d1 + (E + 1) * d2) < (E + 1) * (E + 1) * (E + 1) := by
  have k1 : (E + 1) * d2 + (E + 1) ≤ (E + 1) * (E + 1) := by
    have := Nat.mul_le_mul_left (E + 1) (show d2 + 1 ≤ E + 1 by omega)
    rw [Nat.mul_add, Nat.mul_one] at this
    exact this
  have k2 : (E + 1) * (d1 + (E + 1) * d2) + (E + 1) ≤ (E + 1) * ((E + 1) * (E + 1)) := by
    have := Nat.mul_le_mul_left (E + 1) (show d1 + (E + 1) * d2 + 1 ≤ (E + 1) * (E + 1) by omega)
    rw [Nat.mul_add _ _ 1, Nat.mul_one] at this
    exact this
  rw [Nat.mul_assoc]
  omega
/-- the rows of the codes below i -/
def cdV (E u i : Nat) (l : List Nat) : Prop := ∃ j, j < i ∧ l = cdp E j 3 ∧ ndec E j ∧ l.length ≤ u
theorem cdV_all {c : CS} {u : Nat} (hu : u ≤ 3) (l : List Nat) : cdV (kE c) u ((kE c + 1) * (kE c + 1) * (kE c + 1)) l ↔ cdl c u l := by
  constructor
  · rintro ⟨j, _, e, hn, hl⟩
    refine ⟨?_, hl⟩
    rw [e]; exact cdp_srt hn 3 (by omega)
  · rintro ⟨hs, hl⟩
    have mk : ∀ d0 d1 d2, d0 ≤ d1 → d1 ≤ d2 → d2 < kE c + 1 → l = app1 (app1 (app1 [] d0) d1) d2 → cdV (kE c) u ((kE c + 1) * (kE c + 1) * (kE c + 1)) l := fun d0 d1 d2 h1 h2 h3 e => by
      obtain ⟨q0, q1, q2⟩ := dig_of (E := kE c) (d0 := d0) (d1 := d1) (d2 := d2) (by omega) (by omega) h3
      refine ⟨_, code_lt (d0 := d0) (d1 := d1) (d2 := d2) (by omega) (by omega) h3, ?_, ⟨by rw [q0, q1]; exact h1, by rw [q1, q2]; exact h2⟩, hl⟩
      show l = app1 (app1 (app1 [] (dig _ _ 0)) (dig _ _ 1)) (dig _ _ 2)
      rw [q0, q1, q2]
      exact e
    have ap0 : ∀ p, app1 p 0 = p := fun p => if_pos rfl
    have apS : ∀ p d, app1 p (d + 1) = d :: p := fun p d => if_neg (by omega)
    match l, hs, hl with
    | [], _, _ => exact mk 0 0 0 (by omega) (by omega) (by omega) (by rw [ap0, ap0, ap0])
    | [a], hs, _ => exact mk 0 0 (a + 1) (by omega) (by omega) (by have := hs.1; omega) (by rw [ap0, ap0, apS])
    | [a, b], hs, _ => exact mk 0 (b + 1) (a + 1) (by omega) (by have := hs.2.1 b (by simp); omega) (by have := hs.1; omega) (by rw [ap0, apS, apS])
    | [a, b, d], hs, _ => exact mk (d + 1) (b + 1) (a + 1) (by have := hs.2.2.2.1 d (by simp); omega) (by have := hs.2.1 b (by simp); omega) (by have := hs.1; omega) (by rw [apS, apS, apS])
    | a :: b :: d :: e :: l', _, hl => exact absurd (show l'.length + 4 ≤ u from hl) (by omega)
theorem nI_div {a b : Nat} (ha : a < 2147483648) (hb : b < 2147483648) : nI a / nI b = nI (a / b) := by
  have hlt : a / b ≤ a := Nat.div_le_self a b
  refine i_inj ?_
  rw [Int32.toInt_div, nI_toInt ha, nI_toInt hb, nI_toInt (by omega), ← Int.ofNat_tdiv]
  generalize a / b = q at *
  exact Int.bmod_eq_of_le (by omega) (by omega)
