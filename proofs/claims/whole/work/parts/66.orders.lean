/-! WOKEN: orders of blocks -/
/-- a set with b -/
def bq (S b : Nat) : Nat := S ||| 2 ^ b
theorem bq_bit (S b k : Nat) : bt7 (bq S b) k = (bt7 S k || decide (b = k)) := by
  unfold bt7 bq
  rw [Nat.testBit_or, Nat.testBit_two_pow]
theorem bq_lt {n S b : Nat} (hS : S < 2 ^ n) (hb : b < n) : bq S b < 2 ^ n := Nat.or_lt_two_pow hS (Nat.pow_lt_pow_right (by omega) hb)
theorem sm_bq {n S b : Nat} (hb : b < n) (h : bt7 S b = false) (f : Nat → Int) : sm n (fun j => if bt7 (bq S b) j = true then f j else 0) = sm n (fun j => if bt7 S j = true then f j else 0) + f b := by
  have e : ∀ j, (if bt7 (bq S b) j = true then f j else 0) = (if bt7 S j = true then f j else 0) + dl j b * f j := fun j => by
    rw [bq_bit]
    by_cases q : j = b
    · subst q
      rw [h, dl_self]
      simp
    · rw [dl_ne q]
      have : decide (b = j) = false := decide_eq_false (fun z => q z.symm)
      rw [this]
      cases bt7 S j <;> simp
  rw [sm_congr (fun j _ => e j), sm_add, sm_dl hb]
def ord (nb : Nat) : Nat → List Nat → Prop
  | S, [] => S = 2 ^ nb - 1
  | S, b :: l => b < nb ∧ bt7 S b = false ∧ ord nb (bq S b) l
def leP (p : Nat → Nat → Int) : Nat → List Nat → Int → Prop
  | _, [], L => 0 ≤ L
  | S, b :: l, L => p S b ≤ L ∧ leP p (bq S b) l L
def tot (p : Nat → Nat → Int) : Nat → Int → List Nat → Int
  | _, v, [] => v
  | S, v, b :: l => tot p (bq S b) (if p S b ≤ v then v else p S b) l
theorem tot_le {p : Nat → Nat → Int} {L : Int} : ∀ {l : List Nat} {S : Nat} {v : Int}, 0 ≤ v → (tot p S v l ≤ L ↔ v ≤ L ∧ leP p S l L)
  | [], S, v, h => ⟨fun q => ⟨q, Int.le_trans h q⟩, fun q => q.1⟩
  | b :: l, S, v, h => by
    show tot p (bq S b) (if p S b ≤ v then v else p S b) l ≤ L ↔ v ≤ L ∧ p S b ≤ L ∧ leP p (bq S b) l L
    rw [tot_le (by split <;> omega)]
    constructor
    · rintro ⟨h1, h2⟩
      split at h1
      · exact ⟨h1, by omega, h2⟩
      · exact ⟨by omega, h1, h2⟩
    · rintro ⟨h1, h2, h3⟩
      refine ⟨?_, h3⟩
      split <;> omega
theorem leP_0 {p : Nat → Nat → Int} {L : Int} : ∀ {l : List Nat} {S : Nat}, leP p S l L → 0 ≤ L
  | [], _, h => h
  | _ :: _, _, h => leP_0 h.2
theorem leP_up {p : Nat → Nat → Int} {L L' : Int} (hL : L ≤ L') : ∀ {l : List Nat} {S : Nat}, leP p S l L → leP p S l L'
  | [], _, h => Int.le_trans h hL
  | _ :: _, _, h => ⟨Int.le_trans h.1 hL, leP_up hL h.2⟩
/-- the least that orders of the others can keep to -/
def isL (p : Nat → Nat → Int) (nb S : Nat) (v : Int) : Prop := (∃ l, ord nb S l ∧ leP p S l v) ∧ ∀ l L, ord nb S l → leP p S l L → v ≤ L
theorem isL_uniq {p : Nat → Nat → Int} {nb S : Nat} {v w : Int} (h : isL p nb S v) (k : isL p nb S w) : v = w := by
  obtain ⟨⟨l, h1, h2⟩, h3⟩ := h
  obtain ⟨⟨m, k1, k2⟩, k3⟩ := k
  have := h3 m w k1 k2
  have := k3 l v h1 h2
  omega
/-- which comes first by numbers -/
def llt : List Nat → List Nat → Prop
  | a :: p, b :: q => a < b ∨ (a = b ∧ llt p q)
  | _, _ => False
def lltb : List Nat → List Nat → Bool
  | a :: p, b :: q => decide (a < b) || (decide (a = b) && lltb p q)
  | _, _ => false
theorem lltb_ok : ∀ {p q : List Nat}, lltb p q = true → llt p q
  | a :: p, b :: q, h => by
    have h : (decide (a < b) || (decide (a = b) && lltb p q)) = true := h
    simp at h
    rcases h with h | ⟨h, k⟩
    · exact .inl h
    · exact .inr ⟨h, lltb_ok k⟩
theorem llt_trans : ∀ {p q r : List Nat}, llt p q → llt q r → llt p r
  | _ :: _, _ :: _, _ :: _, h, k => by
    rcases h with h | ⟨h, h'⟩
    · rcases k with k | ⟨k, _⟩
      · exact .inl (by omega)
      · exact .inl (by omega)
    · rcases k with k | ⟨k, k'⟩
      · exact .inl (by omega)
      · exact .inr ⟨by omega, llt_trans h' k'⟩
/-- the first by numbers of those that keep to L -/
def gb (p : Nat → Nat → Int) (nb S : Nat) (L : Int) (l : List Nat) : Prop := ord nb S l ∧ leP p S l L ∧ ∀ l', ord nb S l' → leP p S l' L → l' = l ∨ llt l l'
theorem gb_tail {p : Nat → Nat → Int} {nb S b : Nat} {L : Int} {l : List Nat} (h : gb p nb S L (b :: l)) : gb p nb (bq S b) L l := by
  refine ⟨h.1.2.2, h.2.1.2, fun l' h1 h2 => ?_⟩
  rcases h.2.2 (b :: l') ⟨h.1.1, h.1.2.1, h1⟩ ⟨h.2.1.1, h2⟩ with e | e
  · injection e with _ e
    exact .inl e
  · rcases e with e | ⟨_, e⟩
    · omega
    · exact .inr e
/-- all orders of the others, by numbers -/
def PL (nb : Nat) : Nat → Nat → List (List Nat)
  | 0, S => if S = 2 ^ nb - 1 then [[]] else []
  | f + 1, S => (List.range nb).flatMap (fun b => if S.testBit b = true then [] else (PL nb f (bq S b)).map (fun l => b :: l))
theorem PL_mem {nb : Nat} {l : List Nat} : ∀ {f S : Nat}, l ∈ PL nb f S ↔ ord nb S l ∧ l.length = f
  | 0, S => by
    unfold PL
    by_cases q : S = 2 ^ nb - 1
    · rw [if_pos q]
      constructor
      · intro h
        rw [List.mem_singleton] at h
        subst h; exact ⟨q, rfl⟩
      · rintro ⟨_, h⟩
        rw [List.length_eq_zero_iff] at h
        rw [h]; exact List.mem_singleton.mpr rfl
    · rw [if_neg q]
      constructor
      · intro h; cases h
      · rintro ⟨h1, h⟩
        rw [List.length_eq_zero_iff] at h
        subst h; exact absurd h1 q
  | f + 1, S => by
    unfold PL
    rw [List.mem_flatMap]
    constructor
    · rintro ⟨b, hb, h⟩
      by_cases q : S.testBit b = true
      · rw [if_pos q] at h; cases h
      · rw [if_neg q, List.mem_map] at h
        obtain ⟨m, hm, e⟩ := h
        have := PL_mem.mp hm
        subst e
        exact ⟨⟨List.mem_range.mp hb, by unfold bt7; simpa using q, this.1⟩, by simp [this.2]⟩
    · rintro ⟨h1, h2⟩
      cases l with
      | nil => cases h2
      | cons b m =>
        refine ⟨b, List.mem_range.mpr h1.1, ?_⟩
        have hb : bt7 S b = false := h1.2.1
        unfold bt7 at hb
        rw [if_neg (by rw [hb]; decide), List.mem_map]
        exact ⟨m, PL_mem.mpr ⟨h1.2.2, by simpa using h2⟩, rfl⟩
theorem full_bit {nb k : Nat} (h : k < nb) : bt7 (2 ^ nb - 1) k = true := by
  unfold bt7
  rw [Nat.testBit_two_pow_sub_one]
  exact decide_eq_true h
theorem ord_len {nb : Nat} : ∀ {l : List Nat} {S : Nat}, ord nb S l → cnt nb S + l.length = nb
  | [], S, h => by
    have h : S = 2 ^ nb - 1 := h
    subst h
    have : cnt nb (2 ^ nb - 1) = sm nb (fun _ => 1) := sm_congr (fun k hk => if_pos (full_bit hk))
    rw [this, sm_ones]
    simp
  | b :: l, S, h => by
    have ih := ord_len h.2.2
    have := sm_bq h.1 h.2.1 (fun _ => 1)
    have : cnt nb (bq S b) = cnt nb S + 1 := this
    show cnt nb S + ((l.length + 1 : Nat) : Int) = nb
    omega
theorem cnt_0 (nb : Nat) : cnt nb 0 = 0 := sm_zero (fun k _ => by
  rw [if_neg]
  unfold bt7
  rw [Nat.zero_testBit]; decide)
theorem ord0 {nb : Nat} {l : List Nat} (h : ord nb 0 l) : l.length = nb := by
  have := ord_len h
  rw [cnt_0] at this
  omega
/-! the next order, as the reference takes it -/
def dI (g : Nat → Nat) : Nat → Nat
  | 0 => 0
  | i + 1 => if g i ≤ g (i + 1) then i + 1 else dI g i
def dJ (g : Nat → Nat) (x : Nat) : Nat → Nat
  | 0 => 0
  | j + 1 => if x ≤ g (j + 1) then j + 1 else dJ g x j
def sw (g : Nat → Nat) (i j k : Nat) : Nat := if k = j then g i else if k = i then g j else g k
def rv : Nat → (Nat → Nat) → Nat → Nat → Nat → Nat
  | 0, g, _, _ => g
  | f + 1, g, a, b => if b ≤ a then g else rv f (sw g a b) (a + 1) (b - 1)
def nxF (nb : Nat) (g : Nat → Nat) : Nat → Nat := rv 3 (sw g (dI g (nb - 1) - 1) (dJ g (g (dI g (nb - 1) - 1)) (nb - 1))) (dI g (nb - 1)) (nb - 1)
def gl (l : List Nat) (k : Nat) : Nat := l.getD k 0
def chn (nb : Nat) : List (List Nat) → Bool
  | [] => true
  | [l] => dI (gl l) (nb - 1) == 0
  | l :: m :: r => (dI (gl l) (nb - 1) != 0) && ((List.range nb).map (nxF nb (gl l)) == m) && lltb l m && chn nb (m :: r)
set_option maxRecDepth 1000000 in
theorem chn_ok : ∀ nb, nb < 7 → ((PL nb nb 0).head? == some (List.range nb) && chn nb (PL nb nb 0)) = true := by decide +kernel
theorem chn_get {nb : Nat} : ∀ {L : List (List Nat)}, chn nb L = true → ∀ i, i + 1 < L.length → dI (gl (L.getD i [])) (nb - 1) ≠ 0 ∧ (List.range nb).map (nxF nb (gl (L.getD i []))) = L.getD (i + 1) [] ∧ llt (L.getD i []) (L.getD (i + 1) [])
  | [], _, _, h => absurd h (by simp)
  | [_], _, _, h => absurd h (by simp)
  | l :: m :: r, h, i, hi => by
    have h : ((dI (gl l) (nb - 1) != 0) && ((List.range nb).map (nxF nb (gl l)) == m) && lltb l m && chn nb (m :: r)) = true := h
    simp only [Bool.and_eq_true] at h
    obtain ⟨⟨⟨h1, h2⟩, h3⟩, h4⟩ := h
    cases i with
    | zero => exact ⟨by simpa using h1, by simpa using h2, lltb_ok h3⟩
    | succ i => exact chn_get h4 i (by simpa using hi)
theorem chn_last {nb : Nat} : ∀ {L : List (List Nat)}, chn nb L = true → L ≠ [] → dI (gl (L.getD (L.length - 1) [])) (nb - 1) = 0
  | [], _, h => absurd rfl h
  | [l], h, _ => by
    have h : (dI (gl l) (nb - 1) == 0) = true := h
    simpa using h
  | l :: m :: r, h, _ => by
    have h : ((dI (gl l) (nb - 1) != 0) && ((List.range nb).map (nxF nb (gl l)) == m) && lltb l m && chn nb (m :: r)) = true := h
    simp only [Bool.and_eq_true] at h
    have := chn_last (L := m :: r) h.2 (by simp)
    exact this
section PX
variable {nb : Nat}
def pN (nb : Nat) : Nat := (PL nb nb 0).length
def pX (nb i : Nat) : List Nat := (PL nb nb 0).getD i []
theorem pX_first (h : nb < 7) : 0 < pN nb ∧ pX nb 0 = List.range nb := by
  have := chn_ok nb h
  simp only [Bool.and_eq_true] at this
  have e := this.1
  unfold pN pX
  generalize PL nb nb 0 = L at *
  cases L with
  | nil => exact absurd e (by simp)
  | cons a L => exact ⟨by simp, by simpa using e⟩
theorem pX_next (h : nb < 7) {i : Nat} (hi : i + 1 < pN nb) : dI (gl (pX nb i)) (nb - 1) ≠ 0 ∧ (∀ k, k < nb → nxF nb (gl (pX nb i)) k = gl (pX nb (i + 1)) k) ∧ llt (pX nb i) (pX nb (i + 1)) := by
  have := chn_ok nb h
  simp only [Bool.and_eq_true] at this
  obtain ⟨h1, h2, h3⟩ := chn_get this.2 i hi
  refine ⟨h1, fun k hk => ?_, h3⟩
  show _ = (pX nb (i + 1)).getD k 0
  unfold pX
  rw [← h2]
  simp [List.getD_eq_getElem?_getD, hk]
theorem pX_last (h : nb < 7) : dI (gl (pX nb (pN nb - 1))) (nb - 1) = 0 := by
  have := chn_ok nb h
  simp only [Bool.and_eq_true] at this
  refine chn_last this.2 (fun e => ?_)
  have := (pX_first h).1
  unfold pN at this
  rw [e] at this
  exact absurd this (by simp)
theorem pX_lt (h : nb < 7) {i : Nat} : ∀ {j : Nat}, i < j → j < pN nb → llt (pX nb i) (pX nb j)
  | j + 1, hi, hj => by
    have k := (pX_next h hj).2.2
    by_cases e : i = j
    · rw [e]; exact k
    · exact llt_trans (pX_lt h (by omega) (by omega)) k
theorem pX_ord {i : Nat} (hi : i < pN nb) : ord nb 0 (pX nb i) ∧ (pX nb i).length = nb := by
  refine PL_mem.mp ?_
  unfold pX
  unfold pN at hi
  rw [List.getD_eq_getElem?_getD, List.getElem?_eq_getElem hi]
  exact List.getElem_mem hi
theorem pX_all {l : List Nat} (hl : ord nb 0 l) : ∃ i, i < pN nb ∧ pX nb i = l := by
  have h := PL_mem.mpr ⟨hl, ord0 hl⟩
  obtain ⟨i, hi, e⟩ := List.mem_iff_getElem.mp h
  refine ⟨i, hi, ?_⟩
  unfold pX
  rw [List.getD_eq_getElem?_getD, List.getElem?_eq_getElem hi]
  exact e
/-- where the least stands, first, up to m -/
def bI (f : Nat → Int) : Nat → Nat
  | 0 => 0
  | m + 1 => if f (bI f m) ≤ f (m + 1) then bI f m else m + 1
theorem bI_ok (f : Nat → Int) : ∀ m, bI f m ≤ m ∧ (∀ j, j ≤ m → f (bI f m) ≤ f j) ∧ ∀ j, j < bI f m → f (bI f m) < f j
  | 0 => ⟨Nat.le_refl _, fun j hj => by
      obtain rfl : j = 0 := by omega
      exact Int.le_refl _, fun j hj => absurd hj (by show ¬ j < 0; omega)⟩
  | m + 1 => by
    obtain ⟨h1, h2, h3⟩ := bI_ok f m
    show (if f (bI f m) ≤ f (m + 1) then bI f m else m + 1) ≤ m + 1 ∧ (∀ j, j ≤ m + 1 → f (if f (bI f m) ≤ f (m + 1) then bI f m else m + 1) ≤ f j) ∧ ∀ j, j < (if f (bI f m) ≤ f (m + 1) then bI f m else m + 1) → f (if f (bI f m) ≤ f (m + 1) then bI f m else m + 1) < f j
    by_cases q : f (bI f m) ≤ f (m + 1)
    · rw [if_pos q]
      refine ⟨by omega, fun j hj => ?_, h3⟩
      by_cases e : j = m + 1
      · rw [e]; exact q
      · exact h2 j (by omega)
    · rw [if_neg q]
      refine ⟨Nat.le_refl _, fun j hj => ?_, fun j hj => ?_⟩
      · by_cases e : j = m + 1
        · rw [e]; exact Int.le_refl _
        · have := h2 j (by omega); omega
      · have := h2 j (by omega); omega
/-- the order, and what it keeps to -/
theorem best_ord (h : nb < 7) (p : Nat → Nat → Int) : isL p nb 0 (tot p 0 0 (pX nb (bI (fun i => tot p 0 0 (pX nb i)) (pN nb - 1)))) ∧ gb p nb 0 (tot p 0 0 (pX nb (bI (fun i => tot p 0 0 (pX nb i)) (pN nb - 1)))) (pX nb (bI (fun i => tot p 0 0 (pX nb i)) (pN nb - 1))) := by
  have hN := (pX_first h).1
  obtain ⟨h1, h2, h3⟩ := bI_ok (fun i => tot p 0 0 (pX nb i)) (pN nb - 1)
  generalize bI (fun i => tot p 0 0 (pX nb i)) (pN nb - 1) = i at *
  have ho := (pX_ord (nb := nb) (i := i) (by omega)).1
  have hle := ((tot_le (p := p) (l := pX nb i) (S := 0) (v := 0) (by omega)).mp (Int.le_refl _)).2
  refine ⟨⟨⟨_, ho, hle⟩, fun l L hl hk => ?_⟩, ho, hle, fun l hl hk => ?_⟩
  · obtain ⟨j, hj, rfl⟩ := pX_all hl
    have := (tot_le (p := p) (l := pX nb j) (S := 0) (v := 0) (by omega)).mpr ⟨leP_0 hk, hk⟩
    have := h2 j (by omega)
    omega
  · obtain ⟨j, hj, rfl⟩ := pX_all hl
    have k1 := (tot_le (p := p) (l := pX nb j) (S := 0) (v := 0) (by omega)).mpr ⟨leP_0 hk, hk⟩
    rcases Nat.lt_trichotomy i j with e | e | e
    · exact .inr (pX_lt h e hj)
    · rw [e]; exact .inl rfl
    · have := h3 j e; omega
end PX
