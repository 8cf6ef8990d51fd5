/-! ONE WIRE'S WIDTH CHANGED: a change of rank one -/
/-- R over Dn: 0 from and to the kept knots -/
def Rn (n : Nat) (A : Nat → Nat → Int) (S : Nat → Bool) (k j : Nat) : Int := if S k = true ∧ S j = true then Nn n A S k j else 0
theorem Nn_sym {n : Nat} {A : Nat → Nat → Int} {S : Nat → Bool} (hs : ∀ i j, i < n → j < n → A i j = A j i) (hD : Dn n A S ≠ 0) {a j : Nat} (ha : a < n) (hj : j < n) (hSa : S a = true) (hSj : S j = true) : Nn n A S a j = Nn n A S j a := by
  -- for j in S: the sum over S of A r c * N c j is D * dl r j at r in S
  have key : ∀ j, S j = true → ∀ r, r < n → S r = true → sm n (fun c => if S c = true then Nn n A S c j * A r c else 0) = Dn n A S * dl r j := fun j hj r hr hSr => by
    have h := dt_adj (m := n) (bm S A) (wv S A j) hr
    have e : wv S A j r = dl r j := by simp [wv, hj]
    rw [e] at h
    rw [show Dn n A S = dt n (bm S A) from rfl, ← h]
    refine sm_congr (fun c hc => ?_)
    show _ = Nn n A S c j * bm S A r c
    cases hc2 : S c with
    | true => simp [bm, hc2]
    | false =>
      have : r ≠ c := fun e => by subst e; rw [hSr] at hc2; cases hc2
      simp [bm, hc2, dl_ne this]
  have h1 : sm n (fun r => if S r = true then Nn n A S r a * sm n (fun c => if S c = true then Nn n A S c j * A r c else 0) else 0) = Dn n A S * Nn n A S j a := by
    rw [sm_one hj (fun r hr hne => ?_)]
    · rw [hSj]; simp only [if_true]
      rw [key j hSj j hj hSj, dl_self]; grind
    · cases hr2 : S r with
      | true => simp only [if_true]; rw [key j hSj r hr hr2, dl_ne hne]; grind
      | false => simp
  have h2 : sm n (fun c => if S c = true then Nn n A S c j * sm n (fun r => if S r = true then Nn n A S r a * A c r else 0) else 0) = Dn n A S * Nn n A S a j := by
    rw [sm_one ha (fun r hr hne => ?_)]
    · rw [hSa]; simp only [if_true]
      rw [key a hSa a ha hSa, dl_self]; grind
    · cases hr2 : S r with
      | true => simp only [if_true]; rw [key a hSa r hr hr2, dl_ne hne]; grind
      | false => simp
  have h3 : sm n (fun r => if S r = true then Nn n A S r a * sm n (fun c => if S c = true then Nn n A S c j * A r c else 0) else 0) = sm n (fun c => if S c = true then Nn n A S c j * sm n (fun r => if S r = true then Nn n A S r a * A c r else 0) else 0) := by
    have e1 : ∀ r, r < n → (if S r = true then Nn n A S r a * sm n (fun c => if S c = true then Nn n A S c j * A r c else 0) else 0) = sm n (fun c => if S r = true then (if S c = true then Nn n A S r a * (Nn n A S c j * A r c) else 0) else 0) := fun r _ => by
      cases hr2 : S r with
      | true =>
        simp only [if_true]
        rw [← sm_mul]
        exact sm_congr (fun c _ => by split <;> simp)
      | false => simp; exact (sm_zero (fun _ _ => rfl)).symm
    have e2 : ∀ c, c < n → (if S c = true then Nn n A S c j * sm n (fun r => if S r = true then Nn n A S r a * A c r else 0) else 0) = sm n (fun r => if S r = true then (if S c = true then Nn n A S r a * (Nn n A S c j * A r c) else 0) else 0) := fun c hc => by
      cases hc2 : S c with
      | true =>
        simp only [if_true]
        rw [← sm_mul]
        exact sm_congr (fun r hr => by
          split
          · rw [hs c r hc hr]; grind
          · simp)
      | false => simp; exact (sm_zero (fun _ _ => rfl)).symm
    rw [sm_congr e1, sm_congr e2, sm_swap]
  rw [h1, h2] at h3
  exact (Int.eq_of_mul_eq_mul_left hD h3).symm
theorem Rn_sym {n : Nat} {A : Nat → Nat → Int} {S : Nat → Bool} (hs : ∀ i j, i < n → j < n → A i j = A j i) (hD : Dn n A S ≠ 0) {a j : Nat} (ha : a < n) (hj : j < n) : Rn n A S a j = Rn n A S j a := by
  unfold Rn
  by_cases h1 : S a = true <;> by_cases h2 : S j = true <;> simp [h1, h2]
  exact Nn_sym hs hD ha hj h1 h2
/-- a column anew by a pair's difference -/
theorem sc_pair {n : Nat} {A : Nat → Nat → Int} {S : Nat → Bool} {a b k : Nat} (ha : a < n) (hb : b < n) (hk : k < n) (hS : S k = true) : dt n (sc (bm S A) k (fun i => dl i a - dl i b)) = Rn n A S k a - Rn n A S k b := by
  have one : ∀ a, a < n → dt n (sc (bm S A) k (fun i => dl i a)) = Rn n A S k a := fun a ha => by
    unfold Rn
    by_cases h : S a = true
    · rw [if_pos ⟨hS, h⟩]
      unfold Nn
      congr 2
      funext i
      simp [wv, h]
    · rw [if_neg (fun z => h z.2)]
      have hne : k ≠ a := fun e => h (by rw [← e]; exact hS)
      exact dt_two hk ha hne (fun i _ => by simp [sc, bm, h, Ne.symm hne])
  have h := dt_lin (m := n) (bm S A) hk 1 (-1) (fun i => dl i a) (fun i => dl i b)
  have e : (fun i => 1 * dl i a + -1 * dl i b) = (fun i => dl i a - dl i b) := funext fun i => by omega
  rw [e, one a ha, one b hb] at h
  rw [h]; omega
section ALT
variable {n : Nat} {A A' : Nat → Nat → Int} {S : Nat → Bool} {a b : Nat} {m : Int}
theorem alt_mat (hne : a ≠ b) (hA : ∀ i j, i < n → j < n → A' i j = A i j + m * ((dl i a - dl i b) * (dl j a - dl j b))) : ∀ i j, i < n → j < n → bm S A' i j = sc (sc (bm S A) a (fun i => bm S A i a + (if S a = true then m else 0) * (dl i a - dl i b))) b (fun i => bm S A i b + -(if S b = true then m else 0) * (dl i a - dl i b)) i j := fun i j hi hj => by
  unfold sc
  by_cases e1 : j = b
  · subst e1
    simp only [if_pos trivial]
    unfold bm
    cases S j with
    | true => simp only [if_true]; rw [hA i j hi hj, dl_self, dl_ne (Ne.symm hne)]; grind
    | false => simp
  · rw [if_neg e1]
    by_cases e2 : j = a
    · subst e2
      simp only [if_pos trivial]
      unfold bm
      cases S j with
      | true => simp only [if_true]; rw [hA i j hi hj, dl_self, dl_ne hne]; grind
      | false => simp
    · rw [if_neg e2]
      unfold bm
      cases S j with
      | true => simp only [if_true]; rw [hA i j hi hj, dl_ne e1, dl_ne e2]; grind
      | false => simp
theorem alt_D0 (ha : a < n) (hb : b < n) (hne : a ≠ b) (hA : ∀ i j, i < n → j < n → A' i j = A i j + m * ((dl i a - dl i b) * (dl j a - dl j b))) : Dn n A' S = Dn n A S + (if S a = true then m else 0) * dt n (sc (bm S A) a (fun i => dl i a - dl i b)) - (if S b = true then m else 0) * dt n (sc (bm S A) b (fun i => dl i a - dl i b)) := by
  have e0 : Dn n A' S = _ := dt_congr (alt_mat (S := S) hne hA)
  rw [e0]
  generalize (if S a = true then m else 0) = ma
  generalize hmb : (if S b = true then m else 0) = mb
  let B := bm S A
  let v : Nat → Int := fun i => dl i a - dl i b
  show dt n (sc (sc B a (fun i => B i a + ma * v i)) b (fun i => B i b + -mb * v i)) = dt n B + ma * dt n (sc B a v) - mb * dt n (sc B b v)
  have h1 : dt n (sc B a (fun i => B i a + ma * v i)) = dt n B + ma * dt n (sc B a v) := by
    rw [dt_addc B ha, sc_self, dt_mulc B ha]
  have h2 : sc (sc B a (fun i => B i a + ma * v i)) b (fun i => B i b) = sc B a (fun i => B i a + ma * v i) := by
    rw [sc_comm B hne, sc_self]
  have h3 : dt n (sc (sc B a (fun i => B i a + ma * v i)) b v) = dt n (sc B b v) := by
    have e1 : sc (sc B b v) a (fun i => B i a) = sc B b v := by
      rw [sc_comm B (Ne.symm hne), sc_self]
    have e2 : dt n (sc (sc B b v) a v) = 0 := dt_two ha hb hne (fun i _ => by simp [sc, Ne.symm hne])
    rw [sc_comm B hne, dt_addc _ ha, dt_mulc _ ha, e1, e2]; omega
  rw [dt_addc _ hb, dt_mulc _ hb, h2, h1, h3]
  grind
theorem alt_N0 (ha : a < n) (hb : b < n) (hne : a ≠ b) (hA : ∀ i j, i < n → j < n → A' i j = A i j + m * ((dl i a - dl i b) * (dl j a - dl j b))) (hD : Dn n A' S ≠ 0) {k : Nat} (hk : k < n) (y : Nat → Int) : dt n (sc (bm S A') k y) * Dn n A S = dt n (sc (bm S A) k y) * Dn n A' S - dt n (sc (bm S A) k (fun i => dl i a - dl i b)) * ((if S a = true then m else 0) * dt n (sc (bm S A) a y) - (if S b = true then m else 0) * dt n (sc (bm S A) b y)) := by
  have hDD := alt_D0 (S := S) ha hb hne hA
  have hM := alt_mat (S := S) hne hA
  generalize (if S a = true then m else 0) = ma at *
  generalize (if S b = true then m else 0) = mb at *
  let B := bm S A
  let v : Nat → Int := fun i => dl i a - dl i b
  let N : Nat → Int := fun c => dt n (sc B c y)
  let Z : Nat → Int := fun c => dt n (sc B c v)
  let D := dt n B
  let D' := Dn n A' S
  let w := ma * N a - mb * N b
  let X : Nat → Int := fun c => N c * D' - Z c * w
  have hsum : ∀ r, r < n → sm n (fun c => X c * bm S A' r c) = D * D' * y r := fun r hr => by
    have h1 : sm n (fun c => X c * bm S A' r c) = sm n (fun c => X c * B r c + (dl c a * (X a * ma * v r) - dl c b * (X b * mb * v r))) := sm_congr (fun c hc => by
      rw [hM r c hr hc]
      show X c * (if c = b then B r b + -mb * v r else if c = a then B r a + ma * v r else B r c) = _
      by_cases e1 : c = b
      · subst e1
        rw [if_pos rfl, dl_self, dl_ne (Ne.symm hne)]; grind
      · rw [if_neg e1, dl_ne e1]
        by_cases e2 : c = a
        · subst e2
          rw [if_pos rfl, dl_self]; grind
        · rw [if_neg e2, dl_ne e2]; grind)
    have h2 : sm n (fun c => X c * B r c) = D' * (D * y r) - w * (D * v r) := by
      have h3 : sm n (fun c => X c * B r c) = sm n (fun c => D' * (N c * B r c) - w * (Z c * B r c)) := sm_congr (fun c _ => by
        show (N c * D' - Z c * w) * B r c = _
        grind)
      rw [h3, sm_sub, sm_mul, sm_mul]
      have e1 : sm n (fun c => N c * B r c) = D * y r := dt_adj B y hr
      have e2 : sm n (fun c => Z c * B r c) = D * v r := dt_adj B v hr
      rw [e1, e2]
    rw [h1, sm_add, sm_sub, sm_dl ha (fun _ => X a * ma * v r), sm_dl hb (fun _ => X b * mb * v r), h2]
    have hDD' : D' = D + ma * Z a - mb * Z b := hDD
    have hXa : X a = N a * D' - Z a * w := rfl
    have hXb : X b = N b * D' - Z b * w := rfl
    have hw : w = ma * N a - mb * N b := rfl
    generalize X a = xa at *
    generalize X b = xb' at *
    generalize N a = na at *
    generalize N b = nb at *
    generalize Z a = za at *
    generalize Z b = zb at *
    generalize w = w' at *
    generalize D' = d' at *
    generalize D = d at *
    generalize v r = vr
    generalize y r = yr
    grind
  have hc := dt_cramer (m := n) (bm S A') hk X
  have h4 : dt n (sc (bm S A') k (fun i => sm n (fun c => X c * bm S A' i c))) = D * D' * dt n (sc (bm S A') k y) := by
    rw [← dt_mulc _ hk]
    exact dt_congr (fun i j hi hj => by
      unfold sc
      split
      · exact hsum i hi
      · rfl)
  rw [h4] at hc
  have h5 : D' * (D * dt n (sc (bm S A') k y)) = D' * X k := by
    have : X k * dt n (bm S A') = X k * D' := rfl
    rw [this] at hc
    grind
  have h6 := Int.eq_of_mul_eq_mul_left hD h5
  show dt n (sc (bm S A') k y) * D = X k
  rw [← h6]; grind
end ALT
/-- the wire w is wider by m -/
def wdp (wd : Nat → Int) (w : Nat) (m : Int) : Nat → Int := fun u => if u = w then wd u + m else wd u
theorem lp_wdp {E : Nat} {fa ta : Nat → Nat} {wd : Nat → Int} {w : Nat} (hw : w < E) (m : Int) (i j : Nat) : lp E fa ta (wdp wd w m) i j = lp E fa ta wd i j + m * ((dl i (fa w) - dl i (ta w)) * (dl j (fa w) - dl j (ta w))) := by
  have h : lp E fa ta (wdp wd w m) i j = sm E (fun u => wd u * ((dl i (fa u) - dl i (ta u)) * (dl j (fa u) - dl j (ta u))) + dl u w * (m * ((dl i (fa w) - dl i (ta w)) * (dl j (fa w) - dl j (ta w))))) := sm_congr (fun u _ => by
    unfold wdp
    by_cases e : u = w
    · subst e; rw [if_pos rfl, dl_self]; grind
    · rw [if_neg e, dl_ne e]; omega)
  rw [h, sm_add, sm_dl hw (fun _ => m * ((dl i (fa w) - dl i (ta w)) * (dl j (fa w) - dl j (ta w))))]
  rfl
section ALT2
variable {n E : Nat} {fa ta : Nat → Nat} {wd : Nat → Int} {S : Nat → Bool} {w : Nat} {m : Int}
def spr (n : Nat) (A : Nat → Nat → Int) (S : Nat → Bool) (a b k : Nat) : Int := Rn n A S k a - Rn n A S k b
theorem spr_out {A : Nat → Nat → Int} {a b k : Nat} (h : S k = false) : spr n A S a b k = 0 := by simp [spr, Rn, h]
theorem alt_D (hw : w < E) (ha : fa w < n) (hb : ta w < n) (hne : fa w ≠ ta w) : Dn n (lp E fa ta (wdp wd w m)) S = Dn n (lp E fa ta wd) S + m * (spr n (lp E fa ta wd) S (fa w) (ta w) (fa w) - spr n (lp E fa ta wd) S (fa w) (ta w) (ta w)) := by
  rw [alt_D0 (A := lp E fa ta wd) (m := m) ha hb hne (fun i j _ _ => lp_wdp hw m i j)]
  have h : ∀ k, k < n → (if S k = true then m else 0) * dt n (sc (bm S (lp E fa ta wd)) k (fun i => dl i (fa w) - dl i (ta w))) = m * spr n (lp E fa ta wd) S (fa w) (ta w) k := fun k hk => by
    cases hs : S k with
    | true => simp only [if_true]; rw [sc_pair ha hb hk hs]; rfl
    | false => rw [spr_out hs]; simp
  rw [h _ ha, h _ hb]; grind
theorem alt_R (hw : w < E) (hf : ∀ w, w < E → fa w < n) (ht : ∀ w, w < E → ta w < n) (hne : fa w ≠ ta w) (hD : Dn n (lp E fa ta wd) S ≠ 0) (hD' : Dn n (lp E fa ta (wdp wd w m)) S ≠ 0) {k j : Nat} (hk : k < n) (hj : j < n) : Rn n (lp E fa ta (wdp wd w m)) S k j * Dn n (lp E fa ta wd) S = Rn n (lp E fa ta wd) S k j * Dn n (lp E fa ta (wdp wd w m)) S - m * (spr n (lp E fa ta wd) S (fa w) (ta w) k * spr n (lp E fa ta wd) S (fa w) (ta w) j) := by
  have ha := hf w hw
  have hb := ht w hw
  cases hSk : S k with
  | false => rw [spr_out hSk]; simp [Rn, hSk]
  | true =>
    cases hSj : S j with
    | false => rw [spr_out hSj]; simp [Rn, hSj]
    | true =>
      have h := alt_N0 (A := lp E fa ta wd) (S := S) (m := m) ha hb hne (fun i j _ _ => lp_wdp hw m i j) hD' hk (fun i => dl i j)
      have eN : ∀ (A : Nat → Nat → Int) (c : Nat), S c = true → dt n (sc (bm S A) c (fun i => dl i j)) = Rn n A S c j := fun A c hc => by
        unfold Rn Nn
        rw [if_pos ⟨hc, hSj⟩]
        congr 2
        funext i
        simp [wv, hSj]
      have eM : ∀ c, c < n → (if S c = true then m else 0) * dt n (sc (bm S (lp E fa ta wd)) c (fun i => dl i j)) = m * Rn n (lp E fa ta wd) S j c := fun c hc => by
        cases hs : S c with
        | true =>
          simp only [if_true]
          rw [eN _ c hs, Rn_sym (fun i j _ _ => lp_sym E fa ta wd i j) hD hc hj]
        | false => simp [Rn, hs]
      rw [eN _ k hSk, eN _ k hSk, sc_pair ha hb hk hSk, eM _ ha, eM _ hb] at h
      rw [h]
      unfold spr
      grind
/-- the falls over Dn -/
def fl (n : Nat) (A : Nat → Nat → Int) (S : Nat → Bool) (q : Nat → Int) (k : Nat) : Int := sm n (fun j => Rn n A S k j * q j)
theorem alt_fl (hw : w < E) (hf : ∀ w, w < E → fa w < n) (ht : ∀ w, w < E → ta w < n) (hne : fa w ≠ ta w) (hD : Dn n (lp E fa ta wd) S ≠ 0) (hD' : Dn n (lp E fa ta (wdp wd w m)) S ≠ 0) (q : Nat → Int) {k : Nat} (hk : k < n) : fl n (lp E fa ta (wdp wd w m)) S q k * Dn n (lp E fa ta wd) S = fl n (lp E fa ta wd) S q k * Dn n (lp E fa ta (wdp wd w m)) S - m * spr n (lp E fa ta wd) S (fa w) (ta w) k * (fl n (lp E fa ta wd) S q (fa w) - fl n (lp E fa ta wd) S q (ta w)) := by
  have hsy : ∀ i j, i < n → j < n → lp E fa ta wd i j = lp E fa ta wd j i := fun i j _ _ => lp_sym E fa ta wd i j
  have e1 : fl n (lp E fa ta wd) S q (fa w) - fl n (lp E fa ta wd) S q (ta w) = sm n (fun j => spr n (lp E fa ta wd) S (fa w) (ta w) j * q j) := by
    unfold fl
    rw [← sm_sub]
    refine sm_congr (fun j hj => ?_)
    rw [Rn_sym hsy hD (hf w hw) hj, Rn_sym hsy hD (ht w hw) hj]
    unfold spr; grind
  rw [e1]
  unfold fl
  rw [← sm_mulr, ← sm_mulr, ← sm_mul, ← sm_sub]
  refine sm_congr (fun j hj => ?_)
  have h := alt_R (m := m) hw hf ht hne hD hD' hk hj
  generalize Rn n (lp E fa ta (wdp wd w m)) S k j = r' at h ⊢
  generalize Dn n (lp E fa ta wd) S = d at h ⊢
  generalize Rn n (lp E fa ta wd) S k j = r at h ⊢
  generalize Dn n (lp E fa ta (wdp wd w m)) S = d' at h ⊢
  generalize spr n (lp E fa ta wd) S (fa w) (ta w) k = s1 at h ⊢
  generalize spr n (lp E fa ta wd) S (fa w) (ta w) j = s2 at h ⊢
  grind
end ALT2
