/-! NUMBERS: ints and longs against Int; bits; loops -/
theorem l_add {a b : Int64} {x y : Int} (ha : a.toInt = x) (hb : b.toInt = y) (h1 : -9000000000000000000 ≤ x + y) (h2 : x + y ≤ 9000000000000000000) : (a + b).toInt = x + y := by
  rw [Int64.toInt_add, ha, hb]; exact Int.bmod_eq_of_le (by omega) (by omega)
theorem l_sub {a b : Int64} {x y : Int} (ha : a.toInt = x) (hb : b.toInt = y) (h1 : -9000000000000000000 ≤ x - y) (h2 : x - y ≤ 9000000000000000000) : (a - b).toInt = x - y := by
  rw [Int64.toInt_sub, ha, hb]; exact Int.bmod_eq_of_le (by omega) (by omega)
theorem l_mul {a b : Int64} {x y : Int} (ha : a.toInt = x) (hb : b.toInt = y) (h1 : -9000000000000000000 ≤ x * y) (h2 : x * y ≤ 9000000000000000000) : (a * b).toInt = x * y := by
  rw [Int64.toInt_mul, ha, hb]; exact Int.bmod_eq_of_le (by omega) (by omega)
theorem l_neg {a : Int64} {x : Int} (ha : a.toInt = x) (h1 : -9000000000000000000 ≤ x) (h2 : x ≤ 9000000000000000000) : (-a).toInt = -x := by
  rw [Int64.toInt_neg, ha]; exact Int.bmod_eq_of_le (by omega) (by omega)
/-- the difference of two products, which itself is in range -/
theorem l_ms {a b e f : Int64} {x y z w : Int} (ha : a.toInt = x) (hb : b.toInt = y) (he : e.toInt = z) (hf : f.toInt = w) (h1 : -9000000000000000000 ≤ x * y - z * w) (h2 : x * y - z * w ≤ 9000000000000000000) : (a * b - e * f).toInt = x * y - z * w := by
  rw [Int64.toInt_sub, Int64.toInt_mul, Int64.toInt_mul, ha, hb, he, hf]
  rw [Int.bmod_sub_bmod, Int.sub_bmod_bmod]
  exact Int.bmod_eq_of_le (by omega) (by omega)
/-- a division that leaves no rest -/
theorem l_div {a b : Int64} {d q : Int} (ha : a.toInt = d * q) (hb : b.toInt = d) (hd : d ≠ 0) (h1 : -9000000000000000000 ≤ q) (h2 : q ≤ 9000000000000000000) : (a / b).toInt = q := by
  rw [Int64.toInt_div, ha, hb, Int.mul_tdiv_cancel_left _ hd]; exact Int.bmod_eq_of_le (by omega) (by omega)
theorem l_of {x : Int32} {y : Int} (h : x.toInt = y) : x.toInt64.toInt = y := by rw [Int32.toInt_toInt64]; exact h
theorem l_inj {a b : Int64} (h : a.toInt = b.toInt) : a = b := Int64.toInt_inj.mp h
theorem i_add {a b : Int32} {x y : Int} (ha : a.toInt = x) (hb : b.toInt = y) (h1 : -2000000000 ≤ x + y) (h2 : x + y ≤ 2000000000) : (a + b).toInt = x + y := by
  rw [Int32.toInt_add, ha, hb]; exact Int.bmod_eq_of_le (by omega) (by omega)
theorem i_sub {a b : Int32} {x y : Int} (ha : a.toInt = x) (hb : b.toInt = y) (h1 : -2000000000 ≤ x - y) (h2 : x - y ≤ 2000000000) : (a - b).toInt = x - y := by
  rw [Int32.toInt_sub, ha, hb]; exact Int.bmod_eq_of_le (by omega) (by omega)
theorem i_mul {a b : Int32} {x y : Int} (ha : a.toInt = x) (hb : b.toInt = y) (h1 : -2000000000 ≤ x * y) (h2 : x * y ≤ 2000000000) : (a * b).toInt = x * y := by
  rw [Int32.toInt_mul, ha, hb]; exact Int.bmod_eq_of_le (by omega) (by omega)
theorem i_inj {a b : Int32} (h : a.toInt = b.toInt) : a = b := Int32.toInt_inj.mp h
theorem nI_7 (r c : Nat) : (7 : Int32) * nI r + nI c = nI (7 * r + c) := by
  rw [show (7 : Int32) = nI 7 from rfl, pk_mul, nI_add]
theorem nI_a1 (a : Nat) : nI a + (1 : Int32) = nI (a + 1) := nI_1 a
theorem vi {n N : Nat} (h : n < N) (hN : N < 2147483648) : vp_in (nI n) N := vp_in_nI h hN
theorem cl_ {n : Nat} (h : n < 2147483648) : (nI n).toNatClampNeg = n := nI_clamp h
theorem up_s {f : Nat → Int32} {k : Nat} {x : Int32} : upd f k x k = x := pk_us
theorem up_n {f : Nat → Int32} {k j : Nat} {x : Int32} (h : j ≠ k) : upd f k x j = f j := pk_un h
theorem upL_s {f : Nat → Int64} {k : Nat} {x : Int64} : vp_updL f k x k = x := pk_uLs
theorem upL_n {f : Nat → Int64} {k j : Nat} {x : Int64} (h : j ≠ k) : vp_updL f k x j = f j := pk_uLn h
/-- bits of a set of at most 7 -/
def bt7 (B k : Nat) : Bool := B.testBit k
set_option maxRecDepth 100000 in
theorem bit_chk : ∀ B, B < 128 → ∀ k, k < 7 → ((nI B >>> (nI k &&& 31)) &&& (1 : Int32)) = if B.testBit k then 1 else 0 := by decide +kernel
theorem bit_0 {B k : Nat} (hB : B < 128) (hk : k < 7) : ((nI B >>> (nI k &&& 31)) &&& (1 : Int32)) = 0 ↔ bt7 B k = false := by
  rw [bit_chk B hB k hk]
  unfold bt7
  cases B.testBit k <;> simp
theorem bit_1 {B k : Nat} (hB : B < 128) (hk : k < 7) : ((nI B >>> (nI k &&& 31)) &&& (1 : Int32)) = 1 ↔ bt7 B k = true := by
  rw [bit_chk B hB k hk]
  unfold bt7
  cases B.testBit k <;> simp
theorem bit_or {B a b : Nat} (hB : B < 128) (ha : a < 7) (hb : b < 7) : (((nI B >>> (nI a &&& 31)) &&& (1 : Int32)) ||| ((nI B >>> (nI b &&& 31)) &&& (1 : Int32))) = 1 ↔ (bt7 B a = true ∨ bt7 B b = true) := by
  rw [bit_chk B hB a ha, bit_chk B hB b hb]
  unfold bt7
  cases B.testBit a <;> cases B.testBit b <;> simp
/-- a loop that counts up: the fuel is found -/
theorem upto {σ : Type} (W : Nat → Nat → σ → Prop) (I : Nat → σ → Prop) (e i0 : Nat) (s : σ) (hi : i0 ≤ e) (h0 : I i0 s) (hx : ∀ n s, I e s → W (n + 1) e s) (hs : ∀ n i s, i < e → i0 ≤ i → I i s → (∀ s', I (i + 1) s' → W n (i + 1) s') → W (n + 1) i s) : ∃ n, W n i0 s := by
  suffices h : ∀ d i s, i + d = e → i0 ≤ i → I i s → W (d + 1) i s from ⟨e - i0 + 1, h (e - i0) i0 s (by omega) (Nat.le_refl _) h0⟩
  intro d
  induction d with
  | zero => intro i s h _ hI; have : i = e := by omega
            subst this; exact hx 0 s hI
  | succ d ih => intro i s h h2 hI; exact hs (d + 1) i s (by omega) h2 hI (fun s' hI' => ih (i + 1) s' (by omega) (by omega) hI')
theorem uptoF {σ : Type} (W : Nat → Nat → σ → Prop) (I : Nat → σ → Prop) (e i0 : Nat) (s : σ) (hi : i0 ≤ e) (h0 : I i0 s) (hx : ∀ n s, I e s → W (n + 1) e s) (hs : ∀ n i s, i < e → i0 ≤ i → I i s → (∀ s', I (i + 1) s' → W n (i + 1) s') → W (n + 1) i s) : W (e - i0 + 1) i0 s := by
  suffices h : ∀ d i s, i + d = e → i0 ≤ i → I i s → W (d + 1) i s from h (e - i0) i0 s (by omega) (Nat.le_refl _) h0
  intro d
  induction d with
  | zero => intro i s h _ hI; have : i = e := by omega
            subst this; exact hx 0 s hI
  | succ d ih => intro i s h h2 hI; exact hs (d + 1) i s (by omega) h2 hI (fun s' hI' => ih (i + 1) s' (by omega) (by omega) hI')
