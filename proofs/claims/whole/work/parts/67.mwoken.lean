/-! WOKEN: what falls as blocks come; the reference's walk over the orders -/
def awk (c : CS) (S k : Nat) : Int := sm (kK c) (fun b => if bt7 S b = true then gr c k b * kM c b else 0)
def pek (c : CS) (S b : Nat) : Int := mx (kN c) (fun k => awk c S k + gr c k b * (3 * kM c b))
def nwk (c : CS) (S j : Nat) : Int := sm (kK c) (fun b => if bt7 S b = true then dl j (kS c b) * kM c b else 0)
section MK
variable {c : CS} {t : MT} {S b : Nat}
theorem nwk_fl (hC : CI c) (S k : Nat) : sm (kN c) (fun j => gR c k j * nwk c S j) = awk c S k := by
  have e1 : ∀ j, gR c k j * nwk c S j = sm (kK c) (fun b => gR c k j * (if bt7 S b = true then dl j (kS c b) * kM c b else 0)) := fun j => (sm_mul _ _ _).symm
  rw [sm_congr (fun j _ => e1 j), sm_swap]
  refine sm_congr (fun b hb => ?_)
  have hs := (hC.blk hb).1.1
  by_cases q : bt7 S b = true
  · rw [if_pos q]
    have e2 : ∀ j, gR c k j * (if bt7 S b = true then dl j (kS c b) * kM c b else 0) = dl j (kS c b) * (gR c k j * kM c b) := fun j => by
      rw [if_pos q, ← Int.mul_assoc, Int.mul_comm (gR c k j), Int.mul_assoc]
    rw [sm_congr (fun j _ => e2 j), sm_dl hs]
    rfl
  · rw [if_neg q]
    exact sm_zero (fun j _ => by rw [if_neg q, Int.mul_zero])
theorem come_fl (hC : CI c) {b : Nat} (hb : b < kK c) (S k : Nat) : fallN c (-1) (kB c) (fun j => nwk c S j + dl j (kS c b) * (3 * kM c b)) k = awk c S k + gr c k b * (3 * kM c b) := by
  have hs := (hC.blk hb).1.1
  show sm (kN c) (fun j => gR c k j * (nwk c S j + dl j (kS c b) * (3 * kM c b))) = _
  have e : ∀ j, gR c k j * (nwk c S j + dl j (kS c b) * (3 * kM c b)) = gR c k j * nwk c S j + dl j (kS c b) * (gR c k j * (3 * kM c b)) := fun j => by
    rw [Int.mul_add, ← Int.mul_assoc (gR c k j) (dl _ _), Int.mul_comm (gR c k j) (dl _ _), Int.mul_assoc]
  rw [sm_congr (fun j _ => e j), sm_add, nwk_fl hC, sm_dl hs]
  rfl
theorem nw1 {B : Bool} {j s : Nat} {m : Int} (h : 1 ≤ m ∧ m ≤ 20) : -20 ≤ (if B = true then dl j s * m else 0) ∧ 0 ≤ (if B = true then dl j s * m else 0) ∧ (if B = true then dl j s * m else 0) ≤ 20 := by
  by_cases q : B = true
  · rw [if_pos q]
    by_cases e : j = s
    · subst e; rw [dl_self]; omega
    · rw [dl_ne e]; omega
  · rw [if_neg q]; omega
theorem nwk_b (hC : CI c) (S j : Nat) : 0 ≤ nwk c S j ∧ nwk c S j ≤ 120 := by
  have h6 := hC.b6
  have h1 : 0 ≤ nwk c S j := sm_nonneg (fun b hb => (nw1 (hC.blk hb).2).2.1)
  have h2 : nwk c S j ≤ 20 * (kK c : Int) := (sm_abs (B := 20) (n := kK c) (f := fun b => if bt7 S b = true then dl j (kS c b) * kM c b else 0) (fun b hb => ⟨(nw1 (hC.blk hb).2).1, (nw1 (hC.blk hb).2).2.2⟩)).2
  omega
theorem fbyN_ok {K : Int64 → CS → MT → Prop} {k : Nat} {q : Nat → Int} (hC : CI c) (hF : FedC c) (hR : resI c (-1) (kB c) t) (hq : ∀ j, j < kN c → 0 ≤ q j ∧ q j ≤ 180) (hn : ∀ j, j < kN c → (m_now t j).toInt = q j) (hk : k < kN c) (hK : ∀ r : Int64, r.toInt = fallN c (-1) (kB c) q k → K r c t) : wp_X6_fallByN (nI k) c t K := by
  obtain ⟨k0, hk0, hpad⟩ := gpad hC hF
  have hN := hC.1
  have h7 := hN.2.1
  have hS0 : cS (kB c) k0 = false := by unfold cS; rw [hpad]; rfl
  show ∃ n5 : Nat, nd_X6_fallByN_5 K n5 (nI k) (0 : Int64) (nI 0) c t
  refine upto (fun n i (a : Int64) => nd_X6_fallByN_5 K n (nI k) a (nI i) c t) (fun i a => a.toInt = sm i (fun j => Rn (kN c) (kL c (-1)) (cS (kB c)) k j * q j)) (kN c) 0 0 (by omega) rfl ?_ ?_
  · intro n a ha
    exact ⟨fun _ => hK a ha, fun h => absurd (show c_n c ≤ nI (kN c) from by rw [← hN.2.2]; exact Int32.le_refl _) h⟩
  · intro n i a hi _ ha hW
    refine ⟨fun h => absurd h (by rw [hN.2.2]; exact nI_ge hi (by omega)), fun _ => ?_⟩
    rw [nI_7]
    refine ⟨vi (by omega) (by omega), vi (by omega) (by omega), ?_⟩
    rw [cl_ (by omega), cl_ (by omega), nI_1]
    refine hW _ ?_
    have h1 : -25200000 ≤ Rn (kN c) (kL c (-1)) (cS (kB c)) k i ∧ Rn (kN c) (kL c (-1)) (cS (kB c)) k i ≤ 25200000 := Rn_bound (hC.net (-1)) hk0 hS0 hk hi
    have h2 := hq i (by omega)
    have h3 : -(25200000 * 180 * (i : Int)) ≤ sm i (fun j => Rn (kN c) (kL c (-1)) (cS (kB c)) k j * q j) ∧ sm i (fun j => Rn (kN c) (kL c (-1)) (cS (kB c)) k j * q j) ≤ 25200000 * 180 * (i : Int) := fl_abs (hC.net (-1)) hk0 hS0 hk (Q := 180) (by omega) hq (m := i) (by omega)
    have e1 : (m_resist t (7 * k + i)).toInt = Rn (kN c) (kL c (-1)) (cS (kB c)) k i := hR.2 k i hk hi
    have e2 : (Int32.toInt64 (m_now t i)).toInt = q i := l_of (hn i hi)
    have h4 := mul_bd (x := Rn (kN c) (kL c (-1)) (cS (kB c)) k i) (y := q i) (A := 25200000) (B := 180) h1 (by omega)
    show _ = sm i (fun j => Rn (kN c) (kL c (-1)) (cS (kB c)) k j * q j) + Rn (kN c) (kL c (-1)) (cS (kB c)) k i * q i
    exact l_add ha (l_mul e1 e2 (by omega) (by omega)) (by omega) (by omega)
theorem mostN_ok {K : Int64 → CS → MT → Prop} {q : Nat → Int} (hC : CI c) (hF : FedC c) (hR : resI c (-1) (kB c) t) (hq : ∀ j, j < kN c → 0 ≤ q j ∧ q j ≤ 180) (hn' : ∀ j, j < kN c → (m_now t j).toInt = q j) (hK : ∀ r : Int64, r.toInt = mx (kN c) (fallN c (-1) (kB c) q) → K r c t) : wp_X6_mostFallN c t K := by
  have hn := hC.1
  have h7 := hn.2.1
  show ∃ n5 : Nat, nd_X6_mostFallN_5 K n5 (0 : Int64) (nI 0) c t
  refine upto (fun n i (a : Int64) => nd_X6_mostFallN_5 K n a (nI i) c t) (fun i a => a.toInt = mx i (fallN c (-1) (kB c) q)) (kN c) 0 0 (by omega) rfl ?_ ?_
  · intro n a ha
    exact ⟨fun _ => hK a ha, fun h => absurd (show c_n c ≤ nI (kN c) from by rw [← hn.2.2]; exact Int32.le_refl _) h⟩
  · intro n i a hi _ ha hW
    refine ⟨fun h => absurd h (by rw [hn.2.2]; exact nI_ge hi (by omega)), fun _ => ?_⟩
    refine fbyN_ok hC hF hR hq hn' hi (fun r hr => ⟨fun h => ?_, fun h => ?_⟩)
    · show nd_X6_mostFallN_5 K n a (nI i + 1) c t
      rw [nI_1]
      have := Int64.le_iff_toInt_le.mp h
      refine hW a ?_
      show _ = if _ ≤ _ then _ else _
      rw [if_pos (by rw [← hr, ← ha]; exact this), ha]
    · show nd_X6_mostFallN_5 K n r (nI i + 1) c t
      rw [nI_1]
      refine hW r ?_
      show _ = if _ ≤ _ then _ else _
      rw [if_neg (fun q => h (Int64.le_iff_toInt_le.mpr (by rw [hr, ha]; exact q))), hr]
theorem come_ok {K : Int64 → CS → MT → Prop} {b : Nat} (hC : CI c) (hF : FedC c) (hR : resI c (-1) (kB c) t) (hb : b < kK c) (hn : ∀ j, j < kN c → (m_now t j).toInt = nwk c S j + dl j (kS c b) * (3 * kM c b)) (hK : ∀ r : Int64, r.toInt = pek c S b → K r c t) : wp_X6_mostFallN c t K := by
  refine mostN_ok hC hF hR (q := fun j => nwk c S j + dl j (kS c b) * (3 * kM c b)) (fun j hj => ?_) hn (fun r hr => hK r ?_)
  · have h1 := nwk_b hC S j
    have h2 := (hC.blk hb).2
    show 0 ≤ nwk c S j + dl j (kS c b) * (3 * kM c b) ∧ nwk c S j + dl j (kS c b) * (3 * kM c b) ≤ 180
    unfold dl
    split <;> omega
  · rw [hr]
    exact mx_congr (fun k _ => come_fl hC hb S k)
theorem fall_go {K : Int64 → CS → MT → Prop} (hC : CI c) (hF : FedC c) (hR : resI c (-1) (kB c) t) : ∀ (m : List Nat) (S i : Nat) (acc : Int64) (nw : Nat → Int32), ord (kK c) S m → i + m.length = kK c → (∀ k, k < m.length → m_order t (i + k) = nI (gl m k)) → (∀ j, j < kN c → (nw j).toInt = nwk c S j) → (∀ r nw', r.toInt = tot (pek c) S acc.toInt m → K r c (ms_now t nw')) → nd_X6_fallOf_25 K (m.length + 1) acc (nI i) c (ms_now t nw)
  | [], S, i, acc, nw, _, hl, _, _, hK => by
    have e : i = kK c := by simpa using hl
    subst e
    exact ⟨fun _ => hK acc nw rfl, fun h => absurd (show c_nb c ≤ nI (kK c) from by rw [← hC.eb]; exact Int32.le_refl _) h⟩
  | b :: m, S, i, acc, nw, ho, hl, hor, hnw, hK => by
    have hl : i + (m.length + 1) = kK c := hl
    have h6 := hC.b6
    have h7 := hC.n7
    obtain ⟨hb, hbS, ho'⟩ := ho
    obtain ⟨⟨hs1, hs2⟩, hm1, hm2⟩ := hC.blk hb
    have vi6 : vp_in (nI i) 6 := vi (by omega) (by omega)
    have vb6 : vp_in (nI b) 6 := vi (by omega) (by omega)
    have ci : (nI i).toNatClampNeg = i := cl_ (by omega)
    have cb : (nI b).toNatClampNeg = b := cl_ (by omega)
    have eo : m_order t i = nI b := hor 0 (by simp)
    have cs' : (c_sits c b).toNatClampNeg = kS c b := rfl
    have vs7 : vp_in (c_sits c b) 7 := by rw [hs2]; exact vi (by omega) (by omega)
    refine ⟨fun h => absurd h (by rw [hC.eb]; exact nI_ge (by omega) (by omega)), fun _ => ⟨vi6, ?_⟩⟩
    rw [ci]
    show vp_in (m_order t i) 6 ∧ vp_in (c_sits c (m_order t i).toNatClampNeg) 7 ∧ vp_in (m_order t i) 6 ∧ vp_in (c_sits c (m_order t i).toNatClampNeg) 7 ∧ wp_X6_mostFallN c (ms_now t (upd nw (c_sits c (m_order t i).toNatClampNeg).toNatClampNeg (nw (c_sits c (m_order t i).toNatClampNeg).toNatClampNeg + (3 : Int32) * c_most c (m_order t i).toNatClampNeg))) (fun r8 c8_ t8_ => (r8 ≤ acc → nd_X6_fallOf_88 K (fun v1 v3 c t => nd_X6_fallOf_25 K (m.length + 1) v1 v3 c t) (nI i) (m_order t i) acc c8_ t8_) ∧ (¬ r8 ≤ acc → nd_X6_fallOf_88 K (fun v1 v3 c t => nd_X6_fallOf_25 K (m.length + 1) v1 v3 c t) (nI i) (m_order t i) r8 c8_ t8_))
    rw [eo, cb, cs']
    refine ⟨vb6, vs7, vb6, vs7, ?_⟩
    have hnb := nwk_b hC S
    have e3 : ((3 : Int32) * c_most c b).toInt = 3 * kM c b := i_mul (show (3 : Int32).toInt = 3 by decide) rfl (by show _ ≤ 3 * kM c b; omega) (by show 3 * kM c b ≤ _; omega)
    have e2 : ((2 : Int32) * c_most c b).toInt = 2 * kM c b := i_mul (show (2 : Int32).toInt = 2 by decide) rfl (by show _ ≤ 2 * kM c b; omega) (by show 2 * kM c b ≤ _; omega)
    have eadd : (nw (kS c b) + (3 : Int32) * c_most c b).toInt = nwk c S (kS c b) + 3 * kM c b := by
      have := hnb (kS c b)
      exact i_add (hnw _ hs1) e3 (by omega) (by omega)
    -- behind the fall
    have rest : ∀ acc' : Int64, acc'.toInt = (if pek c S b ≤ acc.toInt then acc.toInt else pek c S b) → nd_X6_fallOf_88 K (fun v1 v3 c t => nd_X6_fallOf_25 K (m.length + 1) v1 v3 c t) (nI i) (nI b) acc' c (ms_now t (upd nw (kS c b) (nw (kS c b) + (3 : Int32) * c_most c b))) := fun acc' ha => by
      refine ⟨vb6, ?_⟩
      rw [cb, cs']
      refine ⟨vs7, vb6, vs7, ?_⟩
      show nd_X6_fallOf_25 K (m.length + 1) acc' (nI i + 1) c (ms_now t (upd (upd nw (kS c b) (nw (kS c b) + (3 : Int32) * c_most c b)) (kS c b) (upd nw (kS c b) (nw (kS c b) + (3 : Int32) * c_most c b) (kS c b) - (2 : Int32) * c_most c b)))
      rw [nI_1, up_s]
      refine fall_go hC hF hR m (bq S b) (i + 1) acc' _ ho' (by omega) (fun k hk => ?_) (fun j hj => ?_) (fun r nw' hr => hK r nw' ?_)
      · have := hor (k + 1) (by show k + 1 < m.length + 1; omega)
        rw [show i + (k + 1) = i + 1 + k by omega] at this
        rw [this]
        rfl
      · have eq : nwk c (bq S b) j = nwk c S j + dl j (kS c b) * kM c b := sm_bq hb hbS _
        rw [eq]
        by_cases q : j = kS c b
        · subst q
          rw [up_s, dl_self]
          have := hnb (kS c b)
          rw [i_sub eadd e2 (by omega) (by omega)]
          omega
        · rw [up_n q, up_n q, dl_ne q, hnw j hj]
          omega
      · rw [hr, ha]; rfl
    refine come_ok (S := S) hC hF hR hb (fun j hj => ?_) (fun r hr => ⟨fun q => rest acc ?_, fun q => rest r ?_⟩)
    · show (upd nw (kS c b) (nw (kS c b) + (3 : Int32) * c_most c b) j).toInt = _
      by_cases q : j = kS c b
      · subst q
        rw [up_s, dl_self, eadd]
        omega
      · rw [up_n q, dl_ne q, hnw j hj]
        omega
    · have q' := Int64.le_iff_toInt_le.mp q
      rw [hr] at q'
      rw [if_pos q']
    · have q' : ¬ r.toInt ≤ acc.toInt := fun y => q (Int64.le_iff_toInt_le.mpr y)
      rw [hr] at q'
      rw [if_neg q', hr]
theorem fallof_ok {K : Int64 → CS → MT → Prop} {l : List Nat} (hC : CI c) (hF : FedC c) (hR : resI c (-1) (kB c) t) (ho : ord (kK c) 0 l) (hor : ∀ k, k < kK c → m_order t k = nI (gl l k)) (hK : ∀ r nw', r.toInt = tot (pek c) 0 0 l → K r c (ms_now t nw')) : wp_X6_fallOf c t K := by
  have h7 := hC.n7
  show ∃ n4 : Nat, nd_X6_fallOf_4 K n4 (0 : Int64) (nI 0) c (ms_now t (m_now t))
  refine upto (fun n i (nw : Nat → Int32) => nd_X6_fallOf_4 K n (0 : Int64) (nI i) c (ms_now t nw)) (fun i nw => ∀ j, j < i → nw j = 0) 7 0 _ (by omega) (fun j h => by omega) ?_ ?_
  · intro n nw hnw
    refine ⟨fun _ => ⟨l.length + 1, ?_⟩, fun h => absurd (Int32.le_refl _) h⟩
    have hl := ord0 ho
    refine fall_go hC hF hR l 0 0 0 nw ho (by omega) (fun k hk => ?_) (fun j hj => ?_) (fun r nw' hr => hK r nw' hr)
    · rw [show 0 + k = k by omega]; exact hor k (by omega)
    · rw [hnw j (by omega)]
      have : nwk c 0 j = 0 := sm_zero (fun b _ => by
        rw [if_neg]
        unfold bt7
        rw [Nat.zero_testBit]; decide)
      rw [this]; rfl
  · intro n i nw hi _ hnw hW
    refine ⟨fun h => absurd h (nI_ge hi (show (7 : Nat) < 2147483648 by decide)), fun _ => ⟨vi (by omega) (by omega), ?_⟩⟩
    rw [cl_ (by omega), nI_1]
    refine hW (upd nw i 0) (fun j hj => ?_)
    by_cases e : j = i
    · subst e; exact up_s
    · rw [up_n e]; exact hnw j (by omega)
end MK
