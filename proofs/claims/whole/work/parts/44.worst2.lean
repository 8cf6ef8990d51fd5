/-! THE WORST: both walks -/
def gr (c : CS) (k b : Nat) : Int := gR c k (kS c b)
def gW (c : CS) (k : Nat) (i : Nat) : (Nat → Int) × Int := wS (kK c) (gr c k) (kM c) (c_budget c).toInt i
def gX (c : CS) (k : Nat) : Int := sm (kK c) (fun b => (gW c k (kK c)).1 b * gr c k b)
section WO
variable {c : CS} {x : XT} {t : MT} {k : Nat}
theorem CI.bud (hC : CI c) : 0 ≤ (c_budget c).toInt ∧ (c_budget c).toInt ≤ 100 := hC.2.2.2.2.2.2
theorem CI.blk (hC : CI c) {b : Nat} (h : b < kK c) : (kS c b < kN c ∧ c_sits c b = nI (kS c b)) ∧ 1 ≤ kM c b ∧ kM c b ≤ 20 := hC.2.2.2.2.2.1.2.2 b h
theorem gW_next (hC : CI c) {i : Nat} (hi : i < kK c) : ∃ b, nx (gr c k) (gW c k i).1 (kK c) = some b ∧ b < kK c ∧ (gW c k i).1 b = -1 := wS_next hC.bud (fun b hb => (hC.blk hb).2) hi
theorem gW_ok (hC : CI c) {i : Nat} (hi : i ≤ kK c) : (0 ≤ (gW c k i).2 ∧ (gW c k i).2 ≤ 100) ∧ wC (kK c) (gW c k i).1 = (kK c : Int) - i ∧ ∀ b, (gW c k i).1 b = -1 ∨ (0 ≤ (gW c k i).1 b ∧ (gW c k i).1 b ≤ 20) := wS_ok hC.bud (fun b hb => (hC.blk hb).2) i hi
theorem gW_all (hC : CI c) : ∀ b, b < kK c → 0 ≤ (gW c k (kK c)).1 b ∧ (gW c k (kK c)).1 b ≤ 20 := wS_all hC.bud (fun b hb => (hC.blk hb).2)
theorem gr_b (hC : CI c) (hF : FedC c) (hk : k < kN c) {b : Nat} (hb : b < kK c) : -25200000 ≤ gr c k b ∧ gr c k b ≤ 25200000 := gR_b hC hF hk (hC.blk hb).1.1
theorem wU_abs (hC : CI c) (hF : FedC c) (hk : k < kN c) {g : Nat → Int} (hg : ∀ b, g b = -1 ∨ (0 ≤ g b ∧ g b ≤ 20)) {m : Nat} (hm : m ≤ kK c) : -(504000000 * (m : Int)) ≤ sm m (fun b => if g b = -1 then 0 else g b * gr c k b) ∧ sm m (fun b => if g b = -1 then 0 else g b * gr c k b) ≤ 504000000 * (m : Int) := by
  refine sm_abs (B := 504000000) (fun b hb => ?_)
  have h1 := gr_b hC hF hk (b := b) (by omega)
  by_cases q : g b = -1
  · rw [if_pos q]; omega
  · rw [if_neg q]
    have h2 := mul_bd (x := g b) (y := gr c k b) (A := 20) (B := 25200000) (by rcases hg b with h | h <;> omega) h1
    omega
theorem gX_b (hC : CI c) (hF : FedC c) (hk : k < kN c) {m : Nat} (hm : m ≤ kK c) : -3024000000 ≤ sm m (fun b => (gW c k (kK c)).1 b * gr c k b) ∧ sm m (fun b => (gW c k (kK c)).1 b * gr c k b) ≤ 3024000000 := by
  have h6 := hC.b6
  have h := sm_abs (B := 504000000) (n := m) (f := fun b => (gW c k (kK c)).1 b * gr c k b) (fun b hb => by
    have h1 := gr_b hC hF hk (b := b) (by omega)
    have h3 := gW_all (k := k) hC b (by omega)
    have h2 := mul_bd (x := (gW c k (kK c)).1 b) (y := gr c k b) (A := 20) (B := 25200000) (by omega) h1
    omega)
  omega
theorem next5 {K : Int32 → CS → XT → Prop} {g : Nat → Int} (hC : CI c) (hk : k < kN c) (hx : SC (kN c) (kL c (-1)) (cS (kB c)) (x_bal x 0)) (hg : ∀ b, b < kK c → (x_gets x b).toInt = g b) (hK : K (rp (nx (gr c k) g (kK c))) c x) : wp_X1_nextToGet k c x K := by
  have h6 := hC.b6
  have h7 := hC.n7
  show ∃ n4 : Nat, nd_X1_nextToGet_4 k K n4 (rp none) (nI 0) c x
  refine upto (fun n i (o : Option Nat) => nd_X1_nextToGet_4 k K n (rp o) (nI i) c x) (fun i o => o = nx (gr c k) g i) (kK c) 0 none (by omega) rfl ?_ ?_
  · rintro n o rfl
    exact ⟨fun _ => hK, fun h => absurd (show c_nb c ≤ nI (kK c) from by rw [← hC.eb]; exact Int32.le_refl _) h⟩
  · rintro n i o hi _ rfl hW
    have vi6 : vp_in (nI i) 6 := vi (by omega) (by omega)
    have ci : (nI i).toNatClampNeg = i := cl_ (by omega)
    have hgi := hg i hi
    obtain ⟨⟨s1, s2⟩, -⟩ := hC.blk hi
    have hs7 : vp_in (c_sits c i) 7 := by rw [s2]; exact vi (by omega) (by omega)
    have hi1 : nx (gr c k) g i = none → g i = -1 → nx (gr c k) g (i + 1) = some i := fun q e => by
      show (if g i = -1 then _ else _) = _
      rw [if_pos e, q]
    refine ⟨fun h => absurd h (by rw [hC.eb]; exact nI_ge hi (by omega)), fun _ => ⟨vi6, ?_⟩⟩
    rw [ci]
    refine ⟨fun e => ?_, fun e => ?_⟩
    · have e' : g i = -1 := by rw [← hgi, e]; decide
      cases q : nx (gr c k) g i with
      | none =>
        refine ⟨fun _ => ?_, fun z => absurd rfl z⟩
        show nd_X1_nextToGet_4 k K n (rp (some i)) (nI i + 1) c x
        rw [nI_1]
        exact hW _ (hi1 q e').symm
      | some j =>
        have hj := nx_some q
        have cj : (nI j).toNatClampNeg = j := cl_ (by omega)
        obtain ⟨⟨s1', s2'⟩, -⟩ := hC.blk (b := j) (by omega)
        have hs7' : vp_in (c_sits c j) 7 := by rw [s2']; exact vi (by omega) (by omega)
        have r1 : (b_cell (x_bal x 0) k (kS c i)).toInt = gr c k i := hx k _ hk s1
        have r2 : (b_cell (x_bal x 0) k (kS c j)).toInt = gr c k j := hx k _ hk s1'
        refine ⟨fun z => absurd z (nI_nm1 (by omega)), fun _ => ?_⟩
        show vp_in (nI i) 6 ∧ vp_in (c_sits c i) 7 ∧ vp_in (nI j) 6 ∧ vp_in (c_sits c (nI j).toNatClampNeg) 7 ∧ (b_cell (x_bal x 0) k (kS c i) ≤ b_cell (x_bal x 0) k (c_sits c (nI j).toNatClampNeg).toNatClampNeg → nd_X1_nextToGet_4 k K n (nI j) (nI i + 1) c x) ∧ (¬ b_cell (x_bal x 0) k (kS c i) ≤ b_cell (x_bal x 0) k (c_sits c (nI j).toNatClampNeg).toNatClampNeg → nd_X1_nextToGet_4 k K n (nI i) (nI i + 1) c x)
        rw [cj, nI_1]
        refine ⟨vi6, hs7, vi (by omega) (by omega), hs7', fun z => ?_, fun z => ?_⟩
        · have z' := Int64.le_iff_toInt_le.mp z
          rw [r1, show (b_cell (x_bal x 0) k (c_sits c j).toNatClampNeg).toInt = gr c k j from r2] at z'
          refine hW (some j) ?_
          show some j = (if g i = -1 then _ else _)
          rw [if_pos e', q]
          show some j = if _ then _ else _
          rw [if_pos z']
        · have z' := fun y => z (Int64.le_iff_toInt_le.mpr y)
          rw [r1, show (b_cell (x_bal x 0) k (c_sits c j).toNatClampNeg).toInt = gr c k j from r2] at z'
          refine hW (some i) ?_
          show some i = (if g i = -1 then _ else _)
          rw [if_pos e', q]
          show some i = if _ then _ else _
          rw [if_neg z']
    · have e' : ¬ g i = -1 := fun z => e (i_inj (by rw [hgi, z]; decide))
      show nd_X1_nextToGet_4 k K n _ (nI i + 1) c x
      rw [nI_1]
      refine hW _ ?_
      show nx (gr c k) g i = (if g i = -1 then _ else _)
      rw [if_neg e']
theorem share5 {K : CS → XT → Prop} (hC : CI c) (hk : k < kN c) (hx : SC (kN c) (kL c (-1)) (cS (kB c)) (x_bal x 0)) (hK : ∀ p : Nat → Int32, (∀ b, b < kK c → (p b).toInt = (gW c k (kK c)).1 b) → K c (xs_gets x p)) : wp_X1_share (nI k) c x K := by
  have h6 := hC.b6
  have h7 := hC.n7
  have ck : (nI k).toNatClampNeg = k := cl_ (by omega)
  have vk7 : vp_in (nI k) 7 := vi (by omega) (by omega)
  show ∃ n2 : Nat, nd_X1_share_2 K n2 (nI k) (nI 0) c (xs_gets x (x_gets x))
  refine upto (fun n i (p : Nat → Int32) => nd_X1_share_2 K n (nI k) (nI i) c (xs_gets x p)) (fun i p => ∀ b, b < i → (p b).toInt = -1) (kK c) 0 _ (by omega) (fun b h => by omega) ?_ ?_
  · intro n p hp
    refine ⟨fun _ => ?_, fun h => absurd (show c_nb c ≤ nI (kK c) from by rw [← hC.eb]; exact Int32.le_refl _) h⟩
    refine upto (fun n i (s : Int32 × (Nat → Int32)) => nd_X1_share_31 K n (nI k) s.1 (nI i) c (xs_gets x s.2)) (fun i s => s.1.toInt = (gW c k i).2 ∧ ∀ b, b < kK c → (s.2 b).toInt = (gW c k i).1 b) (kK c) 0 (c_budget c, p) (by omega) ⟨rfl, hp⟩ ?_ ?_
    · rintro n ⟨l, q⟩ ⟨_, hq⟩
      exact ⟨fun _ => hK q hq, fun h => absurd (show c_nb c ≤ nI (kK c) from by rw [← hC.eb]; exact Int32.le_refl _) h⟩
    · rintro n i ⟨l, q⟩ hi _ ⟨hl, hq⟩ hW
      simp only at hl hq
      obtain ⟨b, e, hb, hgb⟩ := gW_next (k := k) hC hi
      have cb : (nI b).toNatClampNeg = b := cl_ (by omega)
      have vb : vp_in (nI b) 6 := vi (by omega) (by omega)
      have hok := gW_ok (k := k) hC (i := i) (by omega)
      refine ⟨fun h => absurd h (by rw [hC.eb]; exact nI_ge hi (by omega)), fun _ => ⟨vk7, ?_⟩⟩
      rw [ck]
      refine next5 (x := xs_gets x q) (g := (gW c k i).1) hC hk hx hq ?_
      rw [e]
      refine ⟨fun _ => ⟨vb, vb, vb, ?_⟩, fun z => absurd z (nI_nm1 (by omega))⟩
      show nd_X1_share_31 K n (nI k) (l - upd q (nI b).toNatClampNeg (if l < c_most c (nI b).toNatClampNeg then l else c_most c (nI b).toNatClampNeg) (nI b).toNatClampNeg) (nI i + 1) c (xs_gets x (upd q (nI b).toNatClampNeg (if l < c_most c (nI b).toNatClampNeg then l else c_most c (nI b).toNatClampNeg)))
      rw [cb, nI_1, up_s]
      have hm := (hC.blk hb).2
      have hv : (if l < c_most c b then l else c_most c b).toInt = mnI (gW c k i).2 (kM c b) := by
        unfold mnI
        by_cases z : l < c_most c b
        · have z' := Int32.lt_iff_toInt_lt.mp z
          rw [if_pos z, hl, if_pos (by rw [← hl]; exact Int.le_of_lt z')]
        · have z' : ¬ l.toInt < (c_most c b).toInt := fun y => z (Int32.lt_iff_toInt_lt.mpr y)
          rw [if_neg z]
          by_cases y : (gW c k i).2 ≤ kM c b
          · rw [if_pos y]
            have : (c_most c b).toInt = kM c b := rfl
            omega
          · rw [if_neg y]; rfl
      have hmn : 0 ≤ mnI (gW c k i).2 (kM c b) ∧ mnI (gW c k i).2 (kM c b) ≤ 20 := by unfold mnI; split <;> omega
      have hst : gW c k (i + 1) = (ug (gW c k i).1 b (mnI (gW c k i).2 (kM c b)), (gW c k i).2 - mnI (gW c k i).2 (kM c b)) := wT_some e
      refine hW (_, _) ⟨?_, fun j hj => ?_⟩
      · rw [hst]
        exact i_sub hl hv (by omega) (by omega)
      · rw [hst]
        show (upd q b _ j).toInt = ug _ b _ j
        unfold ug
        by_cases z : j = b
        · subst z; rw [up_s, if_pos rfl]; exact hv
        · rw [up_n z, if_neg z]; exact hq j hj
  · intro n i p hi _ hp hW
    refine ⟨fun h => absurd h (by rw [hC.eb]; exact nI_ge hi (by omega)), fun _ => ⟨vi (by omega) (by omega), ?_⟩⟩
    rw [cl_ (by omega), nI_1]
    refine hW (upd p i (-1)) (fun b hb => ?_)
    by_cases z : b = i
    · subst z; rw [up_s]; exact m1'
    · rw [up_n z]; exact hp b (by omega)
theorem above5 {K : Int64 → CS → XT → Prop} (hC : CI c) (hF : FedC c) (hk : k < kN c) (hx : SC (kN c) (kL c (-1)) (cS (kB c)) (x_bal x 0)) (hK : ∀ (r : Int64) (p : Nat → Int32), r.toInt = gX c k → K r c (xs_gets x p)) : wp_X1_worstAbove (nI k) c x K := by
  have h6 := hC.b6
  have h7 := hC.n7
  refine share5 hC hk hx (fun p hp => ?_)
  refine upto (fun n i (a : Int64) => nd_X1_worstAbove_11 K n (nI k) a (nI i) c (xs_gets x p)) (fun i a => a.toInt = sm i (fun b => (gW c k (kK c)).1 b * gr c k b)) (kK c) 0 (0 : Int64) (by omega) rfl ?_ ?_
  · intro n a ha
    exact ⟨fun _ => hK a p ha, fun h => absurd (show c_nb c ≤ nI (kK c) from by rw [← hC.eb]; exact Int32.le_refl _) h⟩
  · intro n i a hi _ ha hW
    have vi6 : vp_in (nI i) 6 := vi (by omega) (by omega)
    have ci : (nI i).toNatClampNeg = i := cl_ (by omega)
    have ck : (nI k).toNatClampNeg = k := cl_ (by omega)
    obtain ⟨⟨s1, s2⟩, -⟩ := hC.blk hi
    have h1 := gr_b hC hF hk hi
    have h3 := gW_all (k := k) hC i hi
    have h2 := mul_bd (x := gr c k i) (y := (gW c k (kK c)).1 i) (A := 25200000) (B := 20) h1 (by omega)
    have hb := gX_b hC hF hk (m := i) (by omega)
    refine ⟨fun h => absurd h (by rw [hC.eb]; exact nI_ge hi (by omega)), fun _ => ⟨vi (by omega) (by omega), vi6, ?_⟩⟩
    rw [ci, ck, nI_1]
    refine ⟨by rw [s2]; exact vi (by omega) (by omega), vi6, hW _ ?_⟩
    show _ = sm i _ + (gW c k (kK c)).1 i * gr c k i
    rw [Int.mul_comm ((gW c k (kK c)).1 i)]
    exact l_add ha (l_mul (show (b_cell (x_bal x 0) k (kS c i)).toInt = gr c k i from hx k _ hk s1) (l_of (hp i hi)) (by omega) (by omega)) (by omega) (by omega)
end WO
