/-! WIDENED: the reference's search -/
def bst6 (c : CS) (v3 : Int32) (t : MT) : Option (List Nat) → Prop
  | none => v3 = (-1 : Int32)
  | some b => v3.toInt = prs (kP c) b ∧ srt (kE c) b ∧ b.length ≤ 3 ∧ ∀ w, w < kE c → (m_bestMore t w).toInt = lc b w
/-- the state in a code, after k places -/
def M76 (c : CS) (t0 : MT) (i k : Nat) (s : Int32 × Int32 × Int32 × Int32 × MT) : Prop := s.1 = nI (rem_ (kE c) i k) ∧ s.2.1 = nI (cdp (kE c) i k).length ∧ s.2.2.1.toInt = prs (kP c) (cdp (kE c) i k) ∧ ((s.2.2.2.1 = 1 ∧ may c i k) ∨ (s.2.2.2.1 = 0 ∧ ¬ may c i k)) ∧ (∀ w, w < kE c → (m_more s.2.2.2.2 w).toInt = lc (cdp (kE c) i k) w) ∧ (∀ j, k = j + 1 → (m_picked s.2.2.2.2 j).toInt = dig (kE c) i j - 1) ∧ m_bestMore s.2.2.2.2 = m_bestMore t0
section MF
variable {c : CS} {lim : Int32} {u i : Nat}
theorem rem_lt {E i : Nat} (h : i < 2147483648) : ∀ k, rem_ E i k < 2147483648
  | 0 => h
  | k + 1 => Nat.lt_of_le_of_lt (Nat.div_le_self _ _) (rem_lt h k)
theorem cdp_pr (hC : CI c) : ∀ k, 0 ≤ prs (kP c) (cdp (kE c) i k) ∧ prs (kP c) (cdp (kE c) i k) ≤ 100 * k
  | 0 => by show 0 ≤ (0 : Int) ∧ (0 : Int) ≤ _; omega
  | k + 1 => by
    have ih := cdp_pr hC k
    show 0 ≤ prs (kP c) (app1 _ _) ∧ prs (kP c) (app1 _ _) ≤ 100 * ((k + 1 : Nat) : Int)
    unfold app1
    by_cases z : dig (kE c) i k = 0
    · rw [if_pos z]; omega
    · rw [if_neg z]
      have hd := dig_lt (kE c) i k
      have := hC.pr (dig (kE c) i k - 1) (by omega)
      show 0 ≤ prs _ _ + _ ∧ prs _ _ + _ ≤ _
      omega
set_option maxHeartbeats 2000000 in
theorem step6 (hC : CI c) {K : Int32 → CS → MT → Prop} {L27 : Int32 → Int32 → Int32 → Int32 → Int32 → CS → MT → Prop} {v1 v2 v3 v4 v5 : Int32} {t0 : MT} {n k : Nat} {s : Int32 × Int32 × Int32 × Int32 × MT} (hi : i < 2147483648) (hk : k < 3) (hM : M76 c t0 i k s)
    (hW : ∀ s', M76 c t0 i (k + 1) s' → nd_X6_findWiden_76 K L27 n v1 v2 v3 v4 v5 s'.1 s'.2.1 s'.2.2.1 s'.2.2.2.1 (nI (k + 1)) c s'.2.2.2.2) : nd_X6_findWiden_76 K L27 (n + 1) v1 v2 v3 v4 v5 s.1 s.2.1 s.2.2.1 s.2.2.2.1 (nI k) c s.2.2.2.2 := by
  have h12 := hC.e12
  obtain ⟨v6, v7, v8, v9, t⟩ := s
  obtain ⟨m1, m2, m3, m4, m5, m6, m7⟩ := hM
  simp only at m1 m2 m3 m4 m5 m6 m7
  subst m1
  subst m2
  have hrem := rem_lt (E := kE c) hi k
  have hdig := dig_lt (kE c) i k
  have hlen := cdp_len (kE c) i k
  have hprb := cdp_pr hC k (i := i)
  have v3' : vp_in (nI k) 3 := vi (by omega) (by omega)
  have ck : (nI k).toNatClampNeg = k := cl_ (by omega)
  have eE : c_wires c + (1 : Int32) = nI (kE c + 1) := by rw [hC.ew, nI_1]
  have eq : nI (rem_ (kE c) i k) / nI (kE c + 1) = nI (rem_ (kE c) i (k + 1)) := nI_div hrem (by omega)
  have hb0 : ¬ nI (kE c + 1) = (0 : Int32) := fun e => by
    have := congrArg Int32.toInt e
    rw [nI_toInt (by omega), i0'] at this
    omega
  have hmod := Nat.div_add_mod (rem_ (kE c) i k) (kE c + 1)
  have hmod : (kE c + 1) * rem_ (kE c) i (k + 1) + dig (kE c) i k = rem_ (kE c) i k := hmod
  have hpk : (nI (rem_ (kE c) i k) - nI (rem_ (kE c) i (k + 1)) * nI (kE c + 1) - (1 : Int32)).toInt = dig (kE c) i k - 1 := by
    rw [pk_mul]
    rw [Nat.mul_comm] at hmod
    generalize rem_ (kE c) i (k + 1) * (kE c + 1) = z at *
    refine i_sub (x := dig (kE c) i k) ?_ i1' (by omega) (by omega)
    have e : nI (rem_ (kE c) i k) - nI z = nI (dig (kE c) i k) := by
      rw [← hmod, ← nI_add, Int32.add_comm, Int32.add_sub_cancel]
    rw [e, nI_toInt (by omega)]
  generalize hpv : nI (rem_ (kE c) i k) - nI (rem_ (kE c) i (k + 1)) * nI (kE c + 1) - (1 : Int32) = pv at hpk
  have hm4 : v9 = 0 ∨ v9 = 1 := by
    rcases m4 with z | z
    · exact .inr z.1
    · exact .inl z.1
  -- behind the check
  have go : ∀ s0 : Int32, ((s0 = 1 ∧ (may c i k ∧ ∀ j, k = j + 1 → dig (kE c) i j ≤ dig (kE c) i k)) ∨ (s0 = 0 ∧ ¬ (may c i k ∧ ∀ j, k = j + 1 → dig (kE c) i j ≤ dig (kE c) i k))) → nd_X6_findWiden_145 K L27 (fun v1 v2 v3 v4 v5 v6 v7 v8 v9 v10 c t => nd_X6_findWiden_76 K L27 n v1 v2 v3 v4 v5 v6 v7 v8 v9 v10 c t) v1 v2 v3 v4 v5 (nI (rem_ (kE c) i (k + 1))) (nI (cdp (kE c) i k).length) v8 (nI k) s0 c (ms_picked t (upd (m_picked t) k pv)) := fun s0 hs0 => by
    refine ⟨v3', ?_⟩
    rw [ck]
    show (upd (m_picked t) k pv k < 0 → _) ∧ (¬ upd (m_picked t) k pv k < 0 → _)
    rw [up_s]
    have hpick : ∀ t' : MT, m_picked t' = upd (m_picked t) k pv → ∀ j, k + 1 = j + 1 → (m_picked t' j).toInt = dig (kE c) i j - 1 := fun t' e j ej => by
      obtain rfl : j = k := by omega
      rw [e, up_s, hpk]
    refine ⟨fun q => ?_, fun q => ?_⟩
    · have q' := Int32.lt_iff_toInt_lt.mp q
      rw [hpk, i0'] at q'
      have hd0 : dig (kE c) i k = 0 := by omega
      have happ : cdp (kE c) i (k + 1) = cdp (kE c) i k := if_pos hd0
      show nd_X6_findWiden_76 K L27 n v1 v2 v3 v4 v5 _ _ v8 s0 (nI k + 1) c _
      rw [nI_1]
      refine hW (nI (rem_ (kE c) i (k + 1)), nI (cdp (kE c) i k).length, v8, s0, ms_picked t (upd (m_picked t) k pv)) ⟨rfl, by rw [happ], by rw [happ]; exact m3, ?_, by rw [happ]; exact m5, hpick _ rfl, m7⟩
      rcases hs0 with ⟨z1, z2⟩ | ⟨z1, z2⟩
      · exact .inl ⟨z1, z2.1, z2.2, fun y => absurd hd0 y⟩
      · exact .inr ⟨z1, fun y => z2 ⟨y.1, y.2.1⟩⟩
    · have q' : ¬ pv.toInt < (0 : Int32).toInt := fun y => q (Int32.lt_iff_toInt_lt.mpr y)
      rw [hpk, i0'] at q'
      have hd0 : dig (kE c) i k ≠ 0 := by omega
      have hpn : pv = nI (dig (kE c) i k - 1) := i_inj (by rw [hpk, nI_toInt (by omega)]; omega)
      have happ : cdp (kE c) i (k + 1) = (dig (kE c) i k - 1) :: cdp (kE c) i k := if_neg hd0
      have hdE : dig (kE c) i k - 1 < kE c := by omega
      generalize hd : dig (kE c) i k - 1 = d at hpn happ hdE
      have v12 : vp_in pv 12 := by rw [hpn]; exact vi (by omega) (by omega)
      have cd : pv.toNatClampNeg = d := by rw [hpn]; exact cl_ (by omega)
      have hget : m_picked (ms_picked t (upd (m_picked t) k pv)) k = pv := up_s
      rw [hget, cd]
      have hcnt := lc_nn (cdp (kE c) i k) d
      have hmo : (m_more t d + (1 : Int32)).toInt = lc (cdp (kE c) i (k + 1)) d := by
        rw [happ]
        show _ = lc _ d + (if d = d then 1 else 0)
        rw [if_pos rfl]
        exact i_add (m5 d hdE) i1' (by omega) (by omega)
      have hcnt' := lc_nn (cdp (kE c) i (k + 1)) d
      have hlen' := cdp_len (kE c) i (k + 1)
      have hkW := (hC.2.2.1 d hdE).2.2.2.1
      have hpr := hC.pr d hdE
      have hsum : (c_wide c d + (m_more t d + (1 : Int32))).toInt = kW c d + lc (cdp (kE c) i (k + 1)) d := i_add rfl hmo (by show _ ≤ kW c d + _; omega) (by show kW c d + _ ≤ _; omega)
      have fin : ∀ v9' : Int32, ((v9' = 1 ∧ may c i (k + 1)) ∨ (v9' = 0 ∧ ¬ may c i (k + 1))) → nd_X6_findWiden_235 K L27 (fun v1 v2 v3 v4 v5 v6 v7 v8 v9 v10 c t => nd_X6_findWiden_76 K L27 n v1 v2 v3 v4 v5 v6 v7 v8 v9 v10 c t) v1 v2 v3 v4 v5 (nI (rem_ (kE c) i (k + 1))) (nI (cdp (kE c) i k).length + 1) (v8 + c_price c d) v9' (nI k) c (ms_more (ms_picked t (upd (m_picked t) k pv)) (upd (m_more t) d (m_more t d + (1 : Int32)))) := fun v9' h9 => by
        show nd_X6_findWiden_76 K L27 n v1 v2 v3 v4 v5 _ _ _ v9' (nI k + 1) c _
        rw [nI_1, nI_1]
        refine hW (nI (rem_ (kE c) i (k + 1)), nI ((cdp (kE c) i k).length + 1), v8 + c_price c d, v9', ms_more (ms_picked t (upd (m_picked t) k pv)) (upd (m_more t) d (m_more t d + (1 : Int32)))) ⟨rfl, by rw [happ]; rfl, ?_, h9, fun w hw => ?_, hpick _ rfl, m7⟩
        · rw [happ]
          show _ = prs (kP c) (cdp (kE c) i k) + kP c d
          exact i_add m3 rfl (by show _ ≤ _ + kP c d; omega) (by show _ + kP c d ≤ _; omega)
        · show (upd (m_more t) d (m_more t d + (1 : Int32)) w).toInt = _
          by_cases e : w = d
          · subst e
            rw [up_s]; exact hmo
          · rw [up_n e, m5 w hw, happ]
            show _ = lc _ w + (if w = d then 1 else 0)
            rw [if_neg e]; omega
      have hmay : may c i (k + 1) ↔ (may c i k ∧ ∀ j, k = j + 1 → dig (kE c) i j ≤ dig (kE c) i k) ∧ kW c d + lc (cdp (kE c) i (k + 1)) d ≤ 6 := by
        show (may c i k ∧ (∀ j, k = j + 1 → dig (kE c) i j ≤ dig (kE c) i k) ∧ (dig (kE c) i k ≠ 0 → kW c (dig (kE c) i k - 1) + lc (cdp (kE c) i (k + 1)) (dig (kE c) i k - 1) ≤ 6)) ↔ _
        rw [hd]
        exact ⟨fun z => ⟨⟨z.1, z.2.1⟩, z.2.2 hd0⟩, fun z => ⟨z.1.1, z.1.2, fun _ => z.2⟩⟩
      refine ⟨v3', v12, v12, v3', v12, fun e => ?_, fun e => ⟨v3', v12, v3', v12, ?_, ?_⟩⟩
      · refine fin 0 (.inr ⟨rfl, fun z => ?_⟩)
        rcases hs0 with ⟨z1, z2⟩ | ⟨z1, z2⟩
        · rw [z1] at e; exact absurd e n10
        · exact z2 (hmay.mp z).1
      · intro e2
        refine fin 0 (.inr ⟨rfl, fun z => ?_⟩)
        have e2 : (6 : Int32) < c_wide c d + upd (m_more t) d (m_more t d + (1 : Int32)) d := e2
        rw [up_s] at e2
        have e2' := Int32.lt_iff_toInt_lt.mp e2
        rw [hsum, show (6 : Int32).toInt = 6 by decide] at e2'
        have := (hmay.mp z).2
        omega
      · intro e2
        have e2 : ¬ (6 : Int32) < c_wide c d + upd (m_more t) d (m_more t d + (1 : Int32)) d := e2
        rw [up_s] at e2
        have e2' : ¬ (6 : Int32).toInt < (c_wide c d + (m_more t d + (1 : Int32))).toInt := fun y => e2 (Int32.lt_iff_toInt_lt.mpr y)
        rw [hsum, show (6 : Int32).toInt = 6 by decide] at e2'
        refine fin 1 (.inl ⟨rfl, hmay.mpr ⟨?_, by omega⟩⟩)
        rcases hs0 with ⟨z1, z2⟩ | ⟨z1, z2⟩
        · exact z2
        · exact absurd z1 e
  have hn3 : ¬ (3 : Int32) ≤ nI k := fun q => by
    have := Int32.le_iff_toInt_le.mp q
    rw [nI_toInt (by omega), show (3 : Int32).toInt = 3 by decide] at this
    omega
  refine ⟨fun q => absurd q hn3, fun _ => ?_⟩
  rw [eE, eq, hpv, ck]
  refine ⟨hb0, v3', hb0, fun e => ?_, fun e => ⟨fun e2 => ?_, fun e2 => ?_⟩⟩
  · refine go 0 (.inr ⟨rfl, fun z => ?_⟩)
    rcases m4 with y | y
    · rw [y.1] at e; exact absurd e n10
    · exact y.2 z.1
  · have hk0 : k = 0 := (nI_eq (by omega) (by omega)).mp (show nI k = nI 0 from e2)
    refine go 1 (.inl ⟨rfl, ?_, fun j ej => by omega⟩)
    rcases m4 with y | y
    · exact y.2
    · exact absurd y.1 e
  · have hk0 : k ≠ 0 := fun q => e2 (by rw [q]; rfl)
    obtain ⟨j, rfl⟩ : ∃ j, k = j + 1 := ⟨k - 1, by omega⟩
    have hm := nI_m1 j (by omega)
    rw [hm.1]
    have cj : (nI j).toNatClampNeg = j := cl_ (by omega)
    have m6' := m6 j rfl
    refine ⟨v3', vi (by omega) (by omega), ?_⟩
    rw [cj, up_s, up_n (show j ≠ j + 1 by omega)]
    have hmk : may c i (j + 1) := by
      rcases m4 with y | y
      · exact y.2
      · exact absurd y.1 e
    refine ⟨fun z => ?_, fun z => ?_⟩
    · have z' := Int32.lt_iff_toInt_lt.mp z
      rw [hpk, m6'] at z'
      refine go 0 (.inr ⟨rfl, fun y => ?_⟩)
      have := y.2 j rfl
      omega
    · have z' : ¬ pv.toInt < (m_picked t j).toInt := fun y => z (Int32.lt_iff_toInt_lt.mpr y)
      rw [hpk, m6'] at z'
      refine go 1 (.inl ⟨rfl, hmk, fun j' e' => ?_⟩)
      obtain rfl : j' = j := by omega
      omega
end MF
