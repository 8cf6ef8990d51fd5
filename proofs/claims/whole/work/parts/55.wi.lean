/-! WIDENED: the net with a row of more -/
def kP (c : CS) (w : Nat) : Int := (c_price c w).toInt
def wL (c : CS) (l : List Nat) (w : Nat) : Int := wB c (-1) w + lc l w
def kLw (c : CS) (l : List Nat) : Nat → Nat → Int := lp (kE c) (kF c) (kT c) (wL c l)
def okw (c : CS) (l : List Nat) : Prop := ∀ w, w < kE c → kW c w + lc l w ≤ 6
def wiD (c : CS) (l : List Nat) : Int := Dn (kN c) (kLw c l) (cS (kB c))
def wiM (c : CS) (l : List Nat) : Int := mx (kN c) (fl (kN c) (kLw c l) (cS (kB c)) (kQ c))
def wi (c : CS) (lim : Int) (l : List Nat) : Prop := wiM c l ≤ lim * wiD c l
section WI
variable {c : CS} {l : List Nat}
theorem wL_cons (w : Nat) : wdp (wL c l) w 1 = wL c (w :: l) := by
  funext u
  unfold wdp wL
  show (if u = w then _ else _) = _ + (lc l u + if u = w then 1 else 0)
  by_cases e : u = w
  · rw [if_pos e, if_pos e]; omega
  · rw [if_neg e, if_neg e]; omega
theorem wL_nil : wL c [] = wB c (-1) := by
  funext u
  unfold wL
  show _ + (0 : Int) = _
  omega
theorem wL_net (hC : CI c) (h : okw c l) : NetOK (kN c) (kE c) (kF c) (kT c) (wL c l) := by
  have hN := hC.net (-1)
  have h12 := hC.e12
  refine ⟨hN.1, hN.2.1, hN.2.2.1, hN.2.2.2.1, fun w hw => ?_⟩
  have h1 := hN.2.2.2.2 w hw
  have h2 := h w hw
  have h3 := lc_nn l w
  unfold wL
  rw [wB_none c (by omega)] at h1 ⊢
  omega
theorem wL_fed (hC : CI c) (hF : FedC c) : Fed (kN c) (kE c) (kF c) (kT c) (wL c l) (bt7 (kB c)) := by
  intro g g1 g2
  refine hF g (fun w hw _ => g1 w hw ?_) g2
  have h1 := (hC.2.2.1 w hw).2.2.2.1
  have h12 := hC.e12
  have h3 := lc_nn l w
  unfold wL
  rw [wB_none c (by omega)]
  omega
theorem wiD_b (hC : CI c) (hF : FedC c) (h : okw c l) : 0 < wiD c l ∧ wiD c l ≤ 255000000 := by
  obtain ⟨k0, hk0, hp⟩ := gpad hC hF
  have hN := wL_net hC h
  exact ⟨Dn_pos (S := cS (kB c)) hN.2.2.1 hN.2.2.2.1 (fun w hw => (hN.2.2.2.2 w hw).1) (by rw [nots]; exact wL_fed hC hF), (Dn_bound hN hk0 (cS_f hp)).2⟩
theorem okw_tail {w : Nat} (h : okw c (w :: l)) : okw c l := fun u hu => by
  have := h u hu
  have e : lc (w :: l) u = lc l u + if u = w then 1 else 0 := rfl
  rw [e] at this
  split at this <;> omega
theorem okw_app {s : List Nat} (h : okw c (s ++ l)) : okw c l := fun u hu => by
  have := h u hu
  have := lc_app s l u
  omega
end WI
