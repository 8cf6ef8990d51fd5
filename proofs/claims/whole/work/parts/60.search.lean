/-! WIDENED: the class's search, whole -/
/-- all rows that come in question -/
def cdl (c : CS) (u : Nat) (l : List Nat) : Prop := srt (kE c) l ∧ l.length ≤ u
section SE
variable {c : CS} {lim : Int32} {u : Nat} {x : XT}
theorem search5 {K : Int32 → CS → XT → Prop} (hC : CI c) (hl : 0 ≤ lim.toInt ∧ lim.toInt ≤ 1000) (hu : u ≤ 3)
    (h1 : FedC c → ∀ x' o, InvB (kP c) (vlw c lim) o (cdl c u) → bstX c x' o → K (x_bestPrice x') c x') (h0 : ¬ FedC c → ∀ x', K (-3) c x') : wp_X4_search lim (nI u) c x K := by
  have h12 := hC.e12
  have c0 : ((0 : Int32)).toNatClampNeg = 0 := by decide
  unfold wp_X4_search
  rw [c0]
  refine ⟨vi (n := 0) (by omega) (by omega), ?_⟩
  rw [hC.ep]
  refine settle_ok hC hC.b128 (fun hF _ b' hb' => ⟨fun _ => ?_, fun e => absurd e n10⟩) (fun hF b' => ⟨fun q => absurd rfl q, fun _ => h0 hF _⟩)
  have hF : FedC c := hF
  show ∃ n23 : Nat, nd_X4_search_23 K n23 lim (nI u) (nI 0) c (xs_row (xsb x (2 + 0) b') (x_row x))
  refine upto (fun n i (r : Nat → Int32) => nd_X4_search_23 K n lim (nI u) (nI i) c (xs_row (xsb x (2 + 0) b') r)) (fun i r => ∀ j, j < i → r j = 0) 12 0 _ (by omega) (fun j h => by omega) ?_ ?_
  · intro n r hr
    refine ⟨fun _ => ?_, fun h => absurd (Int32.le_refl _) h⟩
    refine try5 hC hF hl hu 5 [] (xs_bestPrice (xs_umost (xs_limit (xs_row (xsb x (2 + 0) b') r) lim) (nI u)) (-1 : Int32)) none (fun _ => False) 0 _ (by show u + 1 ≤ 0 + 5; omega) trivial (Nat.zero_le _) (fun w hw => ?_) rfl ⟨rfl, rfl, fun q hq => ?_, fun w hw => ?_, rfl⟩ (fun l h => h.elim) (fun v h => h.elim) (fun l _ v h => h.elim) (fun x' o' hT hI => ?_)
    · have := (hC.2.2.1 w hw).2.2.2.1
      show kW c w + 0 ≤ 6
      omega
    · have e : q = [] := List.suffix_nil.mp hq
      subst e
      show SAw c [] (x_bal (xsb x (2 + 0) b') (2 + 0)) ∧ (0 < u → SCw c [] (x_bal (xsb x (2 + 0) b') (2 + 0)))
      rw [xsb_get]
      unfold SAw SCw kLw
      rw [wL_nil]
      exact ⟨hb'.1, fun _ => hb'.2⟩
    · show (r w).toInt = 0
      rw [hr w hw]; rfl
    · refine h1 hF x' o' (inv_iff hI (fun l => ⟨fun z => ?_, fun z => .inr ⟨l, (List.append_nil l).symm, z.1, z.2⟩⟩)) hT.2.2.2.2
      rcases z with z | ⟨_, _, z1, z2⟩
      · exact z.elim
      · exact ⟨z1, z2⟩
  · intro n i r hi _ hr hW
    refine ⟨fun h => absurd h (nI_ge hi (show (12 : Nat) < 2147483648 by decide)), fun _ => ⟨vi (by omega) (by omega), ?_⟩⟩
    rw [nI_1, cl_ (by omega)]
    refine hW (upd r i 0) (fun j hj => ?_)
    by_cases e : j = i
    · subst e; exact up_s
    · rw [up_n e]; exact hr j (by omega)
end SE
