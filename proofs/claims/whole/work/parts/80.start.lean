/-! THE LAW: its start -/
theorem va_P_right {D : va_G} {cl : List vw_C} {w1 w2 : va_W} {H : Heap} (h : va_P D cl (w1 ++ w2) H) : va_P D cl w2 H := fun k q hk => h (w1.length + k) q (by rw [List.getElem?_append_right (by omega), Nat.add_sub_cancel_left]; exact hk)
theorem va_D_right {A : Nat → Prop} {w1 w2 : va_W} (h : va_D A (w1 ++ w2)) : va_D A w2 := by
  have key : ∀ {i : Nat} {p : Nat × va_E}, w2[i]? = some p → (w1 ++ w2)[w1.length + i]? = some p := fun {i p} hi => by
    rw [List.getElem?_append_right (by omega), Nat.add_sub_cancel_left]; exact hi
  exact ⟨fun i j p q hi hj e => by have := h.1 _ _ p q (key hi) (key hj) e; omega, fun k q hk => h.2 _ q (key hk)⟩
theorem va_D_apart {A : Nat → Prop} {w1 w2 : va_W} (h : va_D A (w1 ++ w2)) {i j : Nat} {p q : Nat × va_E} (hi : w1[i]? = some p) (hj : w2[j]? = some q) : p.1 ≠ q.1 := fun e => by
  have hlt := (List.getElem?_eq_some_iff.mp hi).1
  have := h.1 i (w1.length + j) p q (by rw [List.getElem?_append_left hlt]; exact hi) (by rw [List.getElem?_append_right (by omega), Nat.add_sub_cancel_left]; exact hj) e
  omega
theorem CI_z : CI zC := by
  have e1 : kN zC = 2 := by decide
  have e2 : kE zC = 0 := by decide
  have e3 : kB zC = 0 := by decide
  have e4 : kK zC = 0 := by decide
  refine ⟨⟨by omega, by omega, by rw [e1]; rfl⟩, ⟨by omega, by rw [e2]; rfl⟩, fun w hw => absurd hw (by omega), fun k _ => ?_, ⟨by rw [e1, e3]; decide, by rw [e3]; rfl⟩, ⟨by omega, by rw [e4]; rfl, fun b hb => absurd hb (by omega)⟩, by decide, by decide⟩
  have : kQ zC k = 0 := rfl
  omega
set_option maxHeartbeats 4000000 in
set_option maxRecDepth 100000 in
/-- YOUR PART: from the entry, for every script of at most 2560 ints, the law comes to its end with true ('hflags': the launch's flags, for a law that throws: no stack traces) -/
theorem whole_start {p : Program} {e : Env} {s : State} {m : MethodId} {below : List Frame} {meth : Method} {c : Code} (l : Launch) (hflags : l.flags = flags0) {b L : Nat} {xs : Nat → Int32} (hL : L ≤ 2560) (C0 : lw_At p s m meth c b L xs) : W p l e room_1 s m #[Value.ref b] below meth c s.heap [] 0 0 (lw_Z below #[Value.ref b] s) (entryFrame m ([Value.ref b] : List Value).toArray 4) := by
  obtain ⟨hx, hb, hr, hml, hown, htsL, hX, hbl, hlocks, -⟩ := C0
  have hts : ∀ w ∈ xB, w.before #[Value.ref b] s = true := fun w hw => htsL w (xB_tbl hw)
  obtain ⟨d0, i0, k0⟩ := u_known hts xin0 (hts _ kw_1_102)
  obtain ⟨d1, i1, k1⟩ := u_known hts xin1 (hts _ kw_1_72)
  obtain ⟨d2, i2, k2⟩ := u_known hts xin2 (hts _ kw_1_20)
  obtain ⟨d3, i3, k3⟩ := u_known hts xin3 (hts _ kw_1_165)
  obtain ⟨d4, i4, k4⟩ := u_known hts xin4 (hts _ kw_1_133)
  obtain ⟨d5, i5, k5⟩ := u_known hts xin5 (hts _ kw_1_12)
  obtain ⟨d6, i6, k6⟩ := u_known hts xin6 (hts _ kw_3_18)
  have hKC : ∀ (j : Nat) (q : vw_C), vwCl[j]? = some q → u_Kn s q.1 q.2.1 q.2.2 ([d0, d1, d2, d3, d4, d5, d6].getD j 0) (([i0, i1, i2, i3, i4, i5, i6] : List (Nat → Nat)).getD j (fun _ => 0)) := fun j q hq => by
    have hj : j < 7 := (List.getElem?_eq_some_iff.mp hq).1
    rcases (show j = 0 ∨ j = 1 ∨ j = 2 ∨ j = 3 ∨ j = 4 ∨ j = 5 ∨ j = 6 by omega) with rfl | rfl | rfl | rfl | rfl | rfl | rfl
    · cases hq; exact k0
    · cases hq; exact k1
    · cases hq; exact k2
    · cases hq; exact k3
    · cases hq; exact k4
    · cases hq; exact k5
    · cases hq; exact k6
  generalize hDe : ((fun j => [d0, d1, d2, d3, d4, d5, d6].getD j 0, fun j => ([i0, i1, i2, i3, i4, i5, i6] : List (Nat → Nat)).getD j (fun _ => 0)) : va_G) = D
  have hKC : ∀ (j : Nat) (q : vw_C), vwCl[j]? = some q → u_Kn s q.1 q.2.1 q.2.2 (D.1 j) (D.2 j) := fun j q hq => by rw [← hDe]; exact hKC j q hq
  have hN : ∀ w ∈ xNest, va_Nw w s := fun w hw => va_Nw.of (xNest_tabs hw) (htsL w (List.mem_append_right _ (List.mem_filter.mp hw).1))
  have hKc : xKc D s := ⟨hKC, hN, va_AOA.of (htsL _ (List.mem_append_right _ kw_1_108)), va_AO.of (htsL _ (List.mem_append_right _ kw_1_139))⟩
  have hl := lv_entry ([.ref b]) (n := 4) (Nat.le_of_ble_eq_true rfl)
  rw [lg_entry_eq]
  generalize (lg_sl ([.ref b]) ++ List.replicate (4 - (lg_sl ([.ref b])).length) Slot.unset).toArray = ls at hl ⊢
  have hl : lv_has ls 4 [(0, .ref b)] := hl
  have hP0 : va_P D vwCl [] s.heap := fun k q h => by simp at h
  have hD0 : va_D (fun q => s.heap.size ≤ q) [] := ⟨fun i j p q h => by simp at h, fun k q h => by simp at h⟩
  refine xnew (A := fun q => s.heap.size ≤ q) (ws := []) (nL := 4) (ci := 5) hx hb hml hown hts hKc hP0 hD0 va_S.rf (fun q h => h) xc5 kw_1_11 kw_1_12 kw_1_1 (fun j hj => by rcases (show j = 0 ∨ j = 1 ∨ j = 2 ∨ j = 3 ∨ j = 4 ∨ j = 5 by omega) with rfl | rfl | rfl | rfl | rfl | rfl <;> rfl) (y := yX5_init) rfl (cn_X5 l) (.inr kw_1_13) kw_1_15 kw_1_14 rfl ⟨by decide +kernel, by decide +kernel, by decide +kernel⟩ (Nat.le_of_ble_eq_true rfl) (Nat.le_of_ble_eq_true rfl) (Nat.le_of_ble_eq_true rfl) (Nat.le_of_ble_eq_true rfl) dL_law_0 dL_law_3 dL_law_4 hl.1 (Nat.le_of_ble_eq_true rfl) (fun adx cAx H locs hP hD hTx hS => ?_)
  rw [List.nil_append] at hP hD
  refine lv_astore_n (lv' := [(1, .ref (adx 0)), (0, .ref b)]) hx hb dL_law_7 rfl hl (by decide) rfl (fun ls hl => ?_)
  refine xnew (A := fun q => s.heap.size ≤ q) (ws := xS adx cAx 0 85 (wX zC zX)) (nL := 4) (ci := 6) hx hb hml hown hts hKc hP hD hS (fun q h => h) xc6 kw_3_17 kw_3_18 kw_1_7 (fun j hj => by rcases (show j = 0 ∨ j = 1 ∨ j = 2 ∨ j = 3 ∨ j = 4 ∨ j = 5 ∨ j = 6 ∨ j = 7 ∨ j = 8 ∨ j = 9 ∨ j = 10 ∨ j = 11 ∨ j = 12 ∨ j = 13 ∨ j = 14 ∨ j = 15 ∨ j = 16 ∨ j = 17 ∨ j = 18 ∨ j = 19 ∨ j = 20 ∨ j = 21 ∨ j = 22 ∨ j = 23 ∨ j = 24 ∨ j = 25 by omega) with rfl | rfl | rfl | rfl | rfl | rfl | rfl | rfl | rfl | rfl | rfl | rfl | rfl | rfl | rfl | rfl | rfl | rfl | rfl | rfl | rfl | rfl | rfl | rfl | rfl | rfl <;> rfl) (y := yX6_init) rfl (cn_X6 l) (.inr kw_3_19) kw_3_21 kw_3_20 rfl ⟨by decide +kernel, by decide +kernel, by decide +kernel⟩ (Nat.le_of_ble_eq_true rfl) (Nat.le_of_ble_eq_true rfl) (Nat.le_of_ble_eq_true rfl) (Nat.le_of_ble_eq_true rfl) dL_law_8 dL_law_11 dL_law_12 hl.1 (Nat.le_of_ble_eq_true rfl) (fun adm cAm H locs hP hD hTm hS => ?_)
  refine lv_astore_n (lv' := [(2, .ref (adm 0)), (1, .ref (adx 0)), (0, .ref b)]) hx hb dL_law_15 rfl hl (by decide) rfl (fun ls hl => ?_)
  refine lv_iconst (v := 0) hx hb dL_law_16 (by decide) ?_
  refine lv_istore_n (lv' := [(3, .int 0), (2, .ref (adm 0)), (1, .ref (adx 0)), (0, .ref b)]) hx hb dL_law_17 rfl hl (by decide) rfl (fun ls hl => ?_)
  have hl2 : lv_has ls 4 [(3, .int 0), (0, .ref b), (1, .ref (adx 0)), (2, .ref (adm 0))] := lv_sub hl [0, 3, 2, 1] rfl
  have hP1 := va_P_left hP
  have hP2 := va_P_right hP
  have hD1 := va_D_left hD
  have hD2 := va_D_right hD
  have hap : ∀ i j, i < 85 → j < 19 → adx i ≠ adm j := fun i j hi hj => by
    have h1 : (xS adx cAx 0 85 (wX zC zX))[i]? = some (adx i, xe adx cAx i (wX zC zX i)) := by rw [xS_W]; exact xW_get hi
    have h2 : (xS adm cAm 0 19 (wM zC zM))[j]? = some (adm j, xe adm cAm j (wM zC zM j)) := by rw [xS_W]; exact xW_get hj
    exact va_D_apart hD h1 h2
  rw [xS_W] at hP1 hP2 hD1 hD2
  have hK1 : xKs xTX D cAx s := ⟨hKC, fun k ty hk ht => hTx k (Nat.zero_le _) (by show k < 0 + 85; exact Nat.lt_of_lt_of_le hk (by decide)) ty ht, hN⟩
  have hK2 : xKs xTM D cAm s := ⟨hKC, fun k ty hk ht => hTm k (Nat.zero_le _) (by show k < 0 + 19; exact Nat.lt_of_lt_of_le hk (by decide)) ty ht, hN⟩
  have hloop := l_loop (l := l) ⟨((p, e), (s, m, below), (meth, c), (0 + 1 + 84 + 1 + 18, 0 + 6 + 651 + 26 + 231), (D, adx, cAx, adm, cAm), (b, L, xs)), ⟨⟨hx, hb, hml, hr, hts, hown, hlocks⟩, hK1, hK2, ⟨hD1, hD2, hap⟩, ⟨hX, hbl⟩, (Nat.le_of_ble_eq_true rfl : 0 + 1 + 84 + 1 + 18 ≤ 600000), (Nat.le_of_ble_eq_true rfl : 0 + 6 + 651 + 26 + 231 ≤ 7302250)⟩⟩ hL 600 0 zC zX zM CI_z (by show L < 0 + 5 * 600; omega) (by omega)
  exact hloop H locs ls hP1 hP2 hS hl2
