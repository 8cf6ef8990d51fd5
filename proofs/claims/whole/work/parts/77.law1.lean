/-! THE LAW: both worlds at once -/
abbrev lRaw : Type := (Program × Env) × (State × MethodId × List Frame) × (Method × Code) × (Nat × Nat) × (va_G × (Nat → Nat) × (Nat → ClassId) × (Nat → Nat) × (Nat → ClassId)) × (Nat × Nat × (Nat → Int32))
def lok (q : lRaw) : Prop := match q with
  | ((p, _), (s, m, _), (meth, c), (cells, slots), (D, adx, cAx, adm, cAm), (b, L, xs)) =>
    (p.tables.exec = Jvm.exec ∧ c.code = code ∧ c.maxLocals = 4 ∧ meth.sig.returnType = ret ∧ (∀ w ∈ xB, w.before #[Value.ref b] s = true) ∧ s.vm.findClass R_law = some m.cls ∧ meth.locks = false) ∧ xKs xTX D cAx s ∧ xKs xTM D cAm s ∧
    (va_D (fun q => s.heap.size ≤ q) (xW adx cAx 85 (wX zC zX)) ∧ va_D (fun q => s.heap.size ≤ q) (xW adm cAm 19 (wM zC zM)) ∧ ∀ i j, i < 85 → j < 19 → adx i ≠ adm j) ∧ (va_X b L xs s s.heap ∧ b < s.heap.size) ∧ cells ≤ 600000 ∧ slots ≤ 7302250
def LC : Type := { q : lRaw // lok q }
/-- the references of the law: the script, the two objects -/
def la (b x m : Nat) (k : Nat) : Nat := if k = 0 then b else if k = 1 then x else m
def lXs (κ : LC) : Nat → Int32 := κ.1.2.2.2.2.2.2.2
def lLn (κ : LC) : Nat := κ.1.2.2.2.2.2.2.1
def LW (l : Launch) (κ : LC) (pc : Nat) (lv : List (Nat × Value)) (st : List Value) (c1 : CS) (x : XT) (c2 : CS) (t : MT) : Prop := match κ.1 with
  | ((p, e), (s, m, below), (meth, c), (cells, slots), (D, adx, cAx, adm, cAm), (b, _, _)) =>
    ∀ (H : Heap) (locs : List Loc) (ls : Array Slot), va_P D vwCl (xW adx cAx 85 (wX c1 x)) H → va_P D vwCl (xW adm cAm 19 (wM c2 t)) H → va_S (fun q => s.heap.size ≤ q) s.heap H locs → lv_has ls 4 (lv.map (fun q => (q.1, xv (la b (adx 0) (adm 0)) q.2))) → W p l e room_1 s m #[Value.ref b] below meth c H locs cells slots (lw_Z below #[Value.ref b] s) (F0 m pc ls (st.map (xv (la b (adx 0) (adm 0)))))
section LR
variable {l : Launch} {pc : Nat} {lv : List (Nat × Value)} {st : List Value} {c1 c2 : CS} {x : XT} {t : MT}
theorem lr_aload_n (κ : LC) (j : Nat) {n : Fin 4} {i : Nat} {y : Nat} (hd : decode code pc = .ok (.aload_n n, 1)) (hi : (n : Nat) = i) (hj : lv[j]? = some (i, .ref y)) (k : LW l κ (pc + 1) lv (.ref y :: st) c1 x c2 t) : LW l κ pc lv st c1 x c2 t := by
  obtain ⟨⟨⟨p, e⟩, ⟨s, m, below⟩, ⟨meth, c⟩, ⟨cells, slots⟩, ⟨D, adx, cAx, adm, cAm⟩, ⟨b, L, xs⟩⟩, ⟨hx, hb, hml, hr, hts, hown, hlocks⟩, hK1, hK2, hDD, hX, hcs⟩ := κ
  intro H locs ls hP1 hP2 hS hl
  exact lv_aload_n hx hb hd hi (xlv_at hl j hj) (k H locs ls hP1 hP2 hS hl)
theorem lr_iload_n (κ : LC) (j : Nat) {n : Fin 4} {i : Nat} {y : Int32} (hd : decode code pc = .ok (.iload_n n, 1)) (hi : (n : Nat) = i) (hj : lv[j]? = some (i, .int y)) (k : LW l κ (pc + 1) lv (.int y :: st) c1 x c2 t) : LW l κ pc lv st c1 x c2 t := by
  obtain ⟨⟨⟨p, e⟩, ⟨s, m, below⟩, ⟨meth, c⟩, ⟨cells, slots⟩, ⟨D, adx, cAx, adm, cAm⟩, ⟨b, L, xs⟩⟩, ⟨hx, hb, hml, hr, hts, hown, hlocks⟩, hK1, hK2, hDD, hX, hcs⟩ := κ
  intro H locs ls hP1 hP2 hS hl
  exact lv_iload_n hx hb hd hi (xlv_at hl j hj) (k H locs ls hP1 hP2 hS hl)
theorem lr_iconst (κ : LC) {n : Int} {v : Int32} (hd : decode code pc = .ok (.iconst n, 1)) (hv : Int32.ofInt n = v) (k : LW l κ (pc + 1) lv (.int v :: st) c1 x c2 t) : LW l κ pc lv st c1 x c2 t := by
  obtain ⟨⟨⟨p, e⟩, ⟨s, m, below⟩, ⟨meth, c⟩, ⟨cells, slots⟩, ⟨D, adx, cAx, adm, cAm⟩, ⟨b, L, xs⟩⟩, ⟨hx, hb, hml, hr, hts, hown, hlocks⟩, hK1, hK2, hDD, hX, hcs⟩ := κ
  intro H locs ls hP1 hP2 hS hl
  exact lv_iconst hx hb hd hv (k H locs ls hP1 hP2 hS hl)
theorem lr_bipush (κ : LC) {n : Int} {v : Int32} (hd : decode code pc = .ok (.bipush n, 2)) (hv : (Int8.ofInt n).toInt32 = v) (k : LW l κ (pc + 2) lv (.int v :: st) c1 x c2 t) : LW l κ pc lv st c1 x c2 t := by
  obtain ⟨⟨⟨p, e⟩, ⟨s, m, below⟩, ⟨meth, c⟩, ⟨cells, slots⟩, ⟨D, adx, cAx, adm, cAm⟩, ⟨b, L, xs⟩⟩, ⟨hx, hb, hml, hr, hts, hown, hlocks⟩, hK1, hK2, hDD, hX, hcs⟩ := κ
  intro H locs ls hP1 hP2 hS hl
  exact lv_bipush hx hb hd hv (k H locs ls hP1 hP2 hS hl)
theorem lr_iadd (κ : LC) {y z : Int32} (hd : decode code pc = .ok (.iadd, 1)) (k : LW l κ (pc + 1) lv (.int (y + z) :: st) c1 x c2 t) : LW l κ pc lv (.int z :: .int y :: st) c1 x c2 t := by
  obtain ⟨⟨⟨p, e⟩, ⟨s, m, below⟩, ⟨meth, c⟩, ⟨cells, slots⟩, ⟨D, adx, cAx, adm, cAm⟩, ⟨b, L, xs⟩⟩, ⟨hx, hb, hml, hr, hts, hown, hlocks⟩, hK1, hK2, hDD, hX, hcs⟩ := κ
  intro H locs ls hP1 hP2 hS hl
  exact lv_iadd hx hb hd (k H locs ls hP1 hP2 hS hl)
theorem lr_isub (κ : LC) {y z : Int32} (hd : decode code pc = .ok (.isub, 1)) (k : LW l κ (pc + 1) lv (.int (y - z) :: st) c1 x c2 t) : LW l κ pc lv (.int z :: .int y :: st) c1 x c2 t := by
  obtain ⟨⟨⟨p, e⟩, ⟨s, m, below⟩, ⟨meth, c⟩, ⟨cells, slots⟩, ⟨D, adx, cAx, adm, cAm⟩, ⟨b, L, xs⟩⟩, ⟨hx, hb, hml, hr, hts, hown, hlocks⟩, hK1, hK2, hDD, hX, hcs⟩ := κ
  intro H locs ls hP1 hP2 hS hl
  exact lv_isub hx hb hd (k H locs ls hP1 hP2 hS hl)
theorem lr_iand (κ : LC) {y z : Int32} (hd : decode code pc = .ok (.iand, 1)) (k : LW l κ (pc + 1) lv (.int (y &&& z) :: st) c1 x c2 t) : LW l κ pc lv (.int z :: .int y :: st) c1 x c2 t := by
  obtain ⟨⟨⟨p, e⟩, ⟨s, m, below⟩, ⟨meth, c⟩, ⟨cells, slots⟩, ⟨D, adx, cAx, adm, cAm⟩, ⟨b, L, xs⟩⟩, ⟨hx, hb, hml, hr, hts, hown, hlocks⟩, hK1, hK2, hDD, hX, hcs⟩ := κ
  intro H locs ls hP1 hP2 hS hl
  exact lv_iand hx hb hd (k H locs ls hP1 hP2 hS hl)
theorem lr_sld (κ : LC) {i : Int32} (hin : vp_in i (lLn κ)) (hd : decode code pc = .ok (.iaload, 1)) (k : LW l κ (pc + 1) lv (.int (lXs κ i.toNatClampNeg) :: st) c1 x c2 t) : LW l κ pc lv (.int i :: .ref 0 :: st) c1 x c2 t := by
  obtain ⟨⟨⟨p, e⟩, ⟨s, m, below⟩, ⟨meth, c⟩, ⟨cells, slots⟩, ⟨D, adx, cAx, adm, cAm⟩, ⟨b, L, xs⟩⟩, ⟨hx, hb, hml, hr, hts, hown, hlocks⟩, hK1, hK2, hDD, hX, hcs⟩ := κ
  intro H locs ls hP1 hP2 hS hl
  exact va_sld hx hb hX.1 hX.2 (Nat.not_le.mpr hX.2) hS hin hd (k H locs ls hP1 hP2 hS hl)
theorem lr_slen (κ : LC) (hd : decode code pc = .ok (.arraylength, 1)) (k : LW l κ (pc + 1) lv (.int (Int32.ofNat (lLn κ)) :: st) c1 x c2 t) : LW l κ pc lv (.ref 0 :: st) c1 x c2 t := by
  obtain ⟨⟨⟨p, e⟩, ⟨s, m, below⟩, ⟨meth, c⟩, ⟨cells, slots⟩, ⟨D, adx, cAx, adm, cAm⟩, ⟨b, L, xs⟩⟩, ⟨hx, hb, hml, hr, hts, hown, hlocks⟩, hK1, hK2, hDD, hX, hcs⟩ := κ
  intro H locs ls hP1 hP2 hS hl
  exact va_slen hx hb hX.1 hX.2 (Nat.not_le.mpr hX.2) hS hd (k H locs ls hP1 hP2 hS hl)
theorem lr_icmp_eq (κ : LC) {y z : Int32} {off : Int} {tgt : Nat} (hd : decode code pc = .ok (.if_icmp .eq off, 3)) (ht : (pc : Int) + off = (tgt : Int)) (kt : y = z → LW l κ tgt lv st c1 x c2 t) (kf : ¬ y = z → LW l κ (pc + 3) lv st c1 x c2 t) : LW l κ pc lv (.int z :: .int y :: st) c1 x c2 t := by
  obtain ⟨⟨⟨p, e⟩, ⟨s, m, below⟩, ⟨meth, c⟩, ⟨cells, slots⟩, ⟨D, adx, cAx, adm, cAm⟩, ⟨b, L, xs⟩⟩, ⟨hx, hb, hml, hr, hts, hown, hlocks⟩, hK1, hK2, hDD, hX, hcs⟩ := κ
  intro H locs ls hP1 hP2 hS hl
  exact lv_icmp_eq hx hb hd ht (fun h => kt h H locs ls hP1 hP2 hS hl) (fun h => kf h H locs ls hP1 hP2 hS hl)
theorem lr_icmp_gt (κ : LC) {y z : Int32} {off : Int} {tgt : Nat} (hd : decode code pc = .ok (.if_icmp .gt off, 3)) (ht : (pc : Int) + off = (tgt : Int)) (kt : z < y → LW l κ tgt lv st c1 x c2 t) (kf : ¬ z < y → LW l κ (pc + 3) lv st c1 x c2 t) : LW l κ pc lv (.int z :: .int y :: st) c1 x c2 t := by
  obtain ⟨⟨⟨p, e⟩, ⟨s, m, below⟩, ⟨meth, c⟩, ⟨cells, slots⟩, ⟨D, adx, cAx, adm, cAm⟩, ⟨b, L, xs⟩⟩, ⟨hx, hb, hml, hr, hts, hown, hlocks⟩, hK1, hK2, hDD, hX, hcs⟩ := κ
  intro H locs ls hP1 hP2 hS hl
  exact lv_icmp_gt hx hb hd ht (fun h => kt h H locs ls hP1 hP2 hS hl) (fun h => kf h H locs ls hP1 hP2 hS hl)
theorem lr_lcmp_eq (κ : LC) {y z : Int64} {off : Int} {tgt : Nat} (hd0 : decode code pc = .ok (.lcmp, 1)) (hd : decode code (pc + 1) = .ok (.ifCond .eq off, 3)) (ht : ((pc + 1 : Nat) : Int) + off = (tgt : Int)) (kt : y = z → LW l κ tgt lv st c1 x c2 t) (kf : ¬ y = z → LW l κ (pc + 1 + 3) lv st c1 x c2 t) : LW l κ pc lv (.long z :: .long y :: st) c1 x c2 t := by
  obtain ⟨⟨⟨p, e⟩, ⟨s, m, below⟩, ⟨meth, c⟩, ⟨cells, slots⟩, ⟨D, adx, cAx, adm, cAm⟩, ⟨b, L, xs⟩⟩, ⟨hx, hb, hml, hr, hts, hown, hlocks⟩, hK1, hK2, hDD, hX, hcs⟩ := κ
  intro H locs ls hP1 hP2 hS hl
  exact W.lcmp hx hb hd0 (lv_if_eq hx hb hd ht (fun h => kt ((lg_cmp_eq y z).mp h) H locs ls hP1 hP2 hS hl) (fun h => kf (fun q => h ((lg_cmp_eq y z).mpr q)) H locs ls hP1 hP2 hS hl))
theorem lr_if_eq (κ : LC) {y : Int32} {off : Int} {tgt : Nat} (hd : decode code pc = .ok (.ifCond .eq off, 3)) (ht : (pc : Int) + off = (tgt : Int)) (kt : y = 0 → LW l κ tgt lv st c1 x c2 t) (kf : ¬ y = 0 → LW l κ (pc + 3) lv st c1 x c2 t) : LW l κ pc lv (.int y :: st) c1 x c2 t := by
  obtain ⟨⟨⟨p, e⟩, ⟨s, m, below⟩, ⟨meth, c⟩, ⟨cells, slots⟩, ⟨D, adx, cAx, adm, cAm⟩, ⟨b, L, xs⟩⟩, ⟨hx, hb, hml, hr, hts, hown, hlocks⟩, hK1, hK2, hDD, hX, hcs⟩ := κ
  intro H locs ls hP1 hP2 hS hl
  exact lv_if_eq hx hb hd ht (fun h => kt h H locs ls hP1 hP2 hS hl) (fun h => kf h H locs ls hP1 hP2 hS hl)
theorem lr_goto (κ : LC) {off : Int} {tgt : Nat} (hd : decode code pc = .ok (.goto off, 3)) (ht : (pc : Int) + off = (tgt : Int)) (k : LW l κ tgt lv st c1 x c2 t) : LW l κ pc lv st c1 x c2 t := by
  obtain ⟨⟨⟨p, e⟩, ⟨s, m, below⟩, ⟨meth, c⟩, ⟨cells, slots⟩, ⟨D, adx, cAx, adm, cAm⟩, ⟨b, L, xs⟩⟩, ⟨hx, hb, hml, hr, hts, hown, hlocks⟩, hK1, hK2, hDD, hX, hcs⟩ := κ
  intro H locs ls hP1 hP2 hS hl
  exact lv_goto hx hb hd ht (k H locs ls hP1 hP2 hS hl)
theorem lr_iinc (κ : LC) (j : Nat) (ks : List Nat) {lv' : List (Nat × Value)} {i : Nat} {n : Int} {y v : Int32} (hd : decode code pc = .ok (.iinc i n, 3)) (hj : lv[j]? = some (i, .int y)) (hv : y + Int32.ofInt n = v) (hn : i < 4) (hlv : lv_pick ((i, .int v) :: lv.filter (fun q => !(q.1 == i) && !(q.1 + 1 == i && q.2.category == 2))) ks = lv') (k : LW l κ (pc + 3) lv' st c1 x c2 t) : LW l κ pc lv st c1 x c2 t := by
  obtain ⟨⟨⟨p, e⟩, ⟨s, m, below⟩, ⟨meth, c⟩, ⟨cells, slots⟩, ⟨D, adx, cAx, adm, cAm⟩, ⟨b, L, xs⟩⟩, ⟨hx, hb, hml, hr, hts, hown, hlocks⟩, hK1, hK2, hDD, hX, hcs⟩ := κ
  intro H locs ls hP1 hP2 hS hl
  exact lv_iinc (k := j) (x := y) hx hb hd hl (by rw [List.getElem?_map, hj]; rfl) hv hn rfl (fun ls1 hl1 => k H locs ls1 hP1 hP2 hS (xst1 (v := .int v) ks hl1 hlv))
theorem lr_tsw (κ : LC) {dflt hi : Int} {offs : Array Int} {len : Nat} {y : Int32} (N : Nat) (tg : Nat → Nat) (dt : Nat) (hd : decode code pc = .ok (.tableswitch dflt 0 hi offs, len)) (hhi : hi = (N : Int) - 1) (hN : N < 2 ^ 31) (hof : ∀ j, j < N → ∃ off, offs[j]? = some off ∧ (pc : Int) + off = (tg j : Int)) (hdt : (pc : Int) + dflt = (dt : Int))
    (kt : ∀ j : Nat, j < N → LW l κ (tg j) lv st c1 x c2 t) (kf : LW l κ dt lv st c1 x c2 t) : LW l κ pc lv (.int y :: st) c1 x c2 t := by
  obtain ⟨⟨⟨p, e⟩, ⟨s, m, below⟩, ⟨meth, c⟩, ⟨cells, slots⟩, ⟨D, adx, cAx, adm, cAm⟩, ⟨b, L, xs⟩⟩, ⟨hx, hb, hml, hr, hts, hown, hlocks⟩, hK1, hK2, hDD, hX, hcs⟩ := κ
  intro H locs ls hP1 hP2 hS hl
  by_cases hin : 0 ≤ y.toInt ∧ y.toInt < N
  · have hj : y.toInt.toNat < N := by omega
    obtain ⟨off, ho, ht⟩ := hof _ hj
    exact lv_tableIn hx hb hd (by omega) (by omega) (by rw [show (y.toInt - 0).toNat = y.toInt.toNat by omega]; exact ho) ht (kt _ hj H locs ls hP1 hP2 hS hl)
  · exact lv_tableOut hx hb hd (by omega) hdt (kf H locs ls hP1 hP2 hS hl)
/-- the law's end -/
theorem lr_end (κ : LC) (hd : decode code pc = .ok (.ireturn, 1)) : LW l κ pc lv [.int 1] c1 x c2 t := by
  obtain ⟨⟨⟨p, e⟩, ⟨s, m, below⟩, ⟨meth, c⟩, ⟨cells, slots⟩, ⟨D, adx, cAx, adm, cAm⟩, ⟨b, L, xs⟩⟩, ⟨hx, hb, hml, hr, hts, hown, hlocks⟩, hK1, hK2, hDD, hX, hcs⟩ := κ
  intro H locs ls hP1 hP2 hS hl
  refine va_forget hS.2.2 ?_
  refine W.widen (k := 600000) (n := 7302250) hcs.1 hcs.2 ?_
  exact lw_ret hx hb hr hlocks hd
end LR
