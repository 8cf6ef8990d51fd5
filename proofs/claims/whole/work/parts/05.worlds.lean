/-! THE WORLDS: c : CS, what both hold alike (knots, wires, pads, pulls, wires' ends, widths, prices, blocks, budget); t : MT, the reference's scratch; x : XT, the class's scratch; its six balances BS: here, trial, steps 0 to 3 -/
abbrev CS : Type := Int32 × Int32 × Int32 × (Nat → Int32) × (Nat → Int32) × (Nat → Int32) × (Nat → Int32) × (Nat → Int32) × Int32 × Int32 × (Nat → Int32) × (Nat → Int32)
abbrev c_n (z : CS) : Int32 := z.1
abbrev c_wires (z : CS) : Int32 := z.2.1
abbrev c_pads (z : CS) : Int32 := z.2.2.1
abbrev c_pulls (z : CS) : (Nat → Int32) := z.2.2.2.1
abbrev c_from (z : CS) : (Nat → Int32) := z.2.2.2.2.1
abbrev c_to (z : CS) : (Nat → Int32) := z.2.2.2.2.2.1
abbrev c_wide (z : CS) : (Nat → Int32) := z.2.2.2.2.2.2.1
abbrev c_price (z : CS) : (Nat → Int32) := z.2.2.2.2.2.2.2.1
abbrev c_nb (z : CS) : Int32 := z.2.2.2.2.2.2.2.2.1
abbrev c_budget (z : CS) : Int32 := z.2.2.2.2.2.2.2.2.2.1
abbrev c_sits (z : CS) : (Nat → Int32) := z.2.2.2.2.2.2.2.2.2.2.1
abbrev c_most (z : CS) : (Nat → Int32) := z.2.2.2.2.2.2.2.2.2.2.2
abbrev cs_n (z : CS) (v : Int32) : CS := (v, z.2)
abbrev cs_wires (z : CS) (v : Int32) : CS := (z.1, v, z.2.2)
abbrev cs_pads (z : CS) (v : Int32) : CS := (z.1, z.2.1, v, z.2.2.2)
abbrev cs_pulls (z : CS) (v : (Nat → Int32)) : CS := (z.1, z.2.1, z.2.2.1, v, z.2.2.2.2)
abbrev cs_from (z : CS) (v : (Nat → Int32)) : CS := (z.1, z.2.1, z.2.2.1, z.2.2.2.1, v, z.2.2.2.2.2)
abbrev cs_to (z : CS) (v : (Nat → Int32)) : CS := (z.1, z.2.1, z.2.2.1, z.2.2.2.1, z.2.2.2.2.1, v, z.2.2.2.2.2.2)
abbrev cs_wide (z : CS) (v : (Nat → Int32)) : CS := (z.1, z.2.1, z.2.2.1, z.2.2.2.1, z.2.2.2.2.1, z.2.2.2.2.2.1, v, z.2.2.2.2.2.2.2)
abbrev cs_price (z : CS) (v : (Nat → Int32)) : CS := (z.1, z.2.1, z.2.2.1, z.2.2.2.1, z.2.2.2.2.1, z.2.2.2.2.2.1, z.2.2.2.2.2.2.1, v, z.2.2.2.2.2.2.2.2)
abbrev cs_nb (z : CS) (v : Int32) : CS := (z.1, z.2.1, z.2.2.1, z.2.2.2.1, z.2.2.2.2.1, z.2.2.2.2.2.1, z.2.2.2.2.2.2.1, z.2.2.2.2.2.2.2.1, v, z.2.2.2.2.2.2.2.2.2)
abbrev cs_budget (z : CS) (v : Int32) : CS := (z.1, z.2.1, z.2.2.1, z.2.2.2.1, z.2.2.2.2.1, z.2.2.2.2.2.1, z.2.2.2.2.2.2.1, z.2.2.2.2.2.2.2.1, z.2.2.2.2.2.2.2.2.1, v, z.2.2.2.2.2.2.2.2.2.2)
abbrev cs_sits (z : CS) (v : (Nat → Int32)) : CS := (z.1, z.2.1, z.2.2.1, z.2.2.2.1, z.2.2.2.2.1, z.2.2.2.2.2.1, z.2.2.2.2.2.2.1, z.2.2.2.2.2.2.2.1, z.2.2.2.2.2.2.2.2.1, z.2.2.2.2.2.2.2.2.2.1, v, z.2.2.2.2.2.2.2.2.2.2.2)
abbrev cs_most (z : CS) (v : (Nat → Int32)) : CS := (z.1, z.2.1, z.2.2.1, z.2.2.2.1, z.2.2.2.2.1, z.2.2.2.2.2.1, z.2.2.2.2.2.2.1, z.2.2.2.2.2.2.2.1, z.2.2.2.2.2.2.2.2.1, z.2.2.2.2.2.2.2.2.2.1, z.2.2.2.2.2.2.2.2.2.2.1, v)
abbrev MT : Type := Int32 × Int64 × Int64 × (Nat → Int64) × (Nat → Int32) × (Nat → Int32) × (Nat → Int64) × (Nat → Int32) × (Nat → Int32) × (Nat → Int32) × (Nat → Int32) × (Nat → Int32) × (Nat → Int32) × (Nat → Int32)
abbrev m_side (z : MT) : Int32 := z.1
abbrev m_under (z : MT) : Int64 := z.2.1
abbrev m_woken (z : MT) : Int64 := z.2.2.1
abbrev m_square (z : MT) : (Nat → Int64) := z.2.2.2.1
abbrev m_rows (z : MT) : (Nat → Int32) := z.2.2.2.2.1
abbrev m_columns (z : MT) : (Nat → Int32) := z.2.2.2.2.2.1
abbrev m_resist (z : MT) : (Nat → Int64) := z.2.2.2.2.2.2.1
abbrev m_gets (z : MT) : (Nat → Int32) := z.2.2.2.2.2.2.2.1
abbrev m_picked (z : MT) : (Nat → Int32) := z.2.2.2.2.2.2.2.2.1
abbrev m_more (z : MT) : (Nat → Int32) := z.2.2.2.2.2.2.2.2.2.1
abbrev m_bestMore (z : MT) : (Nat → Int32) := z.2.2.2.2.2.2.2.2.2.2.1
abbrev m_order (z : MT) : (Nat → Int32) := z.2.2.2.2.2.2.2.2.2.2.2.1
abbrev m_bestOrder (z : MT) : (Nat → Int32) := z.2.2.2.2.2.2.2.2.2.2.2.2.1
abbrev m_now (z : MT) : (Nat → Int32) := z.2.2.2.2.2.2.2.2.2.2.2.2.2
abbrev ms_side (z : MT) (v : Int32) : MT := (v, z.2)
abbrev ms_under (z : MT) (v : Int64) : MT := (z.1, v, z.2.2)
abbrev ms_woken (z : MT) (v : Int64) : MT := (z.1, z.2.1, v, z.2.2.2)
abbrev ms_square (z : MT) (v : (Nat → Int64)) : MT := (z.1, z.2.1, z.2.2.1, v, z.2.2.2.2)
abbrev ms_rows (z : MT) (v : (Nat → Int32)) : MT := (z.1, z.2.1, z.2.2.1, z.2.2.2.1, v, z.2.2.2.2.2)
abbrev ms_columns (z : MT) (v : (Nat → Int32)) : MT := (z.1, z.2.1, z.2.2.1, z.2.2.2.1, z.2.2.2.2.1, v, z.2.2.2.2.2.2)
abbrev ms_resist (z : MT) (v : (Nat → Int64)) : MT := (z.1, z.2.1, z.2.2.1, z.2.2.2.1, z.2.2.2.2.1, z.2.2.2.2.2.1, v, z.2.2.2.2.2.2.2)
abbrev ms_gets (z : MT) (v : (Nat → Int32)) : MT := (z.1, z.2.1, z.2.2.1, z.2.2.2.1, z.2.2.2.2.1, z.2.2.2.2.2.1, z.2.2.2.2.2.2.1, v, z.2.2.2.2.2.2.2.2)
abbrev ms_picked (z : MT) (v : (Nat → Int32)) : MT := (z.1, z.2.1, z.2.2.1, z.2.2.2.1, z.2.2.2.2.1, z.2.2.2.2.2.1, z.2.2.2.2.2.2.1, z.2.2.2.2.2.2.2.1, v, z.2.2.2.2.2.2.2.2.2)
abbrev ms_more (z : MT) (v : (Nat → Int32)) : MT := (z.1, z.2.1, z.2.2.1, z.2.2.2.1, z.2.2.2.2.1, z.2.2.2.2.2.1, z.2.2.2.2.2.2.1, z.2.2.2.2.2.2.2.1, z.2.2.2.2.2.2.2.2.1, v, z.2.2.2.2.2.2.2.2.2.2)
abbrev ms_bestMore (z : MT) (v : (Nat → Int32)) : MT := (z.1, z.2.1, z.2.2.1, z.2.2.2.1, z.2.2.2.2.1, z.2.2.2.2.2.1, z.2.2.2.2.2.2.1, z.2.2.2.2.2.2.2.1, z.2.2.2.2.2.2.2.2.1, z.2.2.2.2.2.2.2.2.2.1, v, z.2.2.2.2.2.2.2.2.2.2.2)
abbrev ms_order (z : MT) (v : (Nat → Int32)) : MT := (z.1, z.2.1, z.2.2.1, z.2.2.2.1, z.2.2.2.2.1, z.2.2.2.2.2.1, z.2.2.2.2.2.2.1, z.2.2.2.2.2.2.2.1, z.2.2.2.2.2.2.2.2.1, z.2.2.2.2.2.2.2.2.2.1, z.2.2.2.2.2.2.2.2.2.2.1, v, z.2.2.2.2.2.2.2.2.2.2.2.2)
abbrev ms_bestOrder (z : MT) (v : (Nat → Int32)) : MT := (z.1, z.2.1, z.2.2.1, z.2.2.2.1, z.2.2.2.2.1, z.2.2.2.2.2.1, z.2.2.2.2.2.2.1, z.2.2.2.2.2.2.2.1, z.2.2.2.2.2.2.2.2.1, z.2.2.2.2.2.2.2.2.2.1, z.2.2.2.2.2.2.2.2.2.2.1, z.2.2.2.2.2.2.2.2.2.2.2.1, v, z.2.2.2.2.2.2.2.2.2.2.2.2.2)
abbrev ms_now (z : MT) (v : (Nat → Int32)) : MT := (z.1, z.2.1, z.2.2.1, z.2.2.2.1, z.2.2.2.2.1, z.2.2.2.2.2.1, z.2.2.2.2.2.2.1, z.2.2.2.2.2.2.2.1, z.2.2.2.2.2.2.2.2.1, z.2.2.2.2.2.2.2.2.2.1, z.2.2.2.2.2.2.2.2.2.2.1, z.2.2.2.2.2.2.2.2.2.2.2.1, z.2.2.2.2.2.2.2.2.2.2.2.2.1, v)
abbrev BS : Type := Int32 × Int64 × (Nat → Nat → Int64) × (Nat → Int64) × (Nat → Int64)
abbrev b_knots (z : BS) : Int32 := z.1
abbrev b_below (z : BS) : Int64 := z.2.1
abbrev b_cell (z : BS) : (Nat → Nat → Int64) := z.2.2.1
abbrev b_above (z : BS) : (Nat → Int64) := z.2.2.2.1
abbrev b_spread (z : BS) : (Nat → Int64) := z.2.2.2.2
abbrev bs_knots (z : BS) (v : Int32) : BS := (v, z.2)
abbrev bs_below (z : BS) (v : Int64) : BS := (z.1, v, z.2.2)
abbrev bs_cell (z : BS) (v : (Nat → Nat → Int64)) : BS := (z.1, z.2.1, v, z.2.2.2)
abbrev bs_above (z : BS) (v : (Nat → Int64)) : BS := (z.1, z.2.1, z.2.2.1, v, z.2.2.2.2)
abbrev bs_spread (z : BS) (v : (Nat → Int64)) : BS := (z.1, z.2.1, z.2.2.1, z.2.2.2.1, v)
abbrev XT : Type := (Nat → Int32) × (Nat → BS) × (Nat → Int32) × (Nat → Int32) × Int32 × Int32 × Int32 × Int32 × (Nat → Int64) × (Nat → Int64) × (Nat → Int32)
abbrev x_gets (z : XT) : (Nat → Int32) := z.1
abbrev x_bal (z : XT) : (Nat → BS) := z.2.1
abbrev x_row (z : XT) : (Nat → Int32) := z.2.2.1
abbrev x_bestRow (z : XT) : (Nat → Int32) := z.2.2.2.1
abbrev x_bestPrice (z : XT) : Int32 := z.2.2.2.2.1
abbrev x_bestMore (z : XT) : Int32 := z.2.2.2.2.2.1
abbrev x_limit (z : XT) : Int32 := z.2.2.2.2.2.2.1
abbrev x_umost (z : XT) : Int32 := z.2.2.2.2.2.2.2.1
abbrev x_least (z : XT) : (Nat → Int64) := z.2.2.2.2.2.2.2.2.1
abbrev x_awake (z : XT) : (Nat → Int64) := z.2.2.2.2.2.2.2.2.2.1
abbrev x_order (z : XT) : (Nat → Int32) := z.2.2.2.2.2.2.2.2.2.2
abbrev xs_gets (z : XT) (v : (Nat → Int32)) : XT := (v, z.2)
abbrev xs_bal (z : XT) (v : (Nat → BS)) : XT := (z.1, v, z.2.2)
abbrev xs_row (z : XT) (v : (Nat → Int32)) : XT := (z.1, z.2.1, v, z.2.2.2)
abbrev xs_bestRow (z : XT) (v : (Nat → Int32)) : XT := (z.1, z.2.1, z.2.2.1, v, z.2.2.2.2)
abbrev xs_bestPrice (z : XT) (v : Int32) : XT := (z.1, z.2.1, z.2.2.1, z.2.2.2.1, v, z.2.2.2.2.2)
abbrev xs_bestMore (z : XT) (v : Int32) : XT := (z.1, z.2.1, z.2.2.1, z.2.2.2.1, z.2.2.2.2.1, v, z.2.2.2.2.2.2)
abbrev xs_limit (z : XT) (v : Int32) : XT := (z.1, z.2.1, z.2.2.1, z.2.2.2.1, z.2.2.2.2.1, z.2.2.2.2.2.1, v, z.2.2.2.2.2.2.2)
abbrev xs_umost (z : XT) (v : Int32) : XT := (z.1, z.2.1, z.2.2.1, z.2.2.2.1, z.2.2.2.2.1, z.2.2.2.2.2.1, z.2.2.2.2.2.2.1, v, z.2.2.2.2.2.2.2.2)
abbrev xs_least (z : XT) (v : (Nat → Int64)) : XT := (z.1, z.2.1, z.2.2.1, z.2.2.2.1, z.2.2.2.2.1, z.2.2.2.2.2.1, z.2.2.2.2.2.2.1, z.2.2.2.2.2.2.2.1, v, z.2.2.2.2.2.2.2.2.2)
abbrev xs_awake (z : XT) (v : (Nat → Int64)) : XT := (z.1, z.2.1, z.2.2.1, z.2.2.2.1, z.2.2.2.2.1, z.2.2.2.2.2.1, z.2.2.2.2.2.2.1, z.2.2.2.2.2.2.2.1, z.2.2.2.2.2.2.2.2.1, v, z.2.2.2.2.2.2.2.2.2.2)
abbrev xs_order (z : XT) (v : (Nat → Int32)) : XT := (z.1, z.2.1, z.2.2.1, z.2.2.2.1, z.2.2.2.2.1, z.2.2.2.2.2.1, z.2.2.2.2.2.2.1, z.2.2.2.2.2.2.2.1, z.2.2.2.2.2.2.2.2.1, z.2.2.2.2.2.2.2.2.2.1, v)
def mFs (c : CS) (t : MT) : List Value := [.int (c_n c), .int (c_wires c), .ref 1, .ref 2, .ref 3, .ref 4, .int (c_pads c), .ref 5, .int (c_nb c), .ref 6, .ref 7, .int (c_budget c), .ref 8, .int (m_side t), .ref 9, .ref 10, .ref 11, .long (m_under t), .ref 12, .ref 13, .ref 14, .ref 15, .ref 16, .ref 17, .ref 18, .long (m_woken t)]
def wM (c : CS) (t : MT) : xWd := fun k => match k with
  | 0 => xO 6 (mFs c t)
  | 1 => xI 12 (c_from c)
  | 2 => xI 12 (c_to c)
  | 3 => xI 12 (c_wide c)
  | 4 => xI 12 (c_price c)
  | 5 => xI 7 (c_pulls c)
  | 6 => xI 6 (c_sits c)
  | 7 => xI 6 (c_most c)
  | 8 => xJ 49 (m_square t)
  | 9 => xI 7 (m_rows t)
  | 10 => xI 7 (m_columns t)
  | 11 => xJ 49 (m_resist t)
  | 12 => xI 6 (m_gets t)
  | 13 => xI 3 (m_picked t)
  | 14 => xI 12 (m_more t)
  | 15 => xI 12 (m_bestMore t)
  | 16 => xI 6 (m_order t)
  | 17 => xI 6 (m_bestOrder t)
  | 18 => xI 7 (m_now t)
  | _ => xI 0 (fun _ => 0)
def xTM : xKd := (19, fun k => match k with
  | 0 => none
  | 1 => some .int
  | 2 => some .int
  | 3 => some .int
  | 4 => some .int
  | 5 => some .int
  | 6 => some .int
  | 7 => some .int
  | 8 => some .long
  | 9 => some .int
  | 10 => some .int
  | 11 => some .long
  | 12 => some .int
  | 13 => some .int
  | 14 => some .int
  | 15 => some .int
  | 16 => some .int
  | 17 => some .int
  | 18 => some .int
  | _ => none)
theorem wMf_n (c : CS) (t : MT) (v : Int32) : va_up (wM c t) 0 (xO 6 ((mFs c t).set 0 (.int v))) = wM (cs_n c v) t := by
  funext k
  match k with
  | 0 => rfl
  | 1 => rfl
  | 2 => rfl
  | 3 => rfl
  | 4 => rfl
  | 5 => rfl
  | 6 => rfl
  | 7 => rfl
  | 8 => rfl
  | 9 => rfl
  | 10 => rfl
  | 11 => rfl
  | 12 => rfl
  | 13 => rfl
  | 14 => rfl
  | 15 => rfl
  | 16 => rfl
  | 17 => rfl
  | 18 => rfl
  | n + 19 => rfl
theorem wMf_wires (c : CS) (t : MT) (v : Int32) : va_up (wM c t) 0 (xO 6 ((mFs c t).set 1 (.int v))) = wM (cs_wires c v) t := by
  funext k
  match k with
  | 0 => rfl
  | 1 => rfl
  | 2 => rfl
  | 3 => rfl
  | 4 => rfl
  | 5 => rfl
  | 6 => rfl
  | 7 => rfl
  | 8 => rfl
  | 9 => rfl
  | 10 => rfl
  | 11 => rfl
  | 12 => rfl
  | 13 => rfl
  | 14 => rfl
  | 15 => rfl
  | 16 => rfl
  | 17 => rfl
  | 18 => rfl
  | n + 19 => rfl
theorem wMa_from (c : CS) (t : MT) (v : (Nat → Int32)) : va_up (wM c t) 1 (xI 12 v) = wM (cs_from c v) t := by
  funext k
  match k with
  | 0 => rfl
  | 1 => rfl
  | 2 => rfl
  | 3 => rfl
  | 4 => rfl
  | 5 => rfl
  | 6 => rfl
  | 7 => rfl
  | 8 => rfl
  | 9 => rfl
  | 10 => rfl
  | 11 => rfl
  | 12 => rfl
  | 13 => rfl
  | 14 => rfl
  | 15 => rfl
  | 16 => rfl
  | 17 => rfl
  | 18 => rfl
  | n + 19 => rfl
theorem wMa_to (c : CS) (t : MT) (v : (Nat → Int32)) : va_up (wM c t) 2 (xI 12 v) = wM (cs_to c v) t := by
  funext k
  match k with
  | 0 => rfl
  | 1 => rfl
  | 2 => rfl
  | 3 => rfl
  | 4 => rfl
  | 5 => rfl
  | 6 => rfl
  | 7 => rfl
  | 8 => rfl
  | 9 => rfl
  | 10 => rfl
  | 11 => rfl
  | 12 => rfl
  | 13 => rfl
  | 14 => rfl
  | 15 => rfl
  | 16 => rfl
  | 17 => rfl
  | 18 => rfl
  | n + 19 => rfl
theorem wMa_wide (c : CS) (t : MT) (v : (Nat → Int32)) : va_up (wM c t) 3 (xI 12 v) = wM (cs_wide c v) t := by
  funext k
  match k with
  | 0 => rfl
  | 1 => rfl
  | 2 => rfl
  | 3 => rfl
  | 4 => rfl
  | 5 => rfl
  | 6 => rfl
  | 7 => rfl
  | 8 => rfl
  | 9 => rfl
  | 10 => rfl
  | 11 => rfl
  | 12 => rfl
  | 13 => rfl
  | 14 => rfl
  | 15 => rfl
  | 16 => rfl
  | 17 => rfl
  | 18 => rfl
  | n + 19 => rfl
theorem wMa_price (c : CS) (t : MT) (v : (Nat → Int32)) : va_up (wM c t) 4 (xI 12 v) = wM (cs_price c v) t := by
  funext k
  match k with
  | 0 => rfl
  | 1 => rfl
  | 2 => rfl
  | 3 => rfl
  | 4 => rfl
  | 5 => rfl
  | 6 => rfl
  | 7 => rfl
  | 8 => rfl
  | 9 => rfl
  | 10 => rfl
  | 11 => rfl
  | 12 => rfl
  | 13 => rfl
  | 14 => rfl
  | 15 => rfl
  | 16 => rfl
  | 17 => rfl
  | 18 => rfl
  | n + 19 => rfl
theorem wMf_pads (c : CS) (t : MT) (v : Int32) : va_up (wM c t) 0 (xO 6 ((mFs c t).set 6 (.int v))) = wM (cs_pads c v) t := by
  funext k
  match k with
  | 0 => rfl
  | 1 => rfl
  | 2 => rfl
  | 3 => rfl
  | 4 => rfl
  | 5 => rfl
  | 6 => rfl
  | 7 => rfl
  | 8 => rfl
  | 9 => rfl
  | 10 => rfl
  | 11 => rfl
  | 12 => rfl
  | 13 => rfl
  | 14 => rfl
  | 15 => rfl
  | 16 => rfl
  | 17 => rfl
  | 18 => rfl
  | n + 19 => rfl
theorem wMa_pulls (c : CS) (t : MT) (v : (Nat → Int32)) : va_up (wM c t) 5 (xI 7 v) = wM (cs_pulls c v) t := by
  funext k
  match k with
  | 0 => rfl
  | 1 => rfl
  | 2 => rfl
  | 3 => rfl
  | 4 => rfl
  | 5 => rfl
  | 6 => rfl
  | 7 => rfl
  | 8 => rfl
  | 9 => rfl
  | 10 => rfl
  | 11 => rfl
  | 12 => rfl
  | 13 => rfl
  | 14 => rfl
  | 15 => rfl
  | 16 => rfl
  | 17 => rfl
  | 18 => rfl
  | n + 19 => rfl
theorem wMf_nb (c : CS) (t : MT) (v : Int32) : va_up (wM c t) 0 (xO 6 ((mFs c t).set 8 (.int v))) = wM (cs_nb c v) t := by
  funext k
  match k with
  | 0 => rfl
  | 1 => rfl
  | 2 => rfl
  | 3 => rfl
  | 4 => rfl
  | 5 => rfl
  | 6 => rfl
  | 7 => rfl
  | 8 => rfl
  | 9 => rfl
  | 10 => rfl
  | 11 => rfl
  | 12 => rfl
  | 13 => rfl
  | 14 => rfl
  | 15 => rfl
  | 16 => rfl
  | 17 => rfl
  | 18 => rfl
  | n + 19 => rfl
theorem wMa_sits (c : CS) (t : MT) (v : (Nat → Int32)) : va_up (wM c t) 6 (xI 6 v) = wM (cs_sits c v) t := by
  funext k
  match k with
  | 0 => rfl
  | 1 => rfl
  | 2 => rfl
  | 3 => rfl
  | 4 => rfl
  | 5 => rfl
  | 6 => rfl
  | 7 => rfl
  | 8 => rfl
  | 9 => rfl
  | 10 => rfl
  | 11 => rfl
  | 12 => rfl
  | 13 => rfl
  | 14 => rfl
  | 15 => rfl
  | 16 => rfl
  | 17 => rfl
  | 18 => rfl
  | n + 19 => rfl
theorem wMa_most (c : CS) (t : MT) (v : (Nat → Int32)) : va_up (wM c t) 7 (xI 6 v) = wM (cs_most c v) t := by
  funext k
  match k with
  | 0 => rfl
  | 1 => rfl
  | 2 => rfl
  | 3 => rfl
  | 4 => rfl
  | 5 => rfl
  | 6 => rfl
  | 7 => rfl
  | 8 => rfl
  | 9 => rfl
  | 10 => rfl
  | 11 => rfl
  | 12 => rfl
  | 13 => rfl
  | 14 => rfl
  | 15 => rfl
  | 16 => rfl
  | 17 => rfl
  | 18 => rfl
  | n + 19 => rfl
theorem wMf_budget (c : CS) (t : MT) (v : Int32) : va_up (wM c t) 0 (xO 6 ((mFs c t).set 11 (.int v))) = wM (cs_budget c v) t := by
  funext k
  match k with
  | 0 => rfl
  | 1 => rfl
  | 2 => rfl
  | 3 => rfl
  | 4 => rfl
  | 5 => rfl
  | 6 => rfl
  | 7 => rfl
  | 8 => rfl
  | 9 => rfl
  | 10 => rfl
  | 11 => rfl
  | 12 => rfl
  | 13 => rfl
  | 14 => rfl
  | 15 => rfl
  | 16 => rfl
  | 17 => rfl
  | 18 => rfl
  | n + 19 => rfl
theorem wMa_square (c : CS) (t : MT) (v : (Nat → Int64)) : va_up (wM c t) 8 (xJ 49 v) = wM c (ms_square t v) := by
  funext k
  match k with
  | 0 => rfl
  | 1 => rfl
  | 2 => rfl
  | 3 => rfl
  | 4 => rfl
  | 5 => rfl
  | 6 => rfl
  | 7 => rfl
  | 8 => rfl
  | 9 => rfl
  | 10 => rfl
  | 11 => rfl
  | 12 => rfl
  | 13 => rfl
  | 14 => rfl
  | 15 => rfl
  | 16 => rfl
  | 17 => rfl
  | 18 => rfl
  | n + 19 => rfl
theorem wMf_side (c : CS) (t : MT) (v : Int32) : va_up (wM c t) 0 (xO 6 ((mFs c t).set 13 (.int v))) = wM c (ms_side t v) := by
  funext k
  match k with
  | 0 => rfl
  | 1 => rfl
  | 2 => rfl
  | 3 => rfl
  | 4 => rfl
  | 5 => rfl
  | 6 => rfl
  | 7 => rfl
  | 8 => rfl
  | 9 => rfl
  | 10 => rfl
  | 11 => rfl
  | 12 => rfl
  | 13 => rfl
  | 14 => rfl
  | 15 => rfl
  | 16 => rfl
  | 17 => rfl
  | 18 => rfl
  | n + 19 => rfl
theorem wMa_rows (c : CS) (t : MT) (v : (Nat → Int32)) : va_up (wM c t) 9 (xI 7 v) = wM c (ms_rows t v) := by
  funext k
  match k with
  | 0 => rfl
  | 1 => rfl
  | 2 => rfl
  | 3 => rfl
  | 4 => rfl
  | 5 => rfl
  | 6 => rfl
  | 7 => rfl
  | 8 => rfl
  | 9 => rfl
  | 10 => rfl
  | 11 => rfl
  | 12 => rfl
  | 13 => rfl
  | 14 => rfl
  | 15 => rfl
  | 16 => rfl
  | 17 => rfl
  | 18 => rfl
  | n + 19 => rfl
theorem wMa_columns (c : CS) (t : MT) (v : (Nat → Int32)) : va_up (wM c t) 10 (xI 7 v) = wM c (ms_columns t v) := by
  funext k
  match k with
  | 0 => rfl
  | 1 => rfl
  | 2 => rfl
  | 3 => rfl
  | 4 => rfl
  | 5 => rfl
  | 6 => rfl
  | 7 => rfl
  | 8 => rfl
  | 9 => rfl
  | 10 => rfl
  | 11 => rfl
  | 12 => rfl
  | 13 => rfl
  | 14 => rfl
  | 15 => rfl
  | 16 => rfl
  | 17 => rfl
  | 18 => rfl
  | n + 19 => rfl
theorem wMa_resist (c : CS) (t : MT) (v : (Nat → Int64)) : va_up (wM c t) 11 (xJ 49 v) = wM c (ms_resist t v) := by
  funext k
  match k with
  | 0 => rfl
  | 1 => rfl
  | 2 => rfl
  | 3 => rfl
  | 4 => rfl
  | 5 => rfl
  | 6 => rfl
  | 7 => rfl
  | 8 => rfl
  | 9 => rfl
  | 10 => rfl
  | 11 => rfl
  | 12 => rfl
  | 13 => rfl
  | 14 => rfl
  | 15 => rfl
  | 16 => rfl
  | 17 => rfl
  | 18 => rfl
  | n + 19 => rfl
theorem wMf_under (c : CS) (t : MT) (v : Int64) : va_up (wM c t) 0 (xO 6 ((mFs c t).set 17 (.long v))) = wM c (ms_under t v) := by
  funext k
  match k with
  | 0 => rfl
  | 1 => rfl
  | 2 => rfl
  | 3 => rfl
  | 4 => rfl
  | 5 => rfl
  | 6 => rfl
  | 7 => rfl
  | 8 => rfl
  | 9 => rfl
  | 10 => rfl
  | 11 => rfl
  | 12 => rfl
  | 13 => rfl
  | 14 => rfl
  | 15 => rfl
  | 16 => rfl
  | 17 => rfl
  | 18 => rfl
  | n + 19 => rfl
theorem wMa_gets (c : CS) (t : MT) (v : (Nat → Int32)) : va_up (wM c t) 12 (xI 6 v) = wM c (ms_gets t v) := by
  funext k
  match k with
  | 0 => rfl
  | 1 => rfl
  | 2 => rfl
  | 3 => rfl
  | 4 => rfl
  | 5 => rfl
  | 6 => rfl
  | 7 => rfl
  | 8 => rfl
  | 9 => rfl
  | 10 => rfl
  | 11 => rfl
  | 12 => rfl
  | 13 => rfl
  | 14 => rfl
  | 15 => rfl
  | 16 => rfl
  | 17 => rfl
  | 18 => rfl
  | n + 19 => rfl
theorem wMa_picked (c : CS) (t : MT) (v : (Nat → Int32)) : va_up (wM c t) 13 (xI 3 v) = wM c (ms_picked t v) := by
  funext k
  match k with
  | 0 => rfl
  | 1 => rfl
  | 2 => rfl
  | 3 => rfl
  | 4 => rfl
  | 5 => rfl
  | 6 => rfl
  | 7 => rfl
  | 8 => rfl
  | 9 => rfl
  | 10 => rfl
  | 11 => rfl
  | 12 => rfl
  | 13 => rfl
  | 14 => rfl
  | 15 => rfl
  | 16 => rfl
  | 17 => rfl
  | 18 => rfl
  | n + 19 => rfl
theorem wMa_more (c : CS) (t : MT) (v : (Nat → Int32)) : va_up (wM c t) 14 (xI 12 v) = wM c (ms_more t v) := by
  funext k
  match k with
  | 0 => rfl
  | 1 => rfl
  | 2 => rfl
  | 3 => rfl
  | 4 => rfl
  | 5 => rfl
  | 6 => rfl
  | 7 => rfl
  | 8 => rfl
  | 9 => rfl
  | 10 => rfl
  | 11 => rfl
  | 12 => rfl
  | 13 => rfl
  | 14 => rfl
  | 15 => rfl
  | 16 => rfl
  | 17 => rfl
  | 18 => rfl
  | n + 19 => rfl
theorem wMa_bestMore (c : CS) (t : MT) (v : (Nat → Int32)) : va_up (wM c t) 15 (xI 12 v) = wM c (ms_bestMore t v) := by
  funext k
  match k with
  | 0 => rfl
  | 1 => rfl
  | 2 => rfl
  | 3 => rfl
  | 4 => rfl
  | 5 => rfl
  | 6 => rfl
  | 7 => rfl
  | 8 => rfl
  | 9 => rfl
  | 10 => rfl
  | 11 => rfl
  | 12 => rfl
  | 13 => rfl
  | 14 => rfl
  | 15 => rfl
  | 16 => rfl
  | 17 => rfl
  | 18 => rfl
  | n + 19 => rfl
theorem wMa_order (c : CS) (t : MT) (v : (Nat → Int32)) : va_up (wM c t) 16 (xI 6 v) = wM c (ms_order t v) := by
  funext k
  match k with
  | 0 => rfl
  | 1 => rfl
  | 2 => rfl
  | 3 => rfl
  | 4 => rfl
  | 5 => rfl
  | 6 => rfl
  | 7 => rfl
  | 8 => rfl
  | 9 => rfl
  | 10 => rfl
  | 11 => rfl
  | 12 => rfl
  | 13 => rfl
  | 14 => rfl
  | 15 => rfl
  | 16 => rfl
  | 17 => rfl
  | 18 => rfl
  | n + 19 => rfl
theorem wMa_bestOrder (c : CS) (t : MT) (v : (Nat → Int32)) : va_up (wM c t) 17 (xI 6 v) = wM c (ms_bestOrder t v) := by
  funext k
  match k with
  | 0 => rfl
  | 1 => rfl
  | 2 => rfl
  | 3 => rfl
  | 4 => rfl
  | 5 => rfl
  | 6 => rfl
  | 7 => rfl
  | 8 => rfl
  | 9 => rfl
  | 10 => rfl
  | 11 => rfl
  | 12 => rfl
  | 13 => rfl
  | 14 => rfl
  | 15 => rfl
  | 16 => rfl
  | 17 => rfl
  | 18 => rfl
  | n + 19 => rfl
theorem wMa_now (c : CS) (t : MT) (v : (Nat → Int32)) : va_up (wM c t) 18 (xI 7 v) = wM c (ms_now t v) := by
  funext k
  match k with
  | 0 => rfl
  | 1 => rfl
  | 2 => rfl
  | 3 => rfl
  | 4 => rfl
  | 5 => rfl
  | 6 => rfl
  | 7 => rfl
  | 8 => rfl
  | 9 => rfl
  | 10 => rfl
  | 11 => rfl
  | 12 => rfl
  | 13 => rfl
  | 14 => rfl
  | 15 => rfl
  | 16 => rfl
  | 17 => rfl
  | 18 => rfl
  | n + 19 => rfl
theorem wMf_woken (c : CS) (t : MT) (v : Int64) : va_up (wM c t) 0 (xO 6 ((mFs c t).set 25 (.long v))) = wM c (ms_woken t v) := by
  funext k
  match k with
  | 0 => rfl
  | 1 => rfl
  | 2 => rfl
  | 3 => rfl
  | 4 => rfl
  | 5 => rfl
  | 6 => rfl
  | 7 => rfl
  | 8 => rfl
  | 9 => rfl
  | 10 => rfl
  | 11 => rfl
  | 12 => rfl
  | 13 => rfl
  | 14 => rfl
  | 15 => rfl
  | 16 => rfl
  | 17 => rfl
  | 18 => rfl
  | n + 19 => rfl
def xb (t : Nat) : Nat := 11 + 11 * t + 2 * ((t + 4) / 6)
def bFs (t : Nat) (b : BS) : List Value := [.int (b_knots b), .long (b_below b), .ref (xb t + 1), .ref (xb t + 9), .ref (xb t + 10)]
def xbC (t j : Nat) (b : BS) : xC := if j = 0 then xO 0 (bFs t b) else if j = 1 then xR 7 (fun i => if i < 7 then some (xb t + 2 + i) else none) else if j = 9 then xJ 7 (b_above b) else if j = 10 then xJ 7 (b_spread b) else xJ 7 (b_cell b (j - 2))
def xFs : List Value := [.ref 1, .ref 7, .ref (xb 0), .ref (xb 1), .ref 33, .ref 81]
def nFs (c : CS) : List Value := [.int (c_n c), .int (c_wires c), .int (c_pads c), .ref 2, .ref 3, .ref 4, .ref 5, .ref 6]
def kFs (c : CS) : List Value := [.int (c_nb c), .int (c_budget c), .ref 8, .ref 9, .ref 10]
def wFs (x : XT) : List Value := [.ref 34, .ref 79, .ref 80, .int (x_bestPrice x), .int (x_bestMore x), .int (x_limit x), .int (x_umost x)]
def aFs : List Value := [.ref 82, .ref 83, .ref 84]
def wX1 (c : CS) (x : XT) (k : Nat) : xC := match k with
  | 0 => xO 5 xFs
  | 1 => xO 2 (nFs c)
  | 2 => xI 7 (c_pulls c)
  | 3 => xI 12 (c_from c)
  | 4 => xI 12 (c_to c)
  | 5 => xI 12 (c_wide c)
  | 6 => xI 12 (c_price c)
  | 7 => xO 1 (kFs c)
  | 8 => xI 6 (c_sits c)
  | 9 => xI 6 (c_most c)
  | _ => xI 6 (x_gets x)
def wX2 (x : XT) (k : Nat) : xC := match k with
  | 0 => xI 12 (x_row x)
  | 1 => xI 12 (x_bestRow x)
  | 2 => xO 3 aFs
  | 3 => xJ 64 (x_least x)
  | 4 => xJ 7 (x_awake x)
  | 5 => xI 6 (x_order x)
  | _ => xI 0 (fun _ => 0)
def wX (c : CS) (x : XT) : xWd := fun k => if k < 11 then wX1 c x k else if k < 33 then xbC ((k - 11) / 11) ((k - 11) % 11) (x_bal x ((k - 11) / 11)) else if k = 33 then xO 4 (wFs x) else if k = 34 then xR 4 (fun i => if i < 4 then some (xb (2 + i)) else none) else if k < 79 then xbC ((k - 13) / 11) ((k - 13) % 11) (x_bal x ((k - 13) / 11)) else wX2 x (k - 79)
def xTX : xKd := (85, fun k => if k < 11 then (if k = 0 ∨ k = 1 ∨ k = 7 then none else some .int) else if k < 33 then (if (k - 11) % 11 = 0 then none else if (k - 11) % 11 = 1 then some (.array .long) else some .long) else if k = 33 then none else if k = 34 then some (.object "ChipVolts$Balance") else if k < 79 then (if (k - 13) % 11 = 0 then none else if (k - 13) % 11 = 1 then some (.array .long) else some .long) else if k = 79 ∨ k = 80 ∨ k = 84 then some .int else if k = 82 ∨ k = 83 then some .long else none)
theorem wX2_big (x : XT) : ∀ {j : Nat}, 6 ≤ j → wX2 x j = xI 0 (fun _ => 0)
  | n + 6, _ => rfl
/-- one balance anew -/
abbrev xsb (x : XT) (t : Nat) (b : BS) : XT := xs_bal x (va_up (x_bal x) t b)
theorem xb_cases {t : Nat} (ht : t < 6) : (t < 2 ∧ xb t = 11 + 11 * t) ∨ (2 ≤ t ∧ xb t = 13 + 11 * t) := by
  rcases (show t = 0 ∨ t = 1 ∨ t = 2 ∨ t = 3 ∨ t = 4 ∨ t = 5 by omega) with rfl | rfl | rfl | rfl | rfl | rfl <;> decide
theorem xb_lt {t j : Nat} (ht : t < 6) (hj : j < 11) : xb t + j < 85 := by rcases xb_cases ht with ⟨h, e⟩ | ⟨h, e⟩ <;> omega
theorem wXb (c : CS) (x : XT) {t j : Nat} (ht : t < 6) (hj : j < 11) : wX c x (xb t + j) = xbC t j (x_bal x t) := by
  unfold wX
  rcases xb_cases ht with ⟨h, e⟩ | ⟨h, e⟩
  · rw [if_neg (by omega), if_pos (by omega), show (xb t + j - 11) / 11 = t by omega, show (xb t + j - 11) % 11 = j by omega]
  · rw [if_neg (by omega), if_neg (by omega), if_neg (by omega), if_neg (by omega), if_pos (by omega), show (xb t + j - 13) / 11 = t by omega, show (xb t + j - 13) % 11 = j by omega]
theorem wXb_obj (c : CS) (x : XT) {t : Nat} (ht : t < 6) : wX c x (xb t) = xO 0 (bFs t (x_bal x t)) := wXb c x (j := 0) ht (by decide)
theorem wXb_out (c : CS) (x : XT) {t : Nat} (ht : t < 6) : wX c x (xb t + 1) = xR 7 (fun i => if i < 7 then some (xb t + 2 + i) else none) := wXb c x (j := 1) ht (by decide)
theorem wXb_above (c : CS) (x : XT) {t : Nat} (ht : t < 6) : wX c x (xb t + 9) = xJ 7 (b_above (x_bal x t)) := wXb c x (j := 9) ht (by decide)
theorem wXb_spread (c : CS) (x : XT) {t : Nat} (ht : t < 6) : wX c x (xb t + 10) = xJ 7 (b_spread (x_bal x t)) := wXb c x (j := 10) ht (by decide)
theorem wXb_row (c : CS) (x : XT) {t i : Nat} (ht : t < 6) (hi : i < 7) : wX c x (xb t + 2 + i) = xJ 7 (b_cell (x_bal x t) i) := by
  rw [Nat.add_assoc, wXb c x ht (show 2 + i < 11 by omega)]
  unfold xbC
  rw [if_neg (by omega), if_neg (by omega), if_neg (by omega), if_neg (by omega), show 2 + i - 2 = i by omega]
theorem wXb_set (c : CS) (x : XT) {t j : Nat} (ht : t < 6) (hj : j < 11) {cell : xC} (b' : BS) (h : ∀ i, i < 11 → xbC t i b' = if i = j then cell else xbC t i (x_bal x t)) : va_up (wX c x) (xb t + j) cell = wX c (xsb x t b') := by
  funext k
  have hx := xb_cases ht
  show (if k = xb t + j then cell else wX c x k) = wX c (xsb x t b') k
  unfold wX
  by_cases h1 : k < 11
  · simp only [if_pos h1]
    rw [if_neg (by omega)]
    rfl
  by_cases h2 : k < 33
  · simp only [if_neg h1, if_pos h2]
    show _ = xbC ((k - 11) / 11) ((k - 11) % 11) (if (k - 11) / 11 = t then b' else x_bal x ((k - 11) / 11))
    by_cases e : (k - 11) / 11 = t
    · rw [if_pos e, e, h _ (by omega)]
      by_cases e2 : (k - 11) % 11 = j
      · rw [if_pos (by omega), if_pos e2]
      · rw [if_neg (by omega), if_neg e2]
    · rw [if_neg e, if_neg (by omega)]
  by_cases h3 : k = 33
  · simp only [if_neg h1, if_neg h2, if_pos h3]
    rw [if_neg (by omega)]
    rfl
  by_cases h4 : k = 34
  · simp only [if_neg h1, if_neg h2, if_neg h3, if_pos h4]
    rw [if_neg (by omega)]
  by_cases h5 : k < 79
  · simp only [if_neg h1, if_neg h2, if_neg h3, if_neg h4, if_pos h5]
    show _ = xbC ((k - 13) / 11) ((k - 13) % 11) (if (k - 13) / 11 = t then b' else x_bal x ((k - 13) / 11))
    by_cases e : (k - 13) / 11 = t
    · rw [if_pos e, e, h _ (by omega)]
      by_cases e2 : (k - 13) % 11 = j
      · rw [if_pos (by omega), if_pos e2]
      · rw [if_neg (by omega), if_neg e2]
    · rw [if_neg e, if_neg (by omega)]
  · simp only [if_neg h1, if_neg h2, if_neg h3, if_neg h4, if_neg h5]
    rw [if_neg (by omega)]
    rfl
theorem wXb_knots (c : CS) (x : XT) {t : Nat} (ht : t < 6) (v : Int32) : va_up (wX c x) (xb t) (xO 0 ((bFs t (x_bal x t)).set 0 (.int v))) = wX c (xsb x t (bs_knots (x_bal x t) v)) := wXb_set c x (j := 0) ht (by decide) _ (fun i _ => by
  by_cases e : i = 0
  · subst e; rfl
  · simp only [xbC, if_neg e])
theorem wXb_below (c : CS) (x : XT) {t : Nat} (ht : t < 6) (v : Int64) : va_up (wX c x) (xb t) (xO 0 ((bFs t (x_bal x t)).set 1 (.long v))) = wX c (xsb x t (bs_below (x_bal x t) v)) := wXb_set c x (j := 0) ht (by decide) _ (fun i _ => by
  by_cases e : i = 0
  · subst e; rfl
  · simp only [xbC, if_neg e])
theorem wXb_sabove (c : CS) (x : XT) {t : Nat} (ht : t < 6) (v : Nat → Int64) : va_up (wX c x) (xb t + 9) (xJ 7 v) = wX c (xsb x t (bs_above (x_bal x t) v)) := wXb_set c x (j := 9) ht (by decide) _ (fun i _ => by
  by_cases e : i = 9
  · subst e; rfl
  · simp only [xbC, if_neg e]; rfl)
theorem wXb_sspread (c : CS) (x : XT) {t : Nat} (ht : t < 6) (v : Nat → Int64) : va_up (wX c x) (xb t + 10) (xJ 7 v) = wX c (xsb x t (bs_spread (x_bal x t) v)) := wXb_set c x (j := 10) ht (by decide) _ (fun i _ => by
  by_cases e : i = 10
  · subst e; rfl
  · simp only [xbC, if_neg e]; rfl)
/-- one place of a square -/
def upM (f : Nat → Nat → Int64) (i j : Nat) (v : Int64) : Nat → Nat → Int64 := fun a => if a = i then vp_updL (f i) j v else f a
theorem wXb_srow (c : CS) (x : XT) {t i : Nat} (ht : t < 6) (hi : i < 7) (j : Nat) (v : Int64) : va_up (wX c x) (xb t + 2 + i) (xJ 7 (vp_updL (b_cell (x_bal x t) i) j v)) = wX c (xsb x t (bs_cell (x_bal x t) (upM (b_cell (x_bal x t)) i j v))) := by
  rw [Nat.add_assoc]
  refine wXb_set c x (j := 2 + i) ht (by omega) _ (fun a ha => ?_)
  unfold xbC
  by_cases e0 : a = 0
  · rw [if_pos e0, if_pos e0, if_neg (by omega)]; rfl
  by_cases e1 : a = 1
  · rw [if_neg e0, if_neg e0, if_pos e1, if_pos e1, if_neg (by omega)]
  by_cases e9 : a = 9
  · rw [if_neg e0, if_neg e0, if_neg e1, if_neg e1, if_pos e9, if_pos e9, if_neg (by omega)]
  by_cases e10 : a = 10
  · rw [if_neg e0, if_neg e0, if_neg e1, if_neg e1, if_neg e9, if_neg e9, if_pos e10, if_pos e10, if_neg (by omega)]
  rw [if_neg e0, if_neg e0, if_neg e1, if_neg e1, if_neg e9, if_neg e9, if_neg e10, if_neg e10]
  by_cases e : a = 2 + i
  · subst e
    rw [if_pos rfl, show 2 + i - 2 = i by omega]
    show xJ 7 (if i = i then vp_updL (b_cell (x_bal x t) i) j v else _) = _
    rw [if_pos rfl]
  · rw [if_neg e]
    show xJ 7 (if a - 2 = i then _ else b_cell (x_bal x t) (a - 2)) = _
    rw [if_neg (by omega)]
theorem xTX_out {t : Nat} (ht : t < 6) : xTX.2 (xb t + 1) = some (.array .long) := by
  show (if xb t + 1 < 11 then _ else _) = _
  rcases xb_cases ht with ⟨h, e⟩ | ⟨h, e⟩
  · rw [if_neg (by omega), if_pos (by omega), if_neg (by omega), if_pos (by omega)]
  · rw [if_neg (by omega), if_neg (by omega), if_neg (by omega), if_neg (by omega), if_pos (by omega), if_neg (by omega), if_pos (by omega)]
theorem xTX_long {t j : Nat} (ht : t < 6) (hj : j < 11) (h2 : 2 ≤ j) : xTX.2 (xb t + j) = some .long := by
  show (if xb t + j < 11 then _ else _) = _
  rcases xb_cases ht with ⟨h, e⟩ | ⟨h, e⟩
  · rw [if_neg (by omega), if_pos (by omega), if_neg (by omega), if_neg (by omega)]
  · rw [if_neg (by omega), if_neg (by omega), if_neg (by omega), if_neg (by omega), if_pos (by omega), if_neg (by omega), if_neg (by omega)]
theorem xTX_row {t i : Nat} (ht : t < 6) (hi : i < 7) : xTX.2 (xb t + 2 + i) = some .long := by
  rw [Nat.add_assoc]; exact xTX_long ht (by omega) (by omega)
theorem xb_row_lt {t i : Nat} (ht : t < 6) (hi : i < 7) : xb t + 2 + i < xTX.1 := by
  show xb t + 2 + i < 85
  have hx := xb_cases ht
  omega
theorem vp_lt {i : Int32} {n : Nat} (h : vp_in i n) : i.toNatClampNeg < n := Nat.not_le.mp fun q => h (Or.inr q)
theorem wXf_n (c : CS) (x : XT) (v : Int32) : va_up (wX c x) 1 (xO 2 ((nFs c).set 0 (.int v))) = wX (cs_n c v) x := by
  funext k
  show (if k = 1 then _ else wX c x k) = _
  by_cases h1 : k < 11
  · rcases (show k = 0 ∨ k = 1 ∨ k = 2 ∨ k = 3 ∨ k = 4 ∨ k = 5 ∨ k = 6 ∨ k = 7 ∨ k = 8 ∨ k = 9 ∨ k = 10 by omega) with rfl | rfl | rfl | rfl | rfl | rfl | rfl | rfl | rfl | rfl | rfl <;> rfl
  by_cases h2 : k < 33
  · rw [if_neg (by omega)]
    simp only [wX, if_neg h1, if_pos h2]
  by_cases h3 : k = 33 ∨ k = 34 ∨ k = 79 ∨ k = 80 ∨ k = 81 ∨ k = 82 ∨ k = 83 ∨ k = 84
  · rcases h3 with rfl | rfl | rfl | rfl | rfl | rfl | rfl | rfl <;> rfl
  rw [if_neg (by omega)]
  have h33 : ¬ k = 33 := by omega
  have h34 : ¬ k = 34 := by omega
  by_cases h4 : k < 79
  · simp only [wX, if_neg h1, if_neg h2, if_neg h33, if_neg h34, if_pos h4]
  · simp only [wX, if_neg h1, if_neg h2, if_neg h33, if_neg h34, if_neg h4, wX2_big _ (show 6 ≤ k - 79 by omega)]
theorem wXf_wires (c : CS) (x : XT) (v : Int32) : va_up (wX c x) 1 (xO 2 ((nFs c).set 1 (.int v))) = wX (cs_wires c v) x := by
  funext k
  show (if k = 1 then _ else wX c x k) = _
  by_cases h1 : k < 11
  · rcases (show k = 0 ∨ k = 1 ∨ k = 2 ∨ k = 3 ∨ k = 4 ∨ k = 5 ∨ k = 6 ∨ k = 7 ∨ k = 8 ∨ k = 9 ∨ k = 10 by omega) with rfl | rfl | rfl | rfl | rfl | rfl | rfl | rfl | rfl | rfl | rfl <;> rfl
  by_cases h2 : k < 33
  · rw [if_neg (by omega)]
    simp only [wX, if_neg h1, if_pos h2]
  by_cases h3 : k = 33 ∨ k = 34 ∨ k = 79 ∨ k = 80 ∨ k = 81 ∨ k = 82 ∨ k = 83 ∨ k = 84
  · rcases h3 with rfl | rfl | rfl | rfl | rfl | rfl | rfl | rfl <;> rfl
  rw [if_neg (by omega)]
  have h33 : ¬ k = 33 := by omega
  have h34 : ¬ k = 34 := by omega
  by_cases h4 : k < 79
  · simp only [wX, if_neg h1, if_neg h2, if_neg h33, if_neg h34, if_pos h4]
  · simp only [wX, if_neg h1, if_neg h2, if_neg h33, if_neg h34, if_neg h4, wX2_big _ (show 6 ≤ k - 79 by omega)]
theorem wXf_pads (c : CS) (x : XT) (v : Int32) : va_up (wX c x) 1 (xO 2 ((nFs c).set 2 (.int v))) = wX (cs_pads c v) x := by
  funext k
  show (if k = 1 then _ else wX c x k) = _
  by_cases h1 : k < 11
  · rcases (show k = 0 ∨ k = 1 ∨ k = 2 ∨ k = 3 ∨ k = 4 ∨ k = 5 ∨ k = 6 ∨ k = 7 ∨ k = 8 ∨ k = 9 ∨ k = 10 by omega) with rfl | rfl | rfl | rfl | rfl | rfl | rfl | rfl | rfl | rfl | rfl <;> rfl
  by_cases h2 : k < 33
  · rw [if_neg (by omega)]
    simp only [wX, if_neg h1, if_pos h2]
  by_cases h3 : k = 33 ∨ k = 34 ∨ k = 79 ∨ k = 80 ∨ k = 81 ∨ k = 82 ∨ k = 83 ∨ k = 84
  · rcases h3 with rfl | rfl | rfl | rfl | rfl | rfl | rfl | rfl <;> rfl
  rw [if_neg (by omega)]
  have h33 : ¬ k = 33 := by omega
  have h34 : ¬ k = 34 := by omega
  by_cases h4 : k < 79
  · simp only [wX, if_neg h1, if_neg h2, if_neg h33, if_neg h34, if_pos h4]
  · simp only [wX, if_neg h1, if_neg h2, if_neg h33, if_neg h34, if_neg h4, wX2_big _ (show 6 ≤ k - 79 by omega)]
theorem wXf_nb (c : CS) (x : XT) (v : Int32) : va_up (wX c x) 7 (xO 1 ((kFs c).set 0 (.int v))) = wX (cs_nb c v) x := by
  funext k
  show (if k = 7 then _ else wX c x k) = _
  by_cases h1 : k < 11
  · rcases (show k = 0 ∨ k = 1 ∨ k = 2 ∨ k = 3 ∨ k = 4 ∨ k = 5 ∨ k = 6 ∨ k = 7 ∨ k = 8 ∨ k = 9 ∨ k = 10 by omega) with rfl | rfl | rfl | rfl | rfl | rfl | rfl | rfl | rfl | rfl | rfl <;> rfl
  by_cases h2 : k < 33
  · rw [if_neg (by omega)]
    simp only [wX, if_neg h1, if_pos h2]
  by_cases h3 : k = 33 ∨ k = 34 ∨ k = 79 ∨ k = 80 ∨ k = 81 ∨ k = 82 ∨ k = 83 ∨ k = 84
  · rcases h3 with rfl | rfl | rfl | rfl | rfl | rfl | rfl | rfl <;> rfl
  rw [if_neg (by omega)]
  have h33 : ¬ k = 33 := by omega
  have h34 : ¬ k = 34 := by omega
  by_cases h4 : k < 79
  · simp only [wX, if_neg h1, if_neg h2, if_neg h33, if_neg h34, if_pos h4]
  · simp only [wX, if_neg h1, if_neg h2, if_neg h33, if_neg h34, if_neg h4, wX2_big _ (show 6 ≤ k - 79 by omega)]
theorem wXf_budget (c : CS) (x : XT) (v : Int32) : va_up (wX c x) 7 (xO 1 ((kFs c).set 1 (.int v))) = wX (cs_budget c v) x := by
  funext k
  show (if k = 7 then _ else wX c x k) = _
  by_cases h1 : k < 11
  · rcases (show k = 0 ∨ k = 1 ∨ k = 2 ∨ k = 3 ∨ k = 4 ∨ k = 5 ∨ k = 6 ∨ k = 7 ∨ k = 8 ∨ k = 9 ∨ k = 10 by omega) with rfl | rfl | rfl | rfl | rfl | rfl | rfl | rfl | rfl | rfl | rfl <;> rfl
  by_cases h2 : k < 33
  · rw [if_neg (by omega)]
    simp only [wX, if_neg h1, if_pos h2]
  by_cases h3 : k = 33 ∨ k = 34 ∨ k = 79 ∨ k = 80 ∨ k = 81 ∨ k = 82 ∨ k = 83 ∨ k = 84
  · rcases h3 with rfl | rfl | rfl | rfl | rfl | rfl | rfl | rfl <;> rfl
  rw [if_neg (by omega)]
  have h33 : ¬ k = 33 := by omega
  have h34 : ¬ k = 34 := by omega
  by_cases h4 : k < 79
  · simp only [wX, if_neg h1, if_neg h2, if_neg h33, if_neg h34, if_pos h4]
  · simp only [wX, if_neg h1, if_neg h2, if_neg h33, if_neg h34, if_neg h4, wX2_big _ (show 6 ≤ k - 79 by omega)]
theorem wXa_pulls (c : CS) (x : XT) (v : Nat → Int32) : va_up (wX c x) 2 (xI 7 v) = wX (cs_pulls c v) x := by
  funext k
  show (if k = 2 then _ else wX c x k) = _
  by_cases h1 : k < 11
  · rcases (show k = 0 ∨ k = 1 ∨ k = 2 ∨ k = 3 ∨ k = 4 ∨ k = 5 ∨ k = 6 ∨ k = 7 ∨ k = 8 ∨ k = 9 ∨ k = 10 by omega) with rfl | rfl | rfl | rfl | rfl | rfl | rfl | rfl | rfl | rfl | rfl <;> rfl
  by_cases h2 : k < 33
  · rw [if_neg (by omega)]
    simp only [wX, if_neg h1, if_pos h2]
  by_cases h3 : k = 33 ∨ k = 34 ∨ k = 79 ∨ k = 80 ∨ k = 81 ∨ k = 82 ∨ k = 83 ∨ k = 84
  · rcases h3 with rfl | rfl | rfl | rfl | rfl | rfl | rfl | rfl <;> rfl
  rw [if_neg (by omega)]
  have h33 : ¬ k = 33 := by omega
  have h34 : ¬ k = 34 := by omega
  by_cases h4 : k < 79
  · simp only [wX, if_neg h1, if_neg h2, if_neg h33, if_neg h34, if_pos h4]
  · simp only [wX, if_neg h1, if_neg h2, if_neg h33, if_neg h34, if_neg h4, wX2_big _ (show 6 ≤ k - 79 by omega)]
theorem wXa_from (c : CS) (x : XT) (v : Nat → Int32) : va_up (wX c x) 3 (xI 12 v) = wX (cs_from c v) x := by
  funext k
  show (if k = 3 then _ else wX c x k) = _
  by_cases h1 : k < 11
  · rcases (show k = 0 ∨ k = 1 ∨ k = 2 ∨ k = 3 ∨ k = 4 ∨ k = 5 ∨ k = 6 ∨ k = 7 ∨ k = 8 ∨ k = 9 ∨ k = 10 by omega) with rfl | rfl | rfl | rfl | rfl | rfl | rfl | rfl | rfl | rfl | rfl <;> rfl
  by_cases h2 : k < 33
  · rw [if_neg (by omega)]
    simp only [wX, if_neg h1, if_pos h2]
  by_cases h3 : k = 33 ∨ k = 34 ∨ k = 79 ∨ k = 80 ∨ k = 81 ∨ k = 82 ∨ k = 83 ∨ k = 84
  · rcases h3 with rfl | rfl | rfl | rfl | rfl | rfl | rfl | rfl <;> rfl
  rw [if_neg (by omega)]
  have h33 : ¬ k = 33 := by omega
  have h34 : ¬ k = 34 := by omega
  by_cases h4 : k < 79
  · simp only [wX, if_neg h1, if_neg h2, if_neg h33, if_neg h34, if_pos h4]
  · simp only [wX, if_neg h1, if_neg h2, if_neg h33, if_neg h34, if_neg h4, wX2_big _ (show 6 ≤ k - 79 by omega)]
theorem wXa_to (c : CS) (x : XT) (v : Nat → Int32) : va_up (wX c x) 4 (xI 12 v) = wX (cs_to c v) x := by
  funext k
  show (if k = 4 then _ else wX c x k) = _
  by_cases h1 : k < 11
  · rcases (show k = 0 ∨ k = 1 ∨ k = 2 ∨ k = 3 ∨ k = 4 ∨ k = 5 ∨ k = 6 ∨ k = 7 ∨ k = 8 ∨ k = 9 ∨ k = 10 by omega) with rfl | rfl | rfl | rfl | rfl | rfl | rfl | rfl | rfl | rfl | rfl <;> rfl
  by_cases h2 : k < 33
  · rw [if_neg (by omega)]
    simp only [wX, if_neg h1, if_pos h2]
  by_cases h3 : k = 33 ∨ k = 34 ∨ k = 79 ∨ k = 80 ∨ k = 81 ∨ k = 82 ∨ k = 83 ∨ k = 84
  · rcases h3 with rfl | rfl | rfl | rfl | rfl | rfl | rfl | rfl <;> rfl
  rw [if_neg (by omega)]
  have h33 : ¬ k = 33 := by omega
  have h34 : ¬ k = 34 := by omega
  by_cases h4 : k < 79
  · simp only [wX, if_neg h1, if_neg h2, if_neg h33, if_neg h34, if_pos h4]
  · simp only [wX, if_neg h1, if_neg h2, if_neg h33, if_neg h34, if_neg h4, wX2_big _ (show 6 ≤ k - 79 by omega)]
theorem wXa_wide (c : CS) (x : XT) (v : Nat → Int32) : va_up (wX c x) 5 (xI 12 v) = wX (cs_wide c v) x := by
  funext k
  show (if k = 5 then _ else wX c x k) = _
  by_cases h1 : k < 11
  · rcases (show k = 0 ∨ k = 1 ∨ k = 2 ∨ k = 3 ∨ k = 4 ∨ k = 5 ∨ k = 6 ∨ k = 7 ∨ k = 8 ∨ k = 9 ∨ k = 10 by omega) with rfl | rfl | rfl | rfl | rfl | rfl | rfl | rfl | rfl | rfl | rfl <;> rfl
  by_cases h2 : k < 33
  · rw [if_neg (by omega)]
    simp only [wX, if_neg h1, if_pos h2]
  by_cases h3 : k = 33 ∨ k = 34 ∨ k = 79 ∨ k = 80 ∨ k = 81 ∨ k = 82 ∨ k = 83 ∨ k = 84
  · rcases h3 with rfl | rfl | rfl | rfl | rfl | rfl | rfl | rfl <;> rfl
  rw [if_neg (by omega)]
  have h33 : ¬ k = 33 := by omega
  have h34 : ¬ k = 34 := by omega
  by_cases h4 : k < 79
  · simp only [wX, if_neg h1, if_neg h2, if_neg h33, if_neg h34, if_pos h4]
  · simp only [wX, if_neg h1, if_neg h2, if_neg h33, if_neg h34, if_neg h4, wX2_big _ (show 6 ≤ k - 79 by omega)]
theorem wXa_price (c : CS) (x : XT) (v : Nat → Int32) : va_up (wX c x) 6 (xI 12 v) = wX (cs_price c v) x := by
  funext k
  show (if k = 6 then _ else wX c x k) = _
  by_cases h1 : k < 11
  · rcases (show k = 0 ∨ k = 1 ∨ k = 2 ∨ k = 3 ∨ k = 4 ∨ k = 5 ∨ k = 6 ∨ k = 7 ∨ k = 8 ∨ k = 9 ∨ k = 10 by omega) with rfl | rfl | rfl | rfl | rfl | rfl | rfl | rfl | rfl | rfl | rfl <;> rfl
  by_cases h2 : k < 33
  · rw [if_neg (by omega)]
    simp only [wX, if_neg h1, if_pos h2]
  by_cases h3 : k = 33 ∨ k = 34 ∨ k = 79 ∨ k = 80 ∨ k = 81 ∨ k = 82 ∨ k = 83 ∨ k = 84
  · rcases h3 with rfl | rfl | rfl | rfl | rfl | rfl | rfl | rfl <;> rfl
  rw [if_neg (by omega)]
  have h33 : ¬ k = 33 := by omega
  have h34 : ¬ k = 34 := by omega
  by_cases h4 : k < 79
  · simp only [wX, if_neg h1, if_neg h2, if_neg h33, if_neg h34, if_pos h4]
  · simp only [wX, if_neg h1, if_neg h2, if_neg h33, if_neg h34, if_neg h4, wX2_big _ (show 6 ≤ k - 79 by omega)]
theorem wXa_sits (c : CS) (x : XT) (v : Nat → Int32) : va_up (wX c x) 8 (xI 6 v) = wX (cs_sits c v) x := by
  funext k
  show (if k = 8 then _ else wX c x k) = _
  by_cases h1 : k < 11
  · rcases (show k = 0 ∨ k = 1 ∨ k = 2 ∨ k = 3 ∨ k = 4 ∨ k = 5 ∨ k = 6 ∨ k = 7 ∨ k = 8 ∨ k = 9 ∨ k = 10 by omega) with rfl | rfl | rfl | rfl | rfl | rfl | rfl | rfl | rfl | rfl | rfl <;> rfl
  by_cases h2 : k < 33
  · rw [if_neg (by omega)]
    simp only [wX, if_neg h1, if_pos h2]
  by_cases h3 : k = 33 ∨ k = 34 ∨ k = 79 ∨ k = 80 ∨ k = 81 ∨ k = 82 ∨ k = 83 ∨ k = 84
  · rcases h3 with rfl | rfl | rfl | rfl | rfl | rfl | rfl | rfl <;> rfl
  rw [if_neg (by omega)]
  have h33 : ¬ k = 33 := by omega
  have h34 : ¬ k = 34 := by omega
  by_cases h4 : k < 79
  · simp only [wX, if_neg h1, if_neg h2, if_neg h33, if_neg h34, if_pos h4]
  · simp only [wX, if_neg h1, if_neg h2, if_neg h33, if_neg h34, if_neg h4, wX2_big _ (show 6 ≤ k - 79 by omega)]
theorem wXa_most (c : CS) (x : XT) (v : Nat → Int32) : va_up (wX c x) 9 (xI 6 v) = wX (cs_most c v) x := by
  funext k
  show (if k = 9 then _ else wX c x k) = _
  by_cases h1 : k < 11
  · rcases (show k = 0 ∨ k = 1 ∨ k = 2 ∨ k = 3 ∨ k = 4 ∨ k = 5 ∨ k = 6 ∨ k = 7 ∨ k = 8 ∨ k = 9 ∨ k = 10 by omega) with rfl | rfl | rfl | rfl | rfl | rfl | rfl | rfl | rfl | rfl | rfl <;> rfl
  by_cases h2 : k < 33
  · rw [if_neg (by omega)]
    simp only [wX, if_neg h1, if_pos h2]
  by_cases h3 : k = 33 ∨ k = 34 ∨ k = 79 ∨ k = 80 ∨ k = 81 ∨ k = 82 ∨ k = 83 ∨ k = 84
  · rcases h3 with rfl | rfl | rfl | rfl | rfl | rfl | rfl | rfl <;> rfl
  rw [if_neg (by omega)]
  have h33 : ¬ k = 33 := by omega
  have h34 : ¬ k = 34 := by omega
  by_cases h4 : k < 79
  · simp only [wX, if_neg h1, if_neg h2, if_neg h33, if_neg h34, if_pos h4]
  · simp only [wX, if_neg h1, if_neg h2, if_neg h33, if_neg h34, if_neg h4, wX2_big _ (show 6 ≤ k - 79 by omega)]
theorem wXa_gets (c : CS) (x : XT) (v : Nat → Int32) : va_up (wX c x) 10 (xI 6 v) = wX c (xs_gets x v) := by
  funext k
  show (if k = 10 then _ else wX c x k) = _
  by_cases h1 : k < 11
  · rcases (show k = 0 ∨ k = 1 ∨ k = 2 ∨ k = 3 ∨ k = 4 ∨ k = 5 ∨ k = 6 ∨ k = 7 ∨ k = 8 ∨ k = 9 ∨ k = 10 by omega) with rfl | rfl | rfl | rfl | rfl | rfl | rfl | rfl | rfl | rfl | rfl <;> rfl
  by_cases h2 : k < 33
  · rw [if_neg (by omega)]
    simp only [wX, if_neg h1, if_pos h2]
  by_cases h3 : k = 33 ∨ k = 34 ∨ k = 79 ∨ k = 80 ∨ k = 81 ∨ k = 82 ∨ k = 83 ∨ k = 84
  · rcases h3 with rfl | rfl | rfl | rfl | rfl | rfl | rfl | rfl <;> rfl
  rw [if_neg (by omega)]
  have h33 : ¬ k = 33 := by omega
  have h34 : ¬ k = 34 := by omega
  by_cases h4 : k < 79
  · simp only [wX, if_neg h1, if_neg h2, if_neg h33, if_neg h34, if_pos h4]
  · simp only [wX, if_neg h1, if_neg h2, if_neg h33, if_neg h34, if_neg h4, wX2_big _ (show 6 ≤ k - 79 by omega)]
theorem wXf_bestPrice (c : CS) (x : XT) (v : Int32) : va_up (wX c x) 33 (xO 4 ((wFs x).set 3 (.int v))) = wX c (xs_bestPrice x v) := by
  funext k
  show (if k = 33 then _ else wX c x k) = _
  by_cases h1 : k < 11
  · rcases (show k = 0 ∨ k = 1 ∨ k = 2 ∨ k = 3 ∨ k = 4 ∨ k = 5 ∨ k = 6 ∨ k = 7 ∨ k = 8 ∨ k = 9 ∨ k = 10 by omega) with rfl | rfl | rfl | rfl | rfl | rfl | rfl | rfl | rfl | rfl | rfl <;> rfl
  by_cases h2 : k < 33
  · rw [if_neg (by omega)]
    simp only [wX, if_neg h1, if_pos h2]
  by_cases h3 : k = 33 ∨ k = 34 ∨ k = 79 ∨ k = 80 ∨ k = 81 ∨ k = 82 ∨ k = 83 ∨ k = 84
  · rcases h3 with rfl | rfl | rfl | rfl | rfl | rfl | rfl | rfl <;> rfl
  rw [if_neg (by omega)]
  have h33 : ¬ k = 33 := by omega
  have h34 : ¬ k = 34 := by omega
  by_cases h4 : k < 79
  · simp only [wX, if_neg h1, if_neg h2, if_neg h33, if_neg h34, if_pos h4]
  · simp only [wX, if_neg h1, if_neg h2, if_neg h33, if_neg h34, if_neg h4, wX2_big _ (show 6 ≤ k - 79 by omega)]
theorem wXf_bestMore (c : CS) (x : XT) (v : Int32) : va_up (wX c x) 33 (xO 4 ((wFs x).set 4 (.int v))) = wX c (xs_bestMore x v) := by
  funext k
  show (if k = 33 then _ else wX c x k) = _
  by_cases h1 : k < 11
  · rcases (show k = 0 ∨ k = 1 ∨ k = 2 ∨ k = 3 ∨ k = 4 ∨ k = 5 ∨ k = 6 ∨ k = 7 ∨ k = 8 ∨ k = 9 ∨ k = 10 by omega) with rfl | rfl | rfl | rfl | rfl | rfl | rfl | rfl | rfl | rfl | rfl <;> rfl
  by_cases h2 : k < 33
  · rw [if_neg (by omega)]
    simp only [wX, if_neg h1, if_pos h2]
  by_cases h3 : k = 33 ∨ k = 34 ∨ k = 79 ∨ k = 80 ∨ k = 81 ∨ k = 82 ∨ k = 83 ∨ k = 84
  · rcases h3 with rfl | rfl | rfl | rfl | rfl | rfl | rfl | rfl <;> rfl
  rw [if_neg (by omega)]
  have h33 : ¬ k = 33 := by omega
  have h34 : ¬ k = 34 := by omega
  by_cases h4 : k < 79
  · simp only [wX, if_neg h1, if_neg h2, if_neg h33, if_neg h34, if_pos h4]
  · simp only [wX, if_neg h1, if_neg h2, if_neg h33, if_neg h34, if_neg h4, wX2_big _ (show 6 ≤ k - 79 by omega)]
theorem wXf_limit (c : CS) (x : XT) (v : Int32) : va_up (wX c x) 33 (xO 4 ((wFs x).set 5 (.int v))) = wX c (xs_limit x v) := by
  funext k
  show (if k = 33 then _ else wX c x k) = _
  by_cases h1 : k < 11
  · rcases (show k = 0 ∨ k = 1 ∨ k = 2 ∨ k = 3 ∨ k = 4 ∨ k = 5 ∨ k = 6 ∨ k = 7 ∨ k = 8 ∨ k = 9 ∨ k = 10 by omega) with rfl | rfl | rfl | rfl | rfl | rfl | rfl | rfl | rfl | rfl | rfl <;> rfl
  by_cases h2 : k < 33
  · rw [if_neg (by omega)]
    simp only [wX, if_neg h1, if_pos h2]
  by_cases h3 : k = 33 ∨ k = 34 ∨ k = 79 ∨ k = 80 ∨ k = 81 ∨ k = 82 ∨ k = 83 ∨ k = 84
  · rcases h3 with rfl | rfl | rfl | rfl | rfl | rfl | rfl | rfl <;> rfl
  rw [if_neg (by omega)]
  have h33 : ¬ k = 33 := by omega
  have h34 : ¬ k = 34 := by omega
  by_cases h4 : k < 79
  · simp only [wX, if_neg h1, if_neg h2, if_neg h33, if_neg h34, if_pos h4]
  · simp only [wX, if_neg h1, if_neg h2, if_neg h33, if_neg h34, if_neg h4, wX2_big _ (show 6 ≤ k - 79 by omega)]
theorem wXf_umost (c : CS) (x : XT) (v : Int32) : va_up (wX c x) 33 (xO 4 ((wFs x).set 6 (.int v))) = wX c (xs_umost x v) := by
  funext k
  show (if k = 33 then _ else wX c x k) = _
  by_cases h1 : k < 11
  · rcases (show k = 0 ∨ k = 1 ∨ k = 2 ∨ k = 3 ∨ k = 4 ∨ k = 5 ∨ k = 6 ∨ k = 7 ∨ k = 8 ∨ k = 9 ∨ k = 10 by omega) with rfl | rfl | rfl | rfl | rfl | rfl | rfl | rfl | rfl | rfl | rfl <;> rfl
  by_cases h2 : k < 33
  · rw [if_neg (by omega)]
    simp only [wX, if_neg h1, if_pos h2]
  by_cases h3 : k = 33 ∨ k = 34 ∨ k = 79 ∨ k = 80 ∨ k = 81 ∨ k = 82 ∨ k = 83 ∨ k = 84
  · rcases h3 with rfl | rfl | rfl | rfl | rfl | rfl | rfl | rfl <;> rfl
  rw [if_neg (by omega)]
  have h33 : ¬ k = 33 := by omega
  have h34 : ¬ k = 34 := by omega
  by_cases h4 : k < 79
  · simp only [wX, if_neg h1, if_neg h2, if_neg h33, if_neg h34, if_pos h4]
  · simp only [wX, if_neg h1, if_neg h2, if_neg h33, if_neg h34, if_neg h4, wX2_big _ (show 6 ≤ k - 79 by omega)]
theorem wXa_row (c : CS) (x : XT) (v : Nat → Int32) : va_up (wX c x) 79 (xI 12 v) = wX c (xs_row x v) := by
  funext k
  show (if k = 79 then _ else wX c x k) = _
  by_cases h1 : k < 11
  · rcases (show k = 0 ∨ k = 1 ∨ k = 2 ∨ k = 3 ∨ k = 4 ∨ k = 5 ∨ k = 6 ∨ k = 7 ∨ k = 8 ∨ k = 9 ∨ k = 10 by omega) with rfl | rfl | rfl | rfl | rfl | rfl | rfl | rfl | rfl | rfl | rfl <;> rfl
  by_cases h2 : k < 33
  · rw [if_neg (by omega)]
    simp only [wX, if_neg h1, if_pos h2]
  by_cases h3 : k = 33 ∨ k = 34 ∨ k = 79 ∨ k = 80 ∨ k = 81 ∨ k = 82 ∨ k = 83 ∨ k = 84
  · rcases h3 with rfl | rfl | rfl | rfl | rfl | rfl | rfl | rfl <;> rfl
  rw [if_neg (by omega)]
  have h33 : ¬ k = 33 := by omega
  have h34 : ¬ k = 34 := by omega
  by_cases h4 : k < 79
  · simp only [wX, if_neg h1, if_neg h2, if_neg h33, if_neg h34, if_pos h4]
  · simp only [wX, if_neg h1, if_neg h2, if_neg h33, if_neg h34, if_neg h4, wX2_big _ (show 6 ≤ k - 79 by omega)]
theorem wXa_bestRow (c : CS) (x : XT) (v : Nat → Int32) : va_up (wX c x) 80 (xI 12 v) = wX c (xs_bestRow x v) := by
  funext k
  show (if k = 80 then _ else wX c x k) = _
  by_cases h1 : k < 11
  · rcases (show k = 0 ∨ k = 1 ∨ k = 2 ∨ k = 3 ∨ k = 4 ∨ k = 5 ∨ k = 6 ∨ k = 7 ∨ k = 8 ∨ k = 9 ∨ k = 10 by omega) with rfl | rfl | rfl | rfl | rfl | rfl | rfl | rfl | rfl | rfl | rfl <;> rfl
  by_cases h2 : k < 33
  · rw [if_neg (by omega)]
    simp only [wX, if_neg h1, if_pos h2]
  by_cases h3 : k = 33 ∨ k = 34 ∨ k = 79 ∨ k = 80 ∨ k = 81 ∨ k = 82 ∨ k = 83 ∨ k = 84
  · rcases h3 with rfl | rfl | rfl | rfl | rfl | rfl | rfl | rfl <;> rfl
  rw [if_neg (by omega)]
  have h33 : ¬ k = 33 := by omega
  have h34 : ¬ k = 34 := by omega
  by_cases h4 : k < 79
  · simp only [wX, if_neg h1, if_neg h2, if_neg h33, if_neg h34, if_pos h4]
  · simp only [wX, if_neg h1, if_neg h2, if_neg h33, if_neg h34, if_neg h4, wX2_big _ (show 6 ≤ k - 79 by omega)]
theorem wXa_least (c : CS) (x : XT) (v : Nat → Int64) : va_up (wX c x) 82 (xJ 64 v) = wX c (xs_least x v) := by
  funext k
  show (if k = 82 then _ else wX c x k) = _
  by_cases h1 : k < 11
  · rcases (show k = 0 ∨ k = 1 ∨ k = 2 ∨ k = 3 ∨ k = 4 ∨ k = 5 ∨ k = 6 ∨ k = 7 ∨ k = 8 ∨ k = 9 ∨ k = 10 by omega) with rfl | rfl | rfl | rfl | rfl | rfl | rfl | rfl | rfl | rfl | rfl <;> rfl
  by_cases h2 : k < 33
  · rw [if_neg (by omega)]
    simp only [wX, if_neg h1, if_pos h2]
  by_cases h3 : k = 33 ∨ k = 34 ∨ k = 79 ∨ k = 80 ∨ k = 81 ∨ k = 82 ∨ k = 83 ∨ k = 84
  · rcases h3 with rfl | rfl | rfl | rfl | rfl | rfl | rfl | rfl <;> rfl
  rw [if_neg (by omega)]
  have h33 : ¬ k = 33 := by omega
  have h34 : ¬ k = 34 := by omega
  by_cases h4 : k < 79
  · simp only [wX, if_neg h1, if_neg h2, if_neg h33, if_neg h34, if_pos h4]
  · simp only [wX, if_neg h1, if_neg h2, if_neg h33, if_neg h34, if_neg h4, wX2_big _ (show 6 ≤ k - 79 by omega)]
theorem wXa_awake (c : CS) (x : XT) (v : Nat → Int64) : va_up (wX c x) 83 (xJ 7 v) = wX c (xs_awake x v) := by
  funext k
  show (if k = 83 then _ else wX c x k) = _
  by_cases h1 : k < 11
  · rcases (show k = 0 ∨ k = 1 ∨ k = 2 ∨ k = 3 ∨ k = 4 ∨ k = 5 ∨ k = 6 ∨ k = 7 ∨ k = 8 ∨ k = 9 ∨ k = 10 by omega) with rfl | rfl | rfl | rfl | rfl | rfl | rfl | rfl | rfl | rfl | rfl <;> rfl
  by_cases h2 : k < 33
  · rw [if_neg (by omega)]
    simp only [wX, if_neg h1, if_pos h2]
  by_cases h3 : k = 33 ∨ k = 34 ∨ k = 79 ∨ k = 80 ∨ k = 81 ∨ k = 82 ∨ k = 83 ∨ k = 84
  · rcases h3 with rfl | rfl | rfl | rfl | rfl | rfl | rfl | rfl <;> rfl
  rw [if_neg (by omega)]
  have h33 : ¬ k = 33 := by omega
  have h34 : ¬ k = 34 := by omega
  by_cases h4 : k < 79
  · simp only [wX, if_neg h1, if_neg h2, if_neg h33, if_neg h34, if_pos h4]
  · simp only [wX, if_neg h1, if_neg h2, if_neg h33, if_neg h34, if_neg h4, wX2_big _ (show 6 ≤ k - 79 by omega)]
theorem wXa_order (c : CS) (x : XT) (v : Nat → Int32) : va_up (wX c x) 84 (xI 6 v) = wX c (xs_order x v) := by
  funext k
  show (if k = 84 then _ else wX c x k) = _
  by_cases h1 : k < 11
  · rcases (show k = 0 ∨ k = 1 ∨ k = 2 ∨ k = 3 ∨ k = 4 ∨ k = 5 ∨ k = 6 ∨ k = 7 ∨ k = 8 ∨ k = 9 ∨ k = 10 by omega) with rfl | rfl | rfl | rfl | rfl | rfl | rfl | rfl | rfl | rfl | rfl <;> rfl
  by_cases h2 : k < 33
  · rw [if_neg (by omega)]
    simp only [wX, if_neg h1, if_pos h2]
  by_cases h3 : k = 33 ∨ k = 34 ∨ k = 79 ∨ k = 80 ∨ k = 81 ∨ k = 82 ∨ k = 83 ∨ k = 84
  · rcases h3 with rfl | rfl | rfl | rfl | rfl | rfl | rfl | rfl <;> rfl
  rw [if_neg (by omega)]
  have h33 : ¬ k = 33 := by omega
  have h34 : ¬ k = 34 := by omega
  by_cases h4 : k < 79
  · simp only [wX, if_neg h1, if_neg h2, if_neg h33, if_neg h34, if_pos h4]
  · simp only [wX, if_neg h1, if_neg h2, if_neg h33, if_neg h34, if_neg h4, wX2_big _ (show 6 ≤ k - 79 by omega)]
theorem xsb_get (x : XT) (t : Nat) (b : BS) : x_bal (xsb x t b) t = b := if_pos rfl
theorem xsb_ne (x : XT) {t u : Nat} (b : BS) (h : u ≠ t) : x_bal (xsb x t b) u = x_bal x u := if_neg h
theorem xsb_xsb (x : XT) (t : Nat) (b b' : BS) : xsb (xsb x t b) t b' = xsb x t b' := by
  show xs_bal (xs_bal x _) _ = xs_bal x _
  have e : va_up (x_bal (xsb x t b)) t b' = va_up (x_bal x) t b' := by
    funext j
    show (if j = t then b' else if j = t then b else x_bal x j) = if j = t then b' else x_bal x j
    split <;> rfl
  rw [e]
theorem xsb_self (x : XT) (t : Nat) : xsb x t (x_bal x t) = x := by
  have e : va_up (x_bal x) t (x_bal x t) = x_bal x := by
    funext j
    show (if j = t then x_bal x t else x_bal x j) = x_bal x j
    split
    · rename_i h; rw [h]
    · rfl
  show xs_bal x (va_up (x_bal x) t (x_bal x t)) = x
  rw [e]
theorem wXbo_obj (c : CS) (x : XT) {t : Nat} (b : BS) (ht : t < 6) : wX c (xsb x t b) (xb t) = xO 0 (bFs t b) := by rw [wXb_obj _ _ ht, xsb_get]
theorem wXbo_above (c : CS) (x : XT) {t : Nat} (b : BS) (ht : t < 6) : wX c (xsb x t b) (xb t + 9) = xJ 7 (b_above b) := by rw [wXb_above _ _ ht, xsb_get]
theorem wXbo_spread (c : CS) (x : XT) {t : Nat} (b : BS) (ht : t < 6) : wX c (xsb x t b) (xb t + 10) = xJ 7 (b_spread b) := by rw [wXb_spread _ _ ht, xsb_get]
theorem wXbo_row (c : CS) (x : XT) {t i : Nat} (b : BS) (ht : t < 6) (hi : i < 7) : wX c (xsb x t b) (xb t + 2 + i) = xJ 7 (b_cell b i) := by rw [wXb_row _ _ ht hi, xsb_get]
theorem wXbd_obj (c : CS) (x : XT) {t u : Nat} (b : BS) (hu : u < 6) (h : u ≠ t) : wX c (xsb x t b) (xb u) = xO 0 (bFs u (x_bal x u)) := by rw [wXb_obj _ _ hu, xsb_ne _ _ h]
theorem wXbd_above (c : CS) (x : XT) {t u : Nat} (b : BS) (hu : u < 6) (h : u ≠ t) : wX c (xsb x t b) (xb u + 9) = xJ 7 (b_above (x_bal x u)) := by rw [wXb_above _ _ hu, xsb_ne _ _ h]
theorem wXbd_spread (c : CS) (x : XT) {t u : Nat} (b : BS) (hu : u < 6) (h : u ≠ t) : wX c (xsb x t b) (xb u + 10) = xJ 7 (b_spread (x_bal x u)) := by rw [wXb_spread _ _ hu, xsb_ne _ _ h]
theorem wXbd_row (c : CS) (x : XT) {t u i : Nat} (b : BS) (hu : u < 6) (h : u ≠ t) (hi : i < 7) : wX c (xsb x t b) (xb u + 2 + i) = xJ 7 (b_cell (x_bal x u) i) := by rw [wXb_row _ _ hu hi, xsb_ne _ _ h]
theorem wXbo_knots (c : CS) (x : XT) {t : Nat} (b : BS) (ht : t < 6) (v : Int32) : va_up (wX c (xsb x t b)) (xb t) (xO 0 ((bFs t b).set 0 (.int v))) = wX c (xsb x t (bs_knots b v)) := by
  have h := wXb_knots c (xsb x t b) ht v
  rw [xsb_get, xsb_xsb] at h
  exact h
theorem wXbo_below (c : CS) (x : XT) {t : Nat} (b : BS) (ht : t < 6) (v : Int64) : va_up (wX c (xsb x t b)) (xb t) (xO 0 ((bFs t b).set 1 (.long v))) = wX c (xsb x t (bs_below b v)) := by
  have h := wXb_below c (xsb x t b) ht v
  rw [xsb_get, xsb_xsb] at h
  exact h
theorem wXbo_sabove (c : CS) (x : XT) {t : Nat} (b : BS) (ht : t < 6) (v : Nat → Int64) : va_up (wX c (xsb x t b)) (xb t + 9) (xJ 7 v) = wX c (xsb x t (bs_above b v)) := by
  have h := wXb_sabove c (xsb x t b) ht v
  rw [xsb_get, xsb_xsb] at h
  exact h
theorem wXbo_sspread (c : CS) (x : XT) {t : Nat} (b : BS) (ht : t < 6) (v : Nat → Int64) : va_up (wX c (xsb x t b)) (xb t + 10) (xJ 7 v) = wX c (xsb x t (bs_spread b v)) := by
  have h := wXb_sspread c (xsb x t b) ht v
  rw [xsb_get, xsb_xsb] at h
  exact h
theorem wXbo_srow (c : CS) (x : XT) {t i : Nat} (b : BS) (ht : t < 6) (hi : i < 7) (j : Nat) (v : Int64) : va_up (wX c (xsb x t b)) (xb t + 2 + i) (xJ 7 (vp_updL (b_cell b i) j v)) = wX c (xsb x t (bs_cell b (upM (b_cell b) i j v))) := by
  have h := wXb_srow c (xsb x t b) ht hi j v
  rw [xsb_get, xsb_xsb] at h
  exact h
set_option maxHeartbeats 1000000 in
theorem xr_copyrow {l : Launch} {cc : ByteArray} {own : String} {nL : Nat} {ret : Option FieldType} {d : Nat} (κ : XC l xTX cc own nL ret d) {pc : Nat} {lv : List (Nat × Value)} {ω ω' : xWd} {ix : Nat} {f g : Nat → Int32} (hlk : Cond.methodLink own ix arraycopyName ∈ xB) (h2 : Cond.static arraycopyName ∈ xB) (h3 : Cond.native arraycopyName ∈ xB) (h4 : Cond.initialized "java/lang/System" ∈ xB) (hdd : 1 ≤ d) (hf : ω 79 = xI 12 f) (hg : ω 80 = xI 12 g) (hw : va_up ω 80 (xI 12 (va_cpy f g 0 0 12)) = ω') (hd : decode cc pc = .ok (.invokestatic ix, 3)) (kk : Wat κ (pc + 3) lv [] ω') : Wat κ pc lv [.int 12, .int 0, .ref 80, .int 0, .ref 79] ω := by
  obtain ⟨⟨⟨p, e, R⟩, ⟨s, m, args, below⟩, ⟨meth, c, cells, slots⟩, ⟨Q, A⟩, ⟨D, ad, cA⟩⟩, ⟨hx, hb, hml, hr, hts, hown, hlocks⟩, hK, hA, hroom⟩ := κ
  intro H locs ls hP hD hS hl
  have hK2 : va_K D vwCl [(cA 79, .int), (cA 80, .int)] s := ⟨hK.1, fun j q hj => by
    match j, hj with
    | 0, hj => cases hj; exact hK.2.1 79 _ (by decide) rfl
    | 1, hj => cases hj; exact hK.2.1 80 _ (by decide) rfl
    | j + 2, hj => simp at hj⟩
  have hlo := hroom.2.1
  refine va_copyi (a := ad 80) (a0 := ad 79) (n := 12) (sp := 0) (dp := 0) (c0 := cA 79) (c1 := cA 80) (n0 := 12) (n1 := 12) (f := f) (g := g) (ty := .int) hx hb (by rw [hml]; exact hl.1.symm) hown (hts _ hlk) (hts _ h3) (hts _ h2) (hts _ h4) hK2 hP hD hS 79 80 0 1 (by rw [xW_get (by decide), hf]; rfl) (by rw [xW_get (by decide), hg]; rfl) rfl rfl rfl (by decide) (by decide) (by decide) (by decide) (by decide) (fun _ _ => rfl) (Nat.le_trans hdd hroom.1) (Nat.le_trans (show 0 + (nativeFrameWords "java/lang/System" "arraycopy" 5 + 11) ≤ 40 * 1 by decide) (Nat.le_trans (Nat.mul_le_mul_left 40 hdd) hlo)) hd (fun H1 locs1 hP1 hD1 hS1 => ?_)
  have e9 : (xW ad cA xTX.1 ω).set 80 (ad 80, xe ad cA 80 (xI 12 (va_cpy f g 0 0 12))) = xW ad cA xTX.1 ω' := by rw [xW_set, hw]
  have hP2 : va_P D vwCl ((xW ad cA xTX.1 ω).set 80 (ad 80, xe ad cA 80 (xI 12 (va_cpy f g 0 0 12)))) H1 := hP1
  have hD2 : va_D A ((xW ad cA xTX.1 ω).set 80 (ad 80, xe ad cA 80 (xI 12 (va_cpy f g 0 0 12)))) := hD1
  rw [e9] at hP2 hD2
  exact kk H1 locs1 ls hP2 hD2 hS1 hl
