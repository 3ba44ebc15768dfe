/-! PURE: WORKING OUT. A state: names (bound, being worked out, VALUE kept), STEPS, FAILURES, THE STORE. A failure is NONE plus its code. -/
abbrev lz_W : Type := (Nat → Bool × Bool × Int64) × Nat × Nat × lz_S
abbrev lz_F : Type := List Int32 → Nat → lz_W → Int64 × lz_W
def lz_nd (t : List Int32) (p : Nat) : Nat := (lz_rd t 8 p).2
def lz_setN (w : lz_W) (i : Nat) (x : Bool × Bool × Int64) : lz_W := (fun j => if j = i then x else w.1 j, w.2)
def lz_name (f : lz_F) (T : Nat → List Int32) (i : Nat) (w : lz_W) : Int64 × lz_W :=
  if (w.1 i).1 = false then (-1000000000004, w)
  else if (w.1 i).2.1 = true then (-1000000000008, w)
  else if ¬ (w.1 i).2.2 = -1000000000000 then ((w.1 i).2.2, w)
  else
    let r := f (T i) 0 (lz_setN w i ((w.1 i).1, true, (w.1 i).2.2))
    (r.1, lz_setN r.2 i ((r.2.1 i).1, false, if lz_bad r.1 = true then (r.2.1 i).2.2 else r.1))
def lz_comb (c x y : Int32) : Int32 := if c = 43 then x + y else if c = 45 then x - y else if c = 42 then x * y else if x < y then 1 else 0
def lz_pair (f : lz_F) (t : List Int32) (p : Nat) (w : lz_W) : Int64 × lz_W :=
  let r := f t (p + 1) w
  if lz_bad r.1 = true then r
  else
    let q := f t (lz_nd t (p + 1)) r.2
    if lz_bad q.1 = true then q
    else if (lz_pl r.1 || lz_pl q.1) = true then (-1000000000005, q.2)
    else ((lz_comb (lz_cd t p) r.1.toInt32 q.1.toInt32).toInt64, q.2)
def lz_choice (f : lz_F) (t : List Int32) (p : Nat) (w : lz_W) : Int64 × lz_W :=
  let r := f t (p + 1) w
  if lz_bad r.1 = true then r
  else if lz_pl r.1 = true then (-1000000000005, r.2)
  else f t (if ¬ r.1 = 0 then lz_nd t (p + 1) else lz_nd t (lz_nd t (p + 1))) r.2
def lz_abort (f : lz_F) (t : List Int32) (p : Nat) (w : lz_W) : Int64 × lz_W :=
  let r := f t (p + 1) w
  if lz_bad r.1 = true then r else (-1000000000006, r.2)
def lz_good (v : Int64) : Bool := decide (v = -1000000000004) || decide (v = -1000000000005) || decide (v = -1000000000006) || decide (v = -1000000000007)
def lz_try (f : lz_F) (t : List Int32) (p : Nat) (w : lz_W) : Int64 × lz_W :=
  let r := f t (p + 1) w
  if lz_good r.1 = false then r else f t (lz_nd t (p + 1)) (r.2.1, r.2.2.1, r.2.2.2.1 + 1, r.2.2.2.2)
/-- the list of a D: what it came to, the INPUTS, the state -/
def lz_list (f : lz_F) (t : List Int32) : Nat → Nat → List Int64 → lz_W → Int64 × List Int64 × lz_W
  | 0, _, vs, w => (0, vs, w)
  | n + 1, p, vs, w =>
    if lz_cd t p = 41 then (0, vs, w)
    else if lz_bad (f t p w).1 = true then ((f t p w).1, vs, (f t p w).2)
    else lz_list f t n (lz_nd t p) (vs ++ [(f t p w).1]) (f t p w).2
def lz_plan (f : lz_F) (t : List Int32) (p : Nat) (w : lz_W) : Int64 × lz_W :=
  let r := lz_list f t 4 (p + 3) [] w
  if lz_bad r.1 = true then (r.1, r.2.2)
  else ((lz_of r.2.2.2.2.2 (lz_cd t (p + 1) - 48) r.2.1).1, (r.2.2.1, r.2.2.2.1, r.2.2.2.2.1, (lz_of r.2.2.2.2.2 (lz_cd t (p + 1) - 48) r.2.1).2))
def lz_result (f : lz_F) (t : List Int32) (p : Nat) (w : lz_W) : Int64 × lz_W :=
  let r := f t (p + 1) w
  if lz_bad r.1 = true then r
  else if lz_pl r.1 = true then ((lz_pt 30 r.2.2.2.2 r.1).1, (r.2.1, r.2.2.1, r.2.2.2.1, (lz_pt 30 r.2.2.2.2 r.1).2))
  else (-1000000000005, r.2)
def lz_body (f : lz_F) (T : Nat → List Int32) (t : List Int32) (p : Nat) (w : lz_W) : Int64 × lz_W :=
  let c := lz_cd t p
  if lz_dg c = true then ((c - 48).toInt64, w)
  else if lz_lt c = true then lz_name f T (c - 97).toNatClampNeg w
  else if c = 63 then lz_choice f t p w
  else if c = 33 then lz_abort f t p w
  else if c = 84 then lz_try f t p w
  else if c = 68 then lz_plan f t p w
  else if c = 79 then lz_result f t p w
  else lz_pair f t p w
/-- an EXPRESSION is worked out; n: more than the STEPS that are left -/
def lz_ev (T : Nat → List Int32) : Nat → lz_F
  | 0, _, _, w => (-1000000000010, w)
  | n + 1, t, p, w => if 200 ≤ w.2.1 then (-1000000000010, w) else lz_body (lz_ev T n) T t p (w.1, w.2.1 + 1, w.2.2)
def lz_okW (T : Nat → List Int32) (w : lz_W) : Prop := (∀ i, i < 8 → ((w.1 i).1 = true → lz_rd (T i) 8 0 = (true, (T i).length)) ∧ ((w.1 i).2.2 = -1000000000000 ∨ lz_V w.2.2.2.2.1 (w.1 i).2.2)) ∧ lz_okS w.2.2.2
/-- what a working out leaves as it was, and what it is -/
def lz_st (T : Nat → List Int32) (c : Nat) (w : lz_W) (r : Int64 × lz_W) : Prop :=
  lz_okW T r.2 ∧ w.2.2.2.2.1 ≤ r.2.2.2.2.2.1 ∧ (lz_bad r.1 = true ∨ lz_V r.2.2.2.2.2.1 r.1) ∧ w.2.1 ≤ r.2.2.1 ∧ r.2.2.2.1 + w.2.1 ≤ w.2.2.1 + r.2.2.1 + c ∧ (∀ i, (r.2.1 i).1 = (w.1 i).1 ∧ (r.2.1 i).2.1 = (w.1 i).2.1) ∧ r.2.2.1 ≤ max 200 w.2.1
def lz_b' (x : Bool) : Nat := if x = true then 1 else 0
