/-! THE CLASS's calls: show, builder, build, root, input, plan, count. -/
def so_builder (x y : Int32) (o : lz_O) : Int32 × lz_O :=
  if x < 0 ∨ 10 ≤ x ∨ y < 0 ∨ ¬ y ≤ 4 then (-1, o)
  else (0, (o.1, o.2.1, o.2.2.1, o.2.2.2.1, o.2.2.2.2.1, o.2.2.2.2.2.1, o.2.2.2.2.2.2.1, o.2.2.2.2.2.2.2.1, o.2.2.2.2.2.2.2.2.1, fun i => if i = x.toNatClampNeg then y else o.2.2.2.2.2.2.2.2.2.1 i, o.2.2.2.2.2.2.2.2.2.2))
def lz_sto (o : lz_O) : lz_S := o.2.2.2.2.2.2.2
/-- no PLAN has the number -/
def so_np (x : Int32) (o : lz_O) : Bool := decide (x < 1) || decide (nI (lz_sz o) < x)
def so_build (x : Int32) (o : lz_O) : Int32 × lz_O :=
  if so_np x o = true then (-1, o)
  else if 30 ≤ o.2.2.2.2.2.2.1 then (-11, o)
  else
    let r := lz_pt 30 (lz_sto o) (lz_pv (x.toNatClampNeg - 1))
    ((so_ans r.1 (o.2.2.2.2.1, o.2.2.2.2.2.1, o.2.2.2.2.2.2.1, r.2)).1, (o.1, o.2.1, o.2.2.1, o.2.2.2.1, (so_ans r.1 (o.2.2.2.2.1, o.2.2.2.2.2.1, o.2.2.2.2.2.2.1, r.2)).2))
def so_root (x : Int32) (on : Bool) (o : lz_O) : Int32 × lz_O :=
  if so_np x o = true then (-1, o)
  else
    let p := (lz_sto o).1 (x.toNatClampNeg - 1)
    (0, (o.1, o.2.1, o.2.2.1, o.2.2.2.1, o.2.2.2.2.1, o.2.2.2.2.2.1, o.2.2.2.2.2.2.1, lz_setP (lz_sto o) (x.toNatClampNeg - 1) (p.1, p.2.1, p.2.2.1, p.2.2.2.1, on)))
def so_input (x y : Int32) (o : lz_O) : Int64 :=
  if so_np x o = true then -1000000000000
  else if y < 0 then -1000000000000
  else if y < nI ((lz_sto o).1 (x.toNatClampNeg - 1)).2.1.length then ((lz_sto o).1 (x.toNatClampNeg - 1)).2.1.getD y.toNatClampNeg 0 else -1000000000000
def so_plan (x y : Int32) (o : lz_O) : Int32 :=
  if so_np x o = true then -1
  else
    let p := (lz_sto o).1 (x.toNatClampNeg - 1)
    if y = 0 then p.1 else if y = 1 then nI p.2.1.length else if y = 2 then lz_b p.2.2.1 else if y = 3 then p.2.2.2.1 else if y = 4 then lz_b p.2.2.2.2 else -1
def so_count (x : Int32) (o : lz_O) : Int32 :=
  if x = 0 then nI (lz_sz o) else if x = 1 then nI (lz_sto o).2.2.2 else if x = 2 then nI o.2.2.2.2.2.1 else if x = 3 then nI o.2.2.2.2.2.2.1 else if x = 4 then nI o.1.length else if x = 5 then o.2.1
  else if x = 6 then nI (lz_cnt (fun i => (o.2.2.2.2.1 i).1) 8) else if x = 7 then nI (lz_cnt (fun i => decide (¬ (o.2.2.2.2.1 i).2.2 = -1000000000000)) 8) else -1
section CO3
variable {l : Launch} {G : mx_G} {d b : Nat} {hs : mx_H} {Q : Option Value → mx_H → Prop} {o : lz_O}
theorem lb_ob.size (h : lb_ob hs b o) : lz_sz o ≤ 30 := by
  obtain ⟨A, wq, L, es0, dp0, bq0, h1, h2, h3, -⟩ := h
  exact h3.ok.2.1
theorem so_np_t {x : Int32} (h : x < 1 ∨ nI (lz_sz o) < x) : so_np x o = true := by
  unfold so_np
  rcases h with h | h
  · rw [decide_eq_true h]
    rfl
  · rw [decide_eq_true h]
    simp
theorem so_np_f {j : Nat} (hz : lz_sz o ≤ 30) (hj : j < lz_sz o) : so_np (nI (j + 1)) o = false := by
  unfold so_np
  rw [decide_eq_false (show ¬ nI (j + 1) < 1 from nI_nlt (b := 1) (by omega) (by omega)), decide_eq_false (show ¬ nI (lz_sz o) < nI (j + 1) from nI_nlt (by omega) (by omega))]
  rfl
theorem lz_nI1 {j : Nat} (hj : j < 2 ^ 30) : (nI (j + 1)).toNatClampNeg - 1 = j := by
  rw [nI_clamp (by omega)]
  rfl
theorem c_input {x y : Int32} (h : lb_ob hs b o) (k : Q (some (.long (so_input x y o))) hs) : mx_C mx_S0 l G (d + 3) mm_LB_input [.ref b, .int x, .int y] hs Q := by
  have hz := h.size
  obtain ⟨A, wq, L, es0, dp0, bq0, h1, h2, h3, -⟩ := h
  unfold so_input at k
  refine wp_LB_input_0 _ _ _ ⟨_, ⟨_, h1, rfl⟩, ⟨_, h3.sto.at⟩, c_planAt h3.sto (fun z => ⟨_, rfl, Or.inl rfl, fun _ => ?_, fun _ e => by cases e⟩) (fun j hj e => ⟨_, rfl, Or.inr ⟨_, rfl⟩, fun e => (by cases e), fun a ea => ?_⟩)⟩
  · rw [if_pos (so_np_t z)] at k
    exact k
  · cases ea
    subst e
    have hj : j < lz_sz o := hj
    rw [if_neg (by rw [so_np_f hz hj]; decide), lz_nI1 (by omega)] at k
    obtain ⟨p1, p2⟩ := h3.sto.plan hj
    refine ⟨fun z => ?_, fun z => ⟨_, ⟨_, p1, rfl⟩, _, p2, fun y2 => ?_, fun y2 => ?_⟩⟩
    · rw [if_pos z] at k
      exact k
    · rw [List.length_map] at y2
      rw [if_neg z, if_pos (show y < nI ((lz_sto o).1 j).2.1.length from y2)] at k
      obtain ⟨i, hi, rfl⟩ := nI_of z
      have hl := (h3.sto.ok.2.1 j hj).1
      have hlt : i < ((lz_sto o).1 j).2.1.length := (nI_ltI hi (by show ((lz_sto o).1 j).2.1.length < _; unfold lz_sto; omega)).mp y2
      rw [nI_clamp hi, List.getD_eq_getElem?_getD, List.getElem?_eq_getElem hlt] at k
      exact ⟨_, ⟨_, p1, rfl⟩, _, _, p2, z, by rw [nI_clamp hi]; exact lz_longs (List.getElem?_eq_getElem hlt), k⟩
    · rw [List.length_map] at y2
      rw [if_neg z, if_neg (show ¬ y < nI ((lz_sto o).1 j).2.1.length from y2)] at k
      exact k
theorem c_plan {x y : Int32} (h : lb_ob hs b o) (k : Q (some (.int (so_plan x y o))) hs) : mx_C mx_S0 l G (d + 3) mm_LB_plan [.ref b, .int x, .int y] hs Q := by
  have hz := h.size
  obtain ⟨A, wq, L, es0, dp0, bq0, h1, h2, h3, -⟩ := h
  unfold so_plan at k
  refine wp_LB_plan_0 _ _ _ ⟨_, ⟨_, h1, rfl⟩, ⟨_, h3.sto.at⟩, c_planAt h3.sto (fun z => ⟨_, rfl, Or.inl rfl, fun _ => ?_, fun _ e => by cases e⟩) (fun j hj e => ⟨_, rfl, Or.inr ⟨_, rfl⟩, fun e => (by cases e), fun a ea => ?_⟩)⟩
  · rw [if_pos (so_np_t z)] at k
    exact k
  · cases ea
    subst e
    have hj : j < lz_sz o := hj
    rw [if_neg (by rw [so_np_f hz hj]; decide), lz_nI1 (by omega)] at k
    simp only at k
    obtain ⟨p1, p2⟩ := h3.sto.plan hj
    refine ⟨fun z => ?_, fun z => ?_, fun z => ?_, fun z => ?_, fun z => ?_, fun z0 z1 z2 z3 z4 => ?_⟩
    · rw [if_pos z] at k
      exact ⟨_, ⟨_, p1, rfl⟩, k⟩
    · subst z
      exact ⟨_, ⟨_, p1, rfl⟩, _, p2, by rw [List.length_map]; exact k⟩
    · subst z
      refine ⟨_, ⟨_, p1, rfl⟩, fun q => ?_, fun q => ?_⟩
      · have q : lz_b ((lz_sto o).1 j).2.2.1 = 0 := q
        rw [if_neg (by decide), if_neg (by decide), if_pos rfl, q] at k
        exact k
      · have q : ¬ lz_b ((lz_sto o).1 j).2.2.1 = 0 := q
        rw [if_neg (by decide), if_neg (by decide), if_pos rfl, lz_b1.mp q] at k
        exact k
    · subst z
      exact ⟨_, ⟨_, p1, rfl⟩, k⟩
    · subst z
      refine ⟨_, ⟨_, p1, rfl⟩, fun q => ?_, fun q => ?_⟩
      · have q : lz_b ((lz_sto o).1 j).2.2.2.2 = 0 := q
        rw [if_neg (by decide), if_neg (by decide), if_neg (by decide), if_neg (by decide), if_pos rfl, q] at k
        exact k
      · have q : ¬ lz_b ((lz_sto o).1 j).2.2.2.2 = 0 := q
        rw [if_neg (by decide), if_neg (by decide), if_neg (by decide), if_neg (by decide), if_pos rfl, lz_b1.mp q] at k
        exact k
    · rw [if_neg z0, if_neg z1, if_neg z2, if_neg z3, if_neg z4] at k
      exact k
theorem c_count {x : Int32} (h : lb_ob hs b o) (k : Q (some (.int (so_count x o))) hs) : mx_C mx_S0 l G (d + 2) mm_LB_count [.ref b, .int x] hs Q := by
  obtain ⟨A, wq, L, es0, dp0, bq0, h1, h2, h3, -⟩ := h
  unfold so_count at k
  refine wp_LB_count_0 _ _ ⟨fun z => ?_, fun z => ?_, fun z => ?_, fun z => ?_, fun z => ?_, fun z => ?_, fun z => ?_, fun z => ?_, fun z0 z1 z2 z3 z4 z5 z6 z7 => ?_⟩
  · subst z
    exact ⟨_, ⟨_, h1, rfl⟩, _, ⟨_, h3.sto.at, rfl⟩, k⟩
  · subst z
    exact ⟨_, ⟨_, h1, rfl⟩, _, ⟨_, h3.sto.at, rfl⟩, k⟩
  · subst z
    exact ⟨_, ⟨_, h1, rfl⟩, _, ⟨_, h3.at, rfl⟩, k⟩
  · subst z
    exact ⟨_, ⟨_, h1, rfl⟩, _, ⟨_, h3.at, rfl⟩, k⟩
  · subst z
    exact ⟨_, ⟨_, h1, rfl⟩, _, ⟨_, h2.at, rfl⟩, k⟩
  · subst z
    exact ⟨_, ⟨_, h1, rfl⟩, k⟩
  · subst z
    exact ⟨_, ⟨_, h1, rfl⟩, ⟨_, h3.at⟩, c_namesBound h3 ⟨_, rfl, k⟩⟩
  · subst z
    exact ⟨_, ⟨_, h1, rfl⟩, ⟨_, h3.at⟩, c_namesKept h3 ⟨_, rfl, k⟩⟩
  · rw [if_neg z0, if_neg z1, if_neg z2, if_neg z3, if_neg z4, if_neg z5, if_neg z6, if_neg z7] at k
    exact k
end CO3
