/-! THE CLAIM OUT OF ONE WALK OF THE LAW'S BODY. Your part is whole_start (and what it stands on); all else here is the same for every law, but numbers. -/
def R_law : String := "LazyBuilderLaw"
def lw_P (b : Addr) (xs : List Int32) (args : Array Value) (s : State) : Prop := args = #[.ref b] ∧ s.IntsAt b xs ∧ xs.length ≤ 1536 ∧ (Jvm.Cond.and given_1 narrow_1).before args s = true
def lw_Q (_ : Array Value) (s : State) (o : Outcome) (t : State) : Prop := o = .returned (some (.int 1)) ∧ Framed s o t [] 600000 7302250
def lw_Z (below : List Frame) (a : Array Value) (s : State) : State → Prop := fun t => ∃ o, t.status = .running ∧ Ended t below o ∧ lw_Q a s o t
/-- the law's own end, with 1 on the stack, nothing written that was there before, its room as the claim has it -/
theorem lw_ret {p : Program} {l : Launch} {e : Env} {s : State} {m : MethodId} {below : List Frame} {meth : Method} {c : Code} {b : Nat} (hx : p.tables.exec = Jvm.exec) (hb : c.code = code) (hr : meth.sig.returnType = ret) (hlocks : meth.locks = false) {pc : Nat} {H : Heap} {ls : Array Slot} (hdg : decode code pc = .ok (.ireturn, 1)) : W p l e room_1 s m #[Value.ref b] below meth c H [] 600000 7302250 (lw_Z below #[Value.ref b] s) (F0 m pc ls [.int 1]) := by
  intro T hT X
  obtain ⟨fs, hret, hrun, hended, hW, hframe⟩ := X.leave (v := some (.int 1)) (hlocks := hlocks) (fun h => by rw [hr] at h; cases h)
  have hmeth' : T.vm.method? m = some meth := X.method'
  refine ⟨T.setFrames fs, ?_, .returned (some (.int 1)), hrun, hended, rfl, ⟨_, rfl⟩, hW, hframe⟩
  jvm_step X.here [X.here.top, hx, hb, hdg, hmeth', hr, ret, narrow_b1]
  (try refine ⟨rfl, ?_⟩); (try refine ⟨rfl, ?_⟩)
  first | (intro acts; rw [hret _ acts rfl rfl rfl]) | rw [hret _ _ rfl rfl rfl]
  exact Steps.refl _
/-- what holds at the law's entry: the machine, the code, the tables' words (any of lw_tbl by 'hts w (by decide +kernel)'), the script of L ints xs at the cell b, what the Statement gives of the start (any of its parts by flat_of_before) -/
def lw_At (p : Program) (s : State) (m : MethodId) (meth : Method) (c : Code) (b L : Nat) (xs : Nat → Int32) : Prop :=
  p.tables.exec = Jvm.exec ∧ c.code = code ∧ meth.sig.returnType = ret ∧ c.maxLocals = 4 ∧ s.vm.findClass R_law = some m.cls ∧ (∀ w ∈ lw_tbl, w.before #[Value.ref b] s = true) ∧ va_X b L xs s s.heap ∧ b < s.heap.size ∧ meth.locks = false ∧ (Jvm.Cond.and given_1 narrow_1).before #[Value.ref b] s = true ∧ meth.name = x.name
/-- from the entry, for every script, the law comes to its end with true -/
theorem whole_start {p : Program} {e : Env} {s : State} {m : MethodId} {below : List Frame} {meth : Method} {c : Code} (l : Launch) {b L : Nat} {xs : Nat → Int32} (hL : L ≤ 1536) (C0 : lw_At p s m meth c b L xs) : W p l e room_1 s m #[Value.ref b] below meth c s.heap [] 0 0 (lw_Z below #[Value.ref b] s) (entryFrame m ([Value.ref b] : List Value).toArray 4) := by
  obtain ⟨hx, hb, hr, hml, hown, hts, hX, hbl, hlocks, hgv, hnm⟩ := C0
  obtain ⟨scr, hcb, hof, hkn, hsz, hval⟩ := hX
  obtain ⟨G, hG, hG1, hK⟩ := sw_K (H := s.heap) hts hof
  have hvl : scr.slots.toList.length = L := by rw [Array.length_toList]; exact hsz
  have hv : ∀ j, j < L → scr.slots.toList[j]? = some (.int (xs j)) := fun j hj => by rw [Array.getElem?_toList]; exact hval j hj
  obtain ⟨hs, ehs⟩ : ∃ hs : mx_H, hs = (fun q => if q = b then some (101, scr.slots.toList) else none, s.heap.size, 0) := ⟨_, rfl⟩
  have z1 : hs.2.1 = s.heap.size := by rw [ehs]
  have z2 : hs.2.2 = 0 := by rw [ehs]
  have hat : ∀ q x, hs.1 q = some x → q = b ∧ x = (101, scr.slots.toList) := by
    intro q x h
    rw [ehs] at h
    have h : (if q = b then some (101, scr.slots.toList) else none) = some x := h
    by_cases hq : q = b
    · rw [if_pos hq] at h
      exact ⟨hq, (Option.some.inj h).symm⟩
    · rw [if_neg hq] at h
      cases h
  have hsc : hs.1 b = some (101, scr.slots.toList) := by rw [ehs]; exact if_pos rfl
  have hw : mx_wf hs := fun q x h => by rw [(hat q x h).1, z1]; exact hbl
  have hR : mx_R mx_S0 G hs s.heap := by
    refine ⟨z1.symm, fun a x h => ?_, fun q _ => by rw [hG], by rw [hG]; exact Nat.le_refl _⟩
    obtain ⟨rfl, rfl⟩ := hat a x h
    exact ⟨mx_cell.ofArr (by decide) hcb hG1.symm hkn hof.1 (by simp), fun q => absurd rfl q⟩
  have hF : mx_Fix mx_S0 mm_LW_law p s m #[Value.ref b] meth c := ⟨hx, hb, hml, hr, hlocks, hown, hnm, fun w h => hts w (List.mem_filter.mp h).1⟩
  obtain ⟨r, fin, ⟨h1, h2, h3⟩, hq1, hq2, hq3⟩ := lw_all (l := l) (G := G) hsc hw hv hvl (by omega)
  have hl := lv_entry ([.ref b]) (n := 4) (Nat.le_of_ble_eq_true rfl)
  rw [lg_entry_eq]
  generalize (lg_sl ([.ref b]) ++ List.replicate (4 - (lg_sl ([.ref b])).length) Slot.unset).toArray = ls at hl ⊢
  have hl : lv_has ls 4 [(0, .ref b)] := hl
  subst hq1
  rw [z1] at hq2
  rw [z2] at hq3
  refine h3 p e room_1 s m _ below meth c s.heap [] 0 0 ls _ hF hK hR hl (fun q h => by cases h) (Nat.le_of_ble_eq_true rfl) (Nat.le_of_ble_eq_true rfl) (by rw [z1]; show 0 + (fin.2.1 - s.heap.size) ≤ 600000; omega) (by rw [z2]; show 0 + (fin.2.2 - 0) ≤ 7302250; omega) (fun pc' ls' H' locs' hR' hlo' hr' => ?_)
  refine va_forget (fun q h => by have := hlo' q h; rw [hG] at this; exact this) ?_
  refine W.widen (k := 600000) (n := 7302250) (by rw [z1]; omega) (by rw [z2]; omega) ?_
  rcases hr' with ⟨v, ty, e1, e2, e3, e4⟩ | ⟨v, e1, e2⟩ | ⟨e1, e2⟩ | ⟨v, ty, e1, e2, e3, e4, e5⟩
  · exact lw_ret hx hb hr hlocks e4
  · cases e1
  · cases e1
  · cases e1
    rcases e4 with h | ⟨a, h⟩ <;> cases h
